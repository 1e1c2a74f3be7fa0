/-! Lifted methods 1 (written by wip/whole/lift.py): decode rows, functions, proofs. -/
def zD_189 : List (Nat × Instr × Nat) := [(0, .aload_n (0), 1), (1, .getfield (9), 3), (4, .bipush (6), 2), (6, .iaload, 1), (7, .ireturn, 1)]
set_option maxRecDepth 100000 in
theorem zD_189_ok : zDo 189 zD_189 = true := by decide +kernel
theorem zc_189 : zcls 189 = 8 := by decide +kernel
theorem zm_189 : zml 189 = 1 := by decide +kernel
theorem zt_189 : zrt 189 = (some (.int)) := by decide +kernel
theorem zk_189 : zkd 189 = 1 ∧ znp 189 + 1 = 1 := by decide +kernel
theorem zr_189 (as : List zV) : zrk 189 as = 0 := by unfold zrk; rw [if_neg (by decide)]; decide +kernel
def lm_names (M : Nat → Nat → Int) : Option Int :=
    ((rdI 107 (6 : Int) M).bind (fun v6 =>
    (some v6)))
set_option maxRecDepth 100000 in
theorem ok_lm_names {sc : zSc} {M : Nat → Nat → Int} {P : Int → (Nat → Nat → Int) → Prop} (h : zS (lm_names M) (fun x => P x M)) : zCi sc 189 [.inr (.inr 106)] M P := by
  have ea : zarg (zml 189) [.inr (.inr 106)] = [some (.inr (.inr 106))] := by rw [zm_189]; rfl
  unfold zCi zCw
  rw [ea, zr_189]
  have hq : 0 ≤ 0 := Nat.le_refl _
  unfold lm_names at h
  have h := zS_mono h (fun x hx => (⟨x, rfl, hx⟩ : ∃ y, (some (.inl x) : Option zV) = some (.inl y) ∧ P y M))
  skip
  refine E_aload_n (pc := 0) (zDk zD_189_ok 0 rfl) rfl ?_
  refine E_getR (pc := 1) (ci := 8) (f := 1) (r := 107) (zDk zD_189_ok 1 rfl) zc_189 (by decide +kernel) (by decide) zis_8_106 (by decide +kernel) (by decide) ?_
  refine E_bipush (pc := 4) (zDk zD_189_ok 2 rfl) (by decide +kernel) ?_
  obtain ⟨v6, e6, h⟩ := zS_bind h
  refine E_iaload (pc := 6) (zDk zD_189_ok 3 rfl) e6 ?_
  have h := zS_some h
  exact E_ireturn (pc := 7) (zDk zD_189_ok 4 rfl) zt_189 h
def zD_190 : List (Nat × Instr × Nat) := [(0, .aload_n (0), 1), (1, .getfield (9), 3), (4, .bipush (42), 2), (6, .bipush (12), 2), (8, .iload_n (1), 1), (9, .imul, 1), (10, .iadd, 1), (11, .iload_n (2), 1), (12, .iadd, 1), (13, .iaload, 1), (14, .ireturn, 1)]
set_option maxRecDepth 100000 in
theorem zD_190_ok : zDo 190 zD_190 = true := by decide +kernel
theorem zc_190 : zcls 190 = 8 := by decide +kernel
theorem zm_190 : zml 190 = 3 := by decide +kernel
theorem zt_190 : zrt 190 = (some (.int)) := by decide +kernel
theorem zk_190 : zkd 190 = 1 ∧ znp 190 + 1 = 3 := by decide +kernel
theorem zr_190 (as : List zV) : zrk 190 as = 0 := by unfold zrk; rw [if_neg (by decide)]; decide +kernel
def lm_of (x1 : Int) (x2 : Int) (M : Nat → Nat → Int) : Option Int :=
    ((rdI 107 (w32 ((w32 ((42 : Int) + (w32 ((12 : Int) * x1)))) + x2)) M).bind (fun v13 =>
    (some v13)))
set_option maxRecDepth 100000 in
theorem ok_lm_of {sc : zSc} {x1 : Int} {x2 : Int} {M : Nat → Nat → Int} {P : Int → (Nat → Nat → Int) → Prop} (h : zS (lm_of x1 x2 M) (fun x => P x M)) : zCi sc 190 [.inr (.inr 106), .inl x1, .inl x2] M P := by
  have ea : zarg (zml 190) [.inr (.inr 106), .inl x1, .inl x2] = [some (.inr (.inr 106)), some (.inl x1), some (.inl x2)] := by rw [zm_190]; rfl
  unfold zCi zCw
  rw [ea, zr_190]
  have hq : 0 ≤ 0 := Nat.le_refl _
  unfold lm_of at h
  have h := zS_mono h (fun x hx => (⟨x, rfl, hx⟩ : ∃ y, (some (.inl x) : Option zV) = some (.inl y) ∧ P y M))
  skip
  refine E_aload_n (pc := 0) (zDk zD_190_ok 0 rfl) rfl ?_
  refine E_getR (pc := 1) (ci := 8) (f := 1) (r := 107) (zDk zD_190_ok 1 rfl) zc_190 (by decide +kernel) (by decide) zis_8_106 (by decide +kernel) (by decide) ?_
  refine E_bipush (pc := 4) (zDk zD_190_ok 2 rfl) (by decide +kernel) ?_
  refine E_bipush (pc := 6) (zDk zD_190_ok 3 rfl) (by decide +kernel) ?_
  refine E_iload_n (pc := 8) (zDk zD_190_ok 4 rfl) rfl ?_
  refine W_imul (pc := 9) (zDk zD_190_ok 5 rfl) ?_
  refine W_iadd (pc := 10) (zDk zD_190_ok 6 rfl) ?_
  refine E_iload_n (pc := 11) (zDk zD_190_ok 7 rfl) rfl ?_
  refine W_iadd (pc := 12) (zDk zD_190_ok 8 rfl) ?_
  obtain ⟨v13, e13, h⟩ := zS_bind h
  refine E_iaload (pc := 13) (zDk zD_190_ok 9 rfl) e13 ?_
  have h := zS_some h
  exact E_ireturn (pc := 14) (zDk zD_190_ok 10 rfl) zt_190 h
def zD_191 : List (Nat × Instr × Nat) := [(0, .aload_n (0), 1), (1, .getfield (9), 3), (4, .bipush (102), 2), (6, .iload_n (1), 1), (7, .iadd, 1), (8, .iaload, 1), (9, .ireturn, 1)]
set_option maxRecDepth 100000 in
theorem zD_191_ok : zDo 191 zD_191 = true := by decide +kernel
theorem zc_191 : zcls 191 = 8 := by decide +kernel
theorem zm_191 : zml 191 = 2 := by decide +kernel
theorem zt_191 : zrt 191 = (some (.int)) := by decide +kernel
theorem zk_191 : zkd 191 = 1 ∧ znp 191 + 1 = 2 := by decide +kernel
theorem zr_191 (as : List zV) : zrk 191 as = 0 := by unfold zrk; rw [if_neg (by decide)]; decide +kernel
def lm_namesOf (x1 : Int) (M : Nat → Nat → Int) : Option Int :=
    ((rdI 107 (w32 ((102 : Int) + x1)) M).bind (fun v8 =>
    (some v8)))
set_option maxRecDepth 100000 in
theorem ok_lm_namesOf {sc : zSc} {x1 : Int} {M : Nat → Nat → Int} {P : Int → (Nat → Nat → Int) → Prop} (h : zS (lm_namesOf x1 M) (fun x => P x M)) : zCi sc 191 [.inr (.inr 106), .inl x1] M P := by
  have ea : zarg (zml 191) [.inr (.inr 106), .inl x1] = [some (.inr (.inr 106)), some (.inl x1)] := by rw [zm_191]; rfl
  unfold zCi zCw
  rw [ea, zr_191]
  have hq : 0 ≤ 0 := Nat.le_refl _
  unfold lm_namesOf at h
  have h := zS_mono h (fun x hx => (⟨x, rfl, hx⟩ : ∃ y, (some (.inl x) : Option zV) = some (.inl y) ∧ P y M))
  skip
  refine E_aload_n (pc := 0) (zDk zD_191_ok 0 rfl) rfl ?_
  refine E_getR (pc := 1) (ci := 8) (f := 1) (r := 107) (zDk zD_191_ok 1 rfl) zc_191 (by decide +kernel) (by decide) zis_8_106 (by decide +kernel) (by decide) ?_
  refine E_bipush (pc := 4) (zDk zD_191_ok 2 rfl) (by decide +kernel) ?_
  refine E_iload_n (pc := 6) (zDk zD_191_ok 3 rfl) rfl ?_
  refine W_iadd (pc := 7) (zDk zD_191_ok 4 rfl) ?_
  obtain ⟨v8, e8, h⟩ := zS_bind h
  refine E_iaload (pc := 8) (zDk zD_191_ok 5 rfl) e8 ?_
  have h := zS_some h
  exact E_ireturn (pc := 9) (zDk zD_191_ok 6 rfl) zt_191 h
def zD_192 : List (Nat × Instr × Nat) := [(0, .aload_n (0), 1), (1, .getfield (103), 3), (4, .bipush (20), 2), (6, .iadd, 1), (7, .sipush (900), 3), (10, .if_icmp .le (5), 3), (13, .iconst (-1), 1), (14, .ireturn, 1), (15, .aload_n (0), 1), (16, .getfield (24), 3), (19, .iconst (0), 1), (20, .iload_n (1), 1), (21, .iastore, 1), (22, .aload_n (0), 1), (23, .getfield (24), 3), (26, .iconst (1), 1), (27, .iload_n (2), 1), (28, .iastore, 1), (29, .aload_n (0), 1), (30, .getfield (24), 3), (33, .iconst (2), 1), (34, .iload_n (3), 1), (35, .iastore, 1), (36, .aload_n (0), 1), (37, .getfield (24), 3), (40, .iconst (3), 1), (41, .iload (4), 2), (43, .iastore, 1), (44, .aload_n (0), 1), (45, .getfield (24), 3), (48, .iconst (4), 1), (49, .iload (5), 2), (51, .iastore, 1), (52, .iconst (0), 1), (53, .istore (6), 2), (55, .iload (6), 2), (57, .bipush (20), 2), (59, .if_icmp .ge (42), 3), (62, .aload_n (0), 1), (63, .getfield (20), 3), (66, .aload_n (0), 1), (67, .getfield (103), 3), (70, .iload (6), 2), (72, .iadd, 1), (73, .aload_n (0), 1), (74, .getfield (24), 3), (77, .iload (6), 2), (79, .iconst (4), 1), (80, .idiv, 1), (81, .iaload, 1), (82, .bipush (24), 2), (84, .bipush (8), 2), (86, .iload (6), 2), (88, .iconst (4), 1), (89, .irem, 1), (90, .imul, 1), (91, .isub, 1), (92, .ishr, 1), (93, .i2b, 1), (94, .bastore, 1), (95, .iinc (6) (1), 3), (98, .goto (-43), 3), (101, .aload_n (0), 1), (102, .dup, 1), (103, .getfield (103), 3), (106, .bipush (20), 2), (108, .iadd, 1), (109, .putfield (103), 3), (112, .aload_n (0), 1), (113, .getfield (103), 3), (116, .ireturn, 1)]
set_option maxRecDepth 100000 in
theorem zD_192_ok : zDo 192 zD_192 = true := by decide +kernel
theorem zc_192 : zcls 192 = 8 := by decide +kernel
theorem zm_192 : zml 192 = 7 := by decide +kernel
theorem zt_192 : zrt 192 = (some (.int)) := by decide +kernel
theorem zk_192 : zkd 192 = 1 ∧ znp 192 + 1 = 6 := by decide +kernel
theorem zr_192 (as : List zV) : zrk 192 as = 0 := by unfold zrk; rw [if_neg (by decide)]; decide +kernel
def lm_feed_c55 (x1 : Int) (x2 : Int) (x3 : Int) (x4 : Int) (x5 : Int) : Nat → Int → (Nat → Nat → Int) → Option (Int × (Nat → Nat → Int))
  | 0, _, _ => none
  | n + 1, y6, M =>
    (if y6 < (20 : Int) then
    ((rdI 111 (zdiv y6 (4 : Int)) M).bind (fun v81 =>
    ((wrB 110 (w32 ((M 106 5) + y6)) (zi2b (zshr v81 (w32 ((24 : Int) - (w32 ((8 : Int) * (zrem y6 (4 : Int)))))))) M).bind (fun M94 =>
    ((lm_feed_c55 x1 x2 x3 x4 x5 n) (w32 (y6 + 1)) M94)))))
    else
    ((some (zup M 106 5 (w32 ((M 106 5) + (20 : Int))))).bind (fun M109 =>
    (some ((M109 106 5), M109)))))
set_option maxRecDepth 100000 in
theorem ok_lm_feed_c55 {sc : zSc} {q : Nat} {P : Option zV → (Nat → Nat → Int) → Prop} (hq : 0 ≤ q) (x1 : Int) (x2 : Int) (x3 : Int) (x4 : Int) (x5 : Int) : ∀ (n : Nat) (y6 : Int) (M : Nat → Nat → Int), zS (lm_feed_c55 x1 x2 x3 x4 x5 n y6 M) (fun r => P (some (.inl r.1)) r.2) → zWp sc q 192 55 [some (.inr (.inr 106)), some (.inl x1), some (.inl x2), some (.inl x3), some (.inl x4), some (.inl x5), some (.inl y6)] [] M P := by
  intro n
  induction n with
  | zero => intro y6 M h; exact (zS_none h).elim
  | succ n ih =>
    intro y6 M h
    rw [lm_feed_c55] at h
    refine E_iload (pc := 55) (zDk zD_192_ok 35 rfl) rfl ?_
    refine E_bipush (pc := 57) (zDk zD_192_ok 36 rfl) (by decide +kernel) ?_
    refine E_icmp (pc := 59) (t := 101) (zDk zD_192_ok 37 rfl) rfl (fun hz => ?_) (fun hz => ?_)
    · have h := zS_f h (Int.not_lt.mpr (T_ge hz))
      refine E_aload_n (pc := 101) (zDk zD_192_ok 62 rfl) rfl ?_
      refine E_dup (pc := 102) (zDk zD_192_ok 63 rfl) rfl ?_
      refine E_getI (pc := 103) (ci := 8) (f := 5) (zDk zD_192_ok 64 rfl) zc_192 (by decide +kernel) (by decide) zis_8_106 ?_
      refine E_bipush (pc := 106) (zDk zD_192_ok 65 rfl) (by decide +kernel) ?_
      refine W_iadd (pc := 108) (zDk zD_192_ok 66 rfl) ?_
      obtain ⟨M109, e109, h⟩ := zS_bind h
      refine W_putI (pc := 109) (ci := 8) (f := 5) (zDk zD_192_ok 67 rfl) zc_192 (by decide +kernel) (by decide) zis_8_106 (Option.some.inj e109) ?_
      refine E_aload_n (pc := 112) (zDk zD_192_ok 68 rfl) rfl ?_
      refine E_getI (pc := 113) (ci := 8) (f := 5) (zDk zD_192_ok 69 rfl) zc_192 (by decide +kernel) (by decide) zis_8_106 ?_
      have h := zS_some h
      exact E_ireturn (pc := 116) (zDk zD_192_ok 70 rfl) zt_192 h
    · have h := zS_t h (F_ge hz)
      refine E_aload_n (pc := 62) (zDk zD_192_ok 38 rfl) rfl ?_
      refine E_getR (pc := 63) (ci := 8) (f := 4) (r := 110) (zDk zD_192_ok 39 rfl) zc_192 (by decide +kernel) (by decide) zis_8_106 (by decide +kernel) (by decide) ?_
      refine E_aload_n (pc := 66) (zDk zD_192_ok 40 rfl) rfl ?_
      refine E_getI (pc := 67) (ci := 8) (f := 5) (zDk zD_192_ok 41 rfl) zc_192 (by decide +kernel) (by decide) zis_8_106 ?_
      refine E_iload (pc := 70) (zDk zD_192_ok 42 rfl) rfl ?_
      refine W_iadd (pc := 72) (zDk zD_192_ok 43 rfl) ?_
      refine E_aload_n (pc := 73) (zDk zD_192_ok 44 rfl) rfl ?_
      refine E_getR (pc := 74) (ci := 8) (f := 6) (r := 111) (zDk zD_192_ok 45 rfl) zc_192 (by decide +kernel) (by decide) zis_8_106 (by decide +kernel) (by decide) ?_
      refine E_iload (pc := 77) (zDk zD_192_ok 46 rfl) rfl ?_
      refine E_iconst (pc := 79) (zDk zD_192_ok 47 rfl) (by decide +kernel) ?_
      refine E_idiv (pc := 80) (zDk zD_192_ok 48 rfl) (by decide) ?_
      obtain ⟨v81, e81, h⟩ := zS_bind h
      refine E_iaload (pc := 81) (zDk zD_192_ok 49 rfl) e81 ?_
      refine E_bipush (pc := 82) (zDk zD_192_ok 50 rfl) (by decide +kernel) ?_
      refine E_bipush (pc := 84) (zDk zD_192_ok 51 rfl) (by decide +kernel) ?_
      refine E_iload (pc := 86) (zDk zD_192_ok 52 rfl) rfl ?_
      refine E_iconst (pc := 88) (zDk zD_192_ok 53 rfl) (by decide +kernel) ?_
      refine E_irem (pc := 89) (zDk zD_192_ok 54 rfl) (by decide) ?_
      refine W_imul (pc := 90) (zDk zD_192_ok 55 rfl) ?_
      refine W_isub (pc := 91) (zDk zD_192_ok 56 rfl) ?_
      refine E_ishr (pc := 92) (zDk zD_192_ok 57 rfl) ?_
      refine E_i2b (pc := 93) (zDk zD_192_ok 58 rfl) ?_
      obtain ⟨M94, e94, h⟩ := zS_bind h
      refine E_bastore (pc := 94) (zDk zD_192_ok 59 rfl) e94 ?_
      refine W_iinc (pc := 95) (L' := [some (.inr (.inr 106)), some (.inl x1), some (.inl x2), some (.inl x3), some (.inl x4), some (.inl x5), some (.inl (w32 (y6 + 1)))]) (zDk zD_192_ok 60 rfl) rfl zm_192 (by decide) rfl ?_
      refine E_goto (pc := 98) (t := 55) (zDk zD_192_ok 61 rfl) rfl ?_
      exact (ih) (w32 (y6 + 1)) M94 h
def lm_feed (x1 : Int) (x2 : Int) (x3 : Int) (x4 : Int) (x5 : Int) (M : Nat → Nat → Int) : Option (Int × (Nat → Nat → Int)) :=
    (if (900 : Int) < (w32 ((M 106 5) + (20 : Int))) then
    (some ((-1 : Int), M))
    else
    ((wrI 111 (0 : Int) x1 M).bind (fun M21 =>
    ((wrI 111 (1 : Int) x2 M21).bind (fun M28 =>
    ((wrI 111 (2 : Int) x3 M28).bind (fun M35 =>
    ((wrI 111 (3 : Int) x4 M35).bind (fun M43 =>
    ((wrI 111 (4 : Int) x5 M43).bind (fun M51 =>
    (lm_feed_c55 x1 x2 x3 x4 x5 zN (0 : Int) M51))))))))))))
set_option maxRecDepth 100000 in
theorem ok_lm_feed {sc : zSc} {x1 : Int} {x2 : Int} {x3 : Int} {x4 : Int} {x5 : Int} {M : Nat → Nat → Int} {P : Int → (Nat → Nat → Int) → Prop} (h : zS (lm_feed x1 x2 x3 x4 x5 M) (fun r => P r.1 r.2)) : zCi sc 192 [.inr (.inr 106), .inl x1, .inl x2, .inl x3, .inl x4, .inl x5] M P := by
  have ea : zarg (zml 192) [.inr (.inr 106), .inl x1, .inl x2, .inl x3, .inl x4, .inl x5] = [some (.inr (.inr 106)), some (.inl x1), some (.inl x2), some (.inl x3), some (.inl x4), some (.inl x5), none] := by rw [zm_192]; rfl
  unfold zCi zCw
  rw [ea, zr_192]
  have hq : 0 ≤ 0 := Nat.le_refl _
  unfold lm_feed at h
  have h := zS_mono h (fun x hx => (⟨x.1, rfl, hx⟩ : ∃ y, (some (.inl x.1) : Option zV) = some (.inl y) ∧ P y x.2))
  skip
  refine E_aload_n (pc := 0) (zDk zD_192_ok 0 rfl) rfl ?_
  refine E_getI (pc := 1) (ci := 8) (f := 5) (zDk zD_192_ok 1 rfl) zc_192 (by decide +kernel) (by decide) zis_8_106 ?_
  refine E_bipush (pc := 4) (zDk zD_192_ok 2 rfl) (by decide +kernel) ?_
  refine W_iadd (pc := 6) (zDk zD_192_ok 3 rfl) ?_
  refine E_sipush (pc := 7) (zDk zD_192_ok 4 rfl) (by decide +kernel) ?_
  refine E_icmp (pc := 10) (t := 15) (zDk zD_192_ok 5 rfl) rfl (fun hz => ?_) (fun hz => ?_)
  · have h := zS_f h (Int.not_lt.mpr (T_le hz))
    refine E_aload_n (pc := 15) (zDk zD_192_ok 8 rfl) rfl ?_
    refine E_getR (pc := 16) (ci := 8) (f := 6) (r := 111) (zDk zD_192_ok 9 rfl) zc_192 (by decide +kernel) (by decide) zis_8_106 (by decide +kernel) (by decide) ?_
    refine E_iconst (pc := 19) (zDk zD_192_ok 10 rfl) (by decide +kernel) ?_
    refine E_iload_n (pc := 20) (zDk zD_192_ok 11 rfl) rfl ?_
    obtain ⟨M21, e21, h⟩ := zS_bind h
    refine E_iastore (pc := 21) (zDk zD_192_ok 12 rfl) e21 ?_
    refine E_aload_n (pc := 22) (zDk zD_192_ok 13 rfl) rfl ?_
    refine E_getR (pc := 23) (ci := 8) (f := 6) (r := 111) (zDk zD_192_ok 14 rfl) zc_192 (by decide +kernel) (by decide) zis_8_106 (by decide +kernel) (by decide) ?_
    refine E_iconst (pc := 26) (zDk zD_192_ok 15 rfl) (by decide +kernel) ?_
    refine E_iload_n (pc := 27) (zDk zD_192_ok 16 rfl) rfl ?_
    obtain ⟨M28, e28, h⟩ := zS_bind h
    refine E_iastore (pc := 28) (zDk zD_192_ok 17 rfl) e28 ?_
    refine E_aload_n (pc := 29) (zDk zD_192_ok 18 rfl) rfl ?_
    refine E_getR (pc := 30) (ci := 8) (f := 6) (r := 111) (zDk zD_192_ok 19 rfl) zc_192 (by decide +kernel) (by decide) zis_8_106 (by decide +kernel) (by decide) ?_
    refine E_iconst (pc := 33) (zDk zD_192_ok 20 rfl) (by decide +kernel) ?_
    refine E_iload_n (pc := 34) (zDk zD_192_ok 21 rfl) rfl ?_
    obtain ⟨M35, e35, h⟩ := zS_bind h
    refine E_iastore (pc := 35) (zDk zD_192_ok 22 rfl) e35 ?_
    refine E_aload_n (pc := 36) (zDk zD_192_ok 23 rfl) rfl ?_
    refine E_getR (pc := 37) (ci := 8) (f := 6) (r := 111) (zDk zD_192_ok 24 rfl) zc_192 (by decide +kernel) (by decide) zis_8_106 (by decide +kernel) (by decide) ?_
    refine E_iconst (pc := 40) (zDk zD_192_ok 25 rfl) (by decide +kernel) ?_
    refine E_iload (pc := 41) (zDk zD_192_ok 26 rfl) rfl ?_
    obtain ⟨M43, e43, h⟩ := zS_bind h
    refine E_iastore (pc := 43) (zDk zD_192_ok 27 rfl) e43 ?_
    refine E_aload_n (pc := 44) (zDk zD_192_ok 28 rfl) rfl ?_
    refine E_getR (pc := 45) (ci := 8) (f := 6) (r := 111) (zDk zD_192_ok 29 rfl) zc_192 (by decide +kernel) (by decide) zis_8_106 (by decide +kernel) (by decide) ?_
    refine E_iconst (pc := 48) (zDk zD_192_ok 30 rfl) (by decide +kernel) ?_
    refine E_iload (pc := 49) (zDk zD_192_ok 31 rfl) rfl ?_
    obtain ⟨M51, e51, h⟩ := zS_bind h
    refine E_iastore (pc := 51) (zDk zD_192_ok 32 rfl) e51 ?_
    refine E_iconst (pc := 52) (zDk zD_192_ok 33 rfl) (by decide +kernel) ?_
    refine W_istore (pc := 53) (L' := [some (.inr (.inr 106)), some (.inl x1), some (.inl x2), some (.inl x3), some (.inl x4), some (.inl x5), some (.inl (0 : Int))]) (zDk zD_192_ok 34 rfl) zm_192 (by decide) rfl ?_
    exact ok_lm_feed_c55 hq x1 x2 x3 x4 x5 zN (0 : Int) M51 h
  · have h := zS_t h (F_le hz)
    refine E_iconst (pc := 13) (zDk zD_192_ok 6 rfl) (by decide +kernel) ?_
    have h := zS_some h
    exact E_ireturn (pc := 14) (zDk zD_192_ok 7 rfl) zt_192 h
def zD_194 : List (Nat × Instr × Nat) := [(0, .iload_n (1), 1), (1, .aload_n (0), 1), (2, .getfield (106), 3), (5, .if_icmp .ge (16), 3), (8, .aload_n (0), 1), (9, .getfield (20), 3), (12, .iload_n (1), 1), (13, .baload, 1), (14, .sipush (255), 3), (17, .iand, 1), (18, .goto (4), 3), (21, .iconst (-1), 1), (22, .ireturn, 1)]
set_option maxRecDepth 100000 in
theorem zD_194_ok : zDo 194 zD_194 = true := by decide +kernel
theorem zc_194 : zcls 194 = 8 := by decide +kernel
theorem zm_194 : zml 194 = 2 := by decide +kernel
theorem zt_194 : zrt 194 = (some (.int)) := by decide +kernel
theorem zk_194 : zkd 194 = 1 ∧ znp 194 + 1 = 2 := by decide +kernel
theorem zr_194 (as : List zV) : zrk 194 as = 0 := by unfold zrk; rw [if_neg (by decide)]; decide +kernel
def lm_see (x1 : Int) (M : Nat → Nat → Int) : Option Int :=
    (if x1 < (M 106 7) then
    ((rdB 110 x1 M).bind (fun v13 =>
    (some (zand v13 (255 : Int)))))
    else
    (some (-1 : Int)))
set_option maxRecDepth 100000 in
theorem ok_lm_see {sc : zSc} {x1 : Int} {M : Nat → Nat → Int} {P : Int → (Nat → Nat → Int) → Prop} (h : zS (lm_see x1 M) (fun x => P x M)) : zCi sc 194 [.inr (.inr 106), .inl x1] M P := by
  have ea : zarg (zml 194) [.inr (.inr 106), .inl x1] = [some (.inr (.inr 106)), some (.inl x1)] := by rw [zm_194]; rfl
  unfold zCi zCw
  rw [ea, zr_194]
  have hq : 0 ≤ 0 := Nat.le_refl _
  unfold lm_see at h
  have h := zS_mono h (fun x hx => (⟨x, rfl, hx⟩ : ∃ y, (some (.inl x) : Option zV) = some (.inl y) ∧ P y M))
  skip
  refine E_iload_n (pc := 0) (zDk zD_194_ok 0 rfl) rfl ?_
  refine E_aload_n (pc := 1) (zDk zD_194_ok 1 rfl) rfl ?_
  refine E_getI (pc := 2) (ci := 8) (f := 7) (zDk zD_194_ok 2 rfl) zc_194 (by decide +kernel) (by decide) zis_8_106 ?_
  refine E_icmp (pc := 5) (t := 21) (zDk zD_194_ok 3 rfl) rfl (fun hz => ?_) (fun hz => ?_)
  · have h := zS_f h (Int.not_lt.mpr (T_ge hz))
    refine E_iconst (pc := 21) (zDk zD_194_ok 11 rfl) (by decide +kernel) ?_
    have h := zS_some h
    exact E_ireturn (pc := 22) (zDk zD_194_ok 12 rfl) zt_194 h
  · have h := zS_t h (F_ge hz)
    refine E_aload_n (pc := 8) (zDk zD_194_ok 4 rfl) rfl ?_
    refine E_getR (pc := 9) (ci := 8) (f := 4) (r := 110) (zDk zD_194_ok 5 rfl) zc_194 (by decide +kernel) (by decide) zis_8_106 (by decide +kernel) (by decide) ?_
    refine E_iload_n (pc := 12) (zDk zD_194_ok 6 rfl) rfl ?_
    obtain ⟨v13, e13, h⟩ := zS_bind h
    refine E_baload (pc := 13) (zDk zD_194_ok 7 rfl) e13 ?_
    refine E_sipush (pc := 14) (zDk zD_194_ok 8 rfl) (by decide +kernel) ?_
    refine E_iand (pc := 17) (zDk zD_194_ok 9 rfl) ?_
    refine E_goto (pc := 18) (t := 22) (zDk zD_194_ok 10 rfl) rfl ?_
    have h := zS_some h
    exact E_ireturn (pc := 22) (zDk zD_194_ok 12 rfl) zt_194 h
def zD_196 : List (Nat × Instr × Nat) := [(0, .aload_n (0), 1), (1, .getfield (140), 3), (4, .ifCond .ne (7), 3), (7, .iconst (1), 1), (8, .goto (4), 3), (11, .iconst (0), 1), (12, .ireturn, 1)]
set_option maxRecDepth 100000 in
theorem zD_196_ok : zDo 196 zD_196 = true := by decide +kernel
theorem zc_196 : zcls 196 = 8 := by decide +kernel
theorem zm_196 : zml 196 = 1 := by decide +kernel
theorem zt_196 : zrt 196 = (some (.boolean)) := by decide +kernel
theorem zk_196 : zkd 196 = 1 ∧ znp 196 + 1 = 1 := by decide +kernel
theorem zr_196 (as : List zV) : zrk 196 as = 0 := by unfold zrk; rw [if_neg (by decide)]; decide +kernel
def lm_good (M : Nat → Nat → Int) : Option Int :=
    (if (M 106 12) = 0 then
    (some (1 : Int))
    else
    (some (0 : Int)))
set_option maxRecDepth 100000 in
theorem ok_lm_good {sc : zSc} {M : Nat → Nat → Int} {P : Int → (Nat → Nat → Int) → Prop} (h : zS (lm_good M) (fun x => P x M)) : zCi sc 196 [.inr (.inr 106)] M P := by
  have ea : zarg (zml 196) [.inr (.inr 106)] = [some (.inr (.inr 106))] := by rw [zm_196]; rfl
  unfold zCi zCw
  rw [ea, zr_196]
  have hq : 0 ≤ 0 := Nat.le_refl _
  unfold lm_good at h
  have h := zS_mono h (fun x hx => (⟨x, rfl, hx⟩ : ∃ y, (some (.inl x) : Option zV) = some (.inl y) ∧ P y M))
  skip
  refine E_aload_n (pc := 0) (zDk zD_196_ok 0 rfl) rfl ?_
  refine E_getI (pc := 1) (ci := 8) (f := 12) (zDk zD_196_ok 1 rfl) zc_196 (by decide +kernel) (by decide) zis_8_106 ?_
  refine E_if (pc := 4) (t := 11) (zDk zD_196_ok 2 rfl) rfl (fun hz => ?_) (fun hz => ?_)
  · have h := zS_f h (T_ne hz)
    refine E_iconst (pc := 11) (zDk zD_196_ok 5 rfl) (by decide +kernel) ?_
    have h := zS_some h
    exact E_ireturnZ (pc := 12) (zDk zD_196_ok 6 rfl) zt_196 (by decide) h
  · have h := zS_t h (F_ne hz)
    refine E_iconst (pc := 7) (zDk zD_196_ok 3 rfl) (by decide +kernel) ?_
    refine E_goto (pc := 8) (t := 12) (zDk zD_196_ok 4 rfl) rfl ?_
    have h := zS_some h
    exact E_ireturnZ (pc := 12) (zDk zD_196_ok 6 rfl) zt_196 (by decide) h
def zD_203 : List (Nat × Instr × Nat) := [(0, .iload_n (1), 1), (1, .ifCond .ne (10), 3), (4, .aload_n (0), 1), (5, .getfield (140), 3), (8, .goto (16), 3), (11, .iload_n (1), 1), (12, .iconst (1), 1), (13, .if_icmp .ne (10), 3), (16, .aload_n (0), 1), (17, .getfield (27), 3), (20, .goto (4), 3), (23, .iconst (-1), 1), (24, .ireturn, 1)]
set_option maxRecDepth 100000 in
theorem zD_203_ok : zDo 203 zD_203 = true := by decide +kernel
theorem zc_203 : zcls 203 = 8 := by decide +kernel
theorem zm_203 : zml 203 = 2 := by decide +kernel
theorem zt_203 : zrt 203 = (some (.int)) := by decide +kernel
theorem zk_203 : zkd 203 = 1 ∧ znp 203 + 1 = 2 := by decide +kernel
theorem zr_203 (as : List zV) : zrk 203 as = 0 := by unfold zrk; rw [if_neg (by decide)]; decide +kernel
def lm_fault (x1 : Int) (M : Nat → Nat → Int) : Option Int :=
    (if x1 = 0 then
    (some (M 106 12))
    else
    (if x1 = (1 : Int) then
    (some (M 106 13))
    else
    (some (-1 : Int))))
set_option maxRecDepth 100000 in
theorem ok_lm_fault {sc : zSc} {x1 : Int} {M : Nat → Nat → Int} {P : Int → (Nat → Nat → Int) → Prop} (h : zS (lm_fault x1 M) (fun x => P x M)) : zCi sc 203 [.inr (.inr 106), .inl x1] M P := by
  have ea : zarg (zml 203) [.inr (.inr 106), .inl x1] = [some (.inr (.inr 106)), some (.inl x1)] := by rw [zm_203]; rfl
  unfold zCi zCw
  rw [ea, zr_203]
  have hq : 0 ≤ 0 := Nat.le_refl _
  unfold lm_fault at h
  have h := zS_mono h (fun x hx => (⟨x, rfl, hx⟩ : ∃ y, (some (.inl x) : Option zV) = some (.inl y) ∧ P y M))
  skip
  refine E_iload_n (pc := 0) (zDk zD_203_ok 0 rfl) rfl ?_
  refine E_if (pc := 1) (t := 11) (zDk zD_203_ok 1 rfl) rfl (fun hz => ?_) (fun hz => ?_)
  · have h := zS_f h (T_ne hz)
    refine E_iload_n (pc := 11) (zDk zD_203_ok 5 rfl) rfl ?_
    refine E_iconst (pc := 12) (zDk zD_203_ok 6 rfl) (by decide +kernel) ?_
    refine E_icmp (pc := 13) (t := 23) (zDk zD_203_ok 7 rfl) rfl (fun hz => ?_) (fun hz => ?_)
    · have h := zS_f h (T_ne hz)
      refine E_iconst (pc := 23) (zDk zD_203_ok 11 rfl) (by decide +kernel) ?_
      have h := zS_some h
      exact E_ireturn (pc := 24) (zDk zD_203_ok 12 rfl) zt_203 h
    · have h := zS_t h (F_ne hz)
      refine E_aload_n (pc := 16) (zDk zD_203_ok 8 rfl) rfl ?_
      refine E_getI (pc := 17) (ci := 8) (f := 13) (zDk zD_203_ok 9 rfl) zc_203 (by decide +kernel) (by decide) zis_8_106 ?_
      refine E_goto (pc := 20) (t := 24) (zDk zD_203_ok 10 rfl) rfl ?_
      have h := zS_some h
      exact E_ireturn (pc := 24) (zDk zD_203_ok 12 rfl) zt_203 h
  · have h := zS_t h (F_ne hz)
    refine E_aload_n (pc := 4) (zDk zD_203_ok 2 rfl) rfl ?_
    refine E_getI (pc := 5) (ci := 8) (f := 12) (zDk zD_203_ok 3 rfl) zc_203 (by decide +kernel) (by decide) zis_8_106 ?_
    refine E_goto (pc := 8) (t := 24) (zDk zD_203_ok 4 rfl) rfl ?_
    have h := zS_some h
    exact E_ireturn (pc := 24) (zDk zD_203_ok 12 rfl) zt_203 h
def zD_221 : List (Nat × Instr × Nat) := [(0, .aload_n (0), 1), (1, .getfield (46), 3), (4, .iconst (5), 1), (5, .iload_n (2), 1), (6, .imul, 1), (7, .iload_n (1), 1), (8, .iadd, 1), (9, .iaload, 1), (10, .ireturn, 1)]
set_option maxRecDepth 100000 in
theorem zD_221_ok : zDo 221 zD_221 = true := by decide +kernel
theorem zc_221 : zcls 221 = 8 := by decide +kernel
theorem zm_221 : zml 221 = 3 := by decide +kernel
theorem zt_221 : zrt 221 = (some (.int)) := by decide +kernel
theorem zk_221 : zkd 221 = 1 ∧ znp 221 + 1 = 3 := by decide +kernel
theorem zr_221 (as : List zV) : zrk 221 as = 0 := by unfold zrk; rw [if_neg (by decide)]; decide +kernel
def lm_placeOf (x1 : Int) (x2 : Int) (M : Nat → Nat → Int) : Option Int :=
    ((rdI 117 (w32 ((w32 ((5 : Int) * x2)) + x1)) M).bind (fun v9 =>
    (some v9)))
set_option maxRecDepth 100000 in
theorem ok_lm_placeOf {sc : zSc} {x1 : Int} {x2 : Int} {M : Nat → Nat → Int} {P : Int → (Nat → Nat → Int) → Prop} (h : zS (lm_placeOf x1 x2 M) (fun x => P x M)) : zCi sc 221 [.inr (.inr 106), .inl x1, .inl x2] M P := by
  have ea : zarg (zml 221) [.inr (.inr 106), .inl x1, .inl x2] = [some (.inr (.inr 106)), some (.inl x1), some (.inl x2)] := by rw [zm_221]; rfl
  unfold zCi zCw
  rw [ea, zr_221]
  have hq : 0 ≤ 0 := Nat.le_refl _
  unfold lm_placeOf at h
  have h := zS_mono h (fun x hx => (⟨x, rfl, hx⟩ : ∃ y, (some (.inl x) : Option zV) = some (.inl y) ∧ P y M))
  skip
  refine E_aload_n (pc := 0) (zDk zD_221_ok 0 rfl) rfl ?_
  refine E_getR (pc := 1) (ci := 8) (f := 23) (r := 117) (zDk zD_221_ok 1 rfl) zc_221 (by decide +kernel) (by decide) zis_8_106 (by decide +kernel) (by decide) ?_
  refine E_iconst (pc := 4) (zDk zD_221_ok 2 rfl) (by decide +kernel) ?_
  refine E_iload_n (pc := 5) (zDk zD_221_ok 3 rfl) rfl ?_
  refine W_imul (pc := 6) (zDk zD_221_ok 4 rfl) ?_
  refine E_iload_n (pc := 7) (zDk zD_221_ok 5 rfl) rfl ?_
  refine W_iadd (pc := 8) (zDk zD_221_ok 6 rfl) ?_
  obtain ⟨v9, e9, h⟩ := zS_bind h
  refine E_iaload (pc := 9) (zDk zD_221_ok 7 rfl) e9 ?_
  have h := zS_some h
  exact E_ireturn (pc := 10) (zDk zD_221_ok 8 rfl) zt_221 h
def zD_222 : List (Nat × Instr × Nat) := [(0, .aload_n (0), 1), (1, .getfield (49), 3), (4, .iconst (5), 1), (5, .iload_n (2), 1), (6, .imul, 1), (7, .iload_n (1), 1), (8, .iadd, 1), (9, .iaload, 1), (10, .ireturn, 1)]
set_option maxRecDepth 100000 in
theorem zD_222_ok : zDo 222 zD_222 = true := by decide +kernel
theorem zc_222 : zcls 222 = 8 := by decide +kernel
theorem zm_222 : zml 222 = 3 := by decide +kernel
theorem zt_222 : zrt 222 = (some (.int)) := by decide +kernel
theorem zk_222 : zkd 222 = 1 ∧ znp 222 + 1 = 3 := by decide +kernel
theorem zr_222 (as : List zV) : zrk 222 as = 0 := by unfold zrk; rw [if_neg (by decide)]; decide +kernel
def lm_inkIn (x1 : Int) (x2 : Int) (M : Nat → Nat → Int) : Option Int :=
    ((rdI 118 (w32 ((w32 ((5 : Int) * x2)) + x1)) M).bind (fun v9 =>
    (some v9)))
set_option maxRecDepth 100000 in
theorem ok_lm_inkIn {sc : zSc} {x1 : Int} {x2 : Int} {M : Nat → Nat → Int} {P : Int → (Nat → Nat → Int) → Prop} (h : zS (lm_inkIn x1 x2 M) (fun x => P x M)) : zCi sc 222 [.inr (.inr 106), .inl x1, .inl x2] M P := by
  have ea : zarg (zml 222) [.inr (.inr 106), .inl x1, .inl x2] = [some (.inr (.inr 106)), some (.inl x1), some (.inl x2)] := by rw [zm_222]; rfl
  unfold zCi zCw
  rw [ea, zr_222]
  have hq : 0 ≤ 0 := Nat.le_refl _
  unfold lm_inkIn at h
  have h := zS_mono h (fun x hx => (⟨x, rfl, hx⟩ : ∃ y, (some (.inl x) : Option zV) = some (.inl y) ∧ P y M))
  skip
  refine E_aload_n (pc := 0) (zDk zD_222_ok 0 rfl) rfl ?_
  refine E_getR (pc := 1) (ci := 8) (f := 24) (r := 118) (zDk zD_222_ok 1 rfl) zc_222 (by decide +kernel) (by decide) zis_8_106 (by decide +kernel) (by decide) ?_
  refine E_iconst (pc := 4) (zDk zD_222_ok 2 rfl) (by decide +kernel) ?_
  refine E_iload_n (pc := 5) (zDk zD_222_ok 3 rfl) rfl ?_
  refine W_imul (pc := 6) (zDk zD_222_ok 4 rfl) ?_
  refine E_iload_n (pc := 7) (zDk zD_222_ok 5 rfl) rfl ?_
  refine W_iadd (pc := 8) (zDk zD_222_ok 6 rfl) ?_
  obtain ⟨v9, e9, h⟩ := zS_bind h
  refine E_iaload (pc := 9) (zDk zD_222_ok 7 rfl) e9 ?_
  have h := zS_some h
  exact E_ireturn (pc := 10) (zDk zD_222_ok 8 rfl) zt_222 h
def zD_260 : List (Nat × Instr × Nat) := [(0, .aload_n (0), 1), (1, .getfield (67), 3), (4, .bipush (8), 2), (6, .iload_n (1), 1), (7, .imul, 1), (8, .iload_n (2), 1), (9, .iadd, 1), (10, .iaload, 1), (11, .ireturn, 1)]
set_option maxRecDepth 100000 in
theorem zD_260_ok : zDo 260 zD_260 = true := by decide +kernel
theorem zc_260 : zcls 260 = 8 := by decide +kernel
theorem zm_260 : zml 260 = 3 := by decide +kernel
theorem zt_260 : zrt 260 = (some (.int)) := by decide +kernel
theorem zk_260 : zkd 260 = 1 ∧ znp 260 + 1 = 3 := by decide +kernel
theorem zr_260 (as : List zV) : zrk 260 as = 0 := by unfold zrk; rw [if_neg (by decide)]; decide +kernel
def lm_wayOf (x1 : Int) (x2 : Int) (M : Nat → Nat → Int) : Option Int :=
    ((rdI 124 (w32 ((w32 ((8 : Int) * x1)) + x2)) M).bind (fun v10 =>
    (some v10)))
set_option maxRecDepth 100000 in
theorem ok_lm_wayOf {sc : zSc} {x1 : Int} {x2 : Int} {M : Nat → Nat → Int} {P : Int → (Nat → Nat → Int) → Prop} (h : zS (lm_wayOf x1 x2 M) (fun x => P x M)) : zCi sc 260 [.inr (.inr 106), .inl x1, .inl x2] M P := by
  have ea : zarg (zml 260) [.inr (.inr 106), .inl x1, .inl x2] = [some (.inr (.inr 106)), some (.inl x1), some (.inl x2)] := by rw [zm_260]; rfl
  unfold zCi zCw
  rw [ea, zr_260]
  have hq : 0 ≤ 0 := Nat.le_refl _
  unfold lm_wayOf at h
  have h := zS_mono h (fun x hx => (⟨x, rfl, hx⟩ : ∃ y, (some (.inl x) : Option zV) = some (.inl y) ∧ P y M))
  skip
  refine E_aload_n (pc := 0) (zDk zD_260_ok 0 rfl) rfl ?_
  refine E_getR (pc := 1) (ci := 8) (f := 30) (r := 124) (zDk zD_260_ok 1 rfl) zc_260 (by decide +kernel) (by decide) zis_8_106 (by decide +kernel) (by decide) ?_
  refine E_bipush (pc := 4) (zDk zD_260_ok 2 rfl) (by decide +kernel) ?_
  refine E_iload_n (pc := 6) (zDk zD_260_ok 3 rfl) rfl ?_
  refine W_imul (pc := 7) (zDk zD_260_ok 4 rfl) ?_
  refine E_iload_n (pc := 8) (zDk zD_260_ok 5 rfl) rfl ?_
  refine W_iadd (pc := 9) (zDk zD_260_ok 6 rfl) ?_
  obtain ⟨v10, e10, h⟩ := zS_bind h
  refine E_iaload (pc := 10) (zDk zD_260_ok 7 rfl) e10 ?_
  have h := zS_some h
  exact E_ireturn (pc := 11) (zDk zD_260_ok 8 rfl) zt_260 h
def zD_262 : List (Nat × Instr × Nat) := [(0, .iload_n (0), 1), (1, .ldc_w (341), 3), (4, .if_icmp .lt (7), 3), (7, .iconst (-1), 1), (8, .goto (4), 3), (11, .iload_n (0), 1), (12, .ireturn, 1)]
set_option maxRecDepth 100000 in
theorem zD_262_ok : zDo 262 zD_262 = true := by decide +kernel
theorem zc_262 : zcls 262 = 8 := by decide +kernel
theorem zm_262 : zml 262 = 1 := by decide +kernel
theorem zt_262 : zrt 262 = (some (.int)) := by decide +kernel
theorem zk_262 : zkd 262 = 0 ∧ znp 262 = 1 := by decide +kernel
theorem zr_262 (as : List zV) : zrk 262 as = 0 := by unfold zrk; rw [if_neg (by decide)]; decide +kernel
def lm_orNone (x0 : Int) (M : Nat → Nat → Int) : Option Int :=
    (if x0 < (1000000000 : Int) then
    (some x0)
    else
    (some (-1 : Int)))
set_option maxRecDepth 100000 in
theorem ok_lm_orNone {sc : zSc} {x0 : Int} {M : Nat → Nat → Int} {P : Int → (Nat → Nat → Int) → Prop} (h : zS (lm_orNone x0 M) (fun x => P x M)) : zCi sc 262 [.inl x0] M P := by
  have ea : zarg (zml 262) [.inl x0] = [some (.inl x0)] := by rw [zm_262]; rfl
  unfold zCi zCw
  rw [ea, zr_262]
  have hq : 0 ≤ 0 := Nat.le_refl _
  unfold lm_orNone at h
  have h := zS_mono h (fun x hx => (⟨x, rfl, hx⟩ : ∃ y, (some (.inl x) : Option zV) = some (.inl y) ∧ P y M))
  skip
  refine E_iload_n (pc := 0) (zDk zD_262_ok 0 rfl) rfl ?_
  refine E_ldc_w (pc := 1) (v := .inl (1000000000 : Int)) (zDk zD_262_ok 1 rfl) zc_262 (by decide +kernel) ?_
  refine E_icmp (pc := 4) (t := 11) (zDk zD_262_ok 2 rfl) rfl (fun hz => ?_) (fun hz => ?_)
  · have h := zS_t h (T_lt hz)
    refine E_iload_n (pc := 11) (zDk zD_262_ok 5 rfl) rfl ?_
    have h := zS_some h
    exact E_ireturn (pc := 12) (zDk zD_262_ok 6 rfl) zt_262 h
  · have h := zS_f h (Int.not_lt.mpr (F_lt hz))
    refine E_iconst (pc := 7) (zDk zD_262_ok 3 rfl) (by decide +kernel) ?_
    refine E_goto (pc := 8) (t := 12) (zDk zD_262_ok 4 rfl) rfl ?_
    have h := zS_some h
    exact E_ireturn (pc := 12) (zDk zD_262_ok 6 rfl) zt_262 h
def zD_283 : List (Nat × Instr × Nat) := [(0, .aload_n (0), 1), (1, .getfield (79), 3), (4, .bipush (60), 2), (6, .iload_n (1), 1), (7, .imul, 1), (8, .iload_n (2), 1), (9, .iadd, 1), (10, .laload, 1), (11, .lreturn, 1)]
set_option maxRecDepth 100000 in
theorem zD_283_ok : zDo 283 zD_283 = true := by decide +kernel
theorem zc_283 : zcls 283 = 8 := by decide +kernel
theorem zm_283 : zml 283 = 3 := by decide +kernel
theorem zt_283 : zrt 283 = (some (.long)) := by decide +kernel
theorem zk_283 : zkd 283 = 1 ∧ znp 283 + 1 = 3 := by decide +kernel
theorem zr_283 (as : List zV) : zrk 283 as = 0 := by unfold zrk; rw [if_neg (by decide)]; decide +kernel
def lm_numberAt (x1 : Int) (x2 : Int) (M : Nat → Nat → Int) : Option Int :=
    ((rdL 128 (w32 ((w32 ((60 : Int) * x1)) + x2)) M).bind (fun v10 =>
    (some v10)))
set_option maxRecDepth 100000 in
theorem ok_lm_numberAt {sc : zSc} {x1 : Int} {x2 : Int} {M : Nat → Nat → Int} {P : Int → (Nat → Nat → Int) → Prop} (h : zS (lm_numberAt x1 x2 M) (fun x => P x M)) : zCl sc 283 [.inr (.inr 106), .inl x1, .inl x2] M P := by
  have ea : zarg (zml 283) [.inr (.inr 106), .inl x1, .inl x2] = [some (.inr (.inr 106)), some (.inl x1), some (.inl x2)] := by rw [zm_283]; rfl
  unfold zCl zCw
  rw [ea, zr_283]
  have hq : 0 ≤ 0 := Nat.le_refl _
  unfold lm_numberAt at h
  have h := zS_mono h (fun x hx => (⟨x, rfl, hx⟩ : ∃ y, (some (.inr (.inl x)) : Option zV) = some (.inr (.inl y)) ∧ P y M))
  skip
  refine E_aload_n (pc := 0) (zDk zD_283_ok 0 rfl) rfl ?_
  refine E_getR (pc := 1) (ci := 8) (f := 38) (r := 128) (zDk zD_283_ok 1 rfl) zc_283 (by decide +kernel) (by decide) zis_8_106 (by decide +kernel) (by decide) ?_
  refine E_bipush (pc := 4) (zDk zD_283_ok 2 rfl) (by decide +kernel) ?_
  refine E_iload_n (pc := 6) (zDk zD_283_ok 3 rfl) rfl ?_
  refine W_imul (pc := 7) (zDk zD_283_ok 4 rfl) ?_
  refine E_iload_n (pc := 8) (zDk zD_283_ok 5 rfl) rfl ?_
  refine W_iadd (pc := 9) (zDk zD_283_ok 6 rfl) ?_
  obtain ⟨v10, e10, h⟩ := zS_bind h
  refine E_laload (pc := 10) (zDk zD_283_ok 7 rfl) e10 ?_
  have h := zS_some h
  exact E_lreturn (pc := 11) (zDk zD_283_ok 8 rfl) zt_283 h
def zD_294 : List (Nat × Instr × Nat) := [(0, .iconst (1), 1), (1, .istore_n (1), 1), (2, .iconst (2), 1), (3, .istore_n (2), 1), (4, .iload_n (2), 1), (5, .iload_n (0), 1), (6, .if_icmp .gt (13), 3), (9, .iload_n (1), 1), (10, .iload_n (2), 1), (11, .imul, 1), (12, .istore_n (1), 1), (13, .iinc (2) (1), 3), (16, .goto (-12), 3), (19, .iload_n (1), 1), (20, .ireturn, 1)]
set_option maxRecDepth 100000 in
theorem zD_294_ok : zDo 294 zD_294 = true := by decide +kernel
theorem zc_294 : zcls 294 = 8 := by decide +kernel
theorem zm_294 : zml 294 = 3 := by decide +kernel
theorem zt_294 : zrt 294 = (some (.int)) := by decide +kernel
theorem zk_294 : zkd 294 = 0 ∧ znp 294 = 1 := by decide +kernel
theorem zr_294 (as : List zV) : zrk 294 as = 0 := by unfold zrk; rw [if_neg (by decide)]; decide +kernel
def lm_factorial_c4 (x0 : Int) (M : Nat → Nat → Int) : Nat → Int → Int → Option Int
  | 0, _, _ => none
  | n + 1, y1, y2 =>
    (if x0 < y2 then
    (some y1)
    else
    ((lm_factorial_c4 x0 M n) (w32 (y1 * y2)) (w32 (y2 + 1))))
set_option maxRecDepth 100000 in
theorem ok_lm_factorial_c4 {sc : zSc} {q : Nat} {P : Option zV → (Nat → Nat → Int) → Prop} (hq : 0 ≤ q) (x0 : Int) (M : Nat → Nat → Int) : ∀ (n : Nat) (y1 : Int) (y2 : Int), zS (lm_factorial_c4 x0 M n y1 y2) (fun x => P (some (.inl x)) M) → zWp sc q 294 4 [some (.inl x0), some (.inl y1), some (.inl y2)] [] M P := by
  intro n
  induction n with
  | zero => intro y1 y2 h; exact (zS_none h).elim
  | succ n ih =>
    intro y1 y2 h
    rw [lm_factorial_c4] at h
    refine E_iload_n (pc := 4) (zDk zD_294_ok 4 rfl) rfl ?_
    refine E_iload_n (pc := 5) (zDk zD_294_ok 5 rfl) rfl ?_
    refine E_icmp (pc := 6) (t := 19) (zDk zD_294_ok 6 rfl) rfl (fun hz => ?_) (fun hz => ?_)
    · have h := zS_t h (T_gt hz)
      refine E_iload_n (pc := 19) (zDk zD_294_ok 13 rfl) rfl ?_
      have h := zS_some h
      exact E_ireturn (pc := 20) (zDk zD_294_ok 14 rfl) zt_294 h
    · have h := zS_f h (Int.not_lt.mpr (F_gt hz))
      refine E_iload_n (pc := 9) (zDk zD_294_ok 7 rfl) rfl ?_
      refine E_iload_n (pc := 10) (zDk zD_294_ok 8 rfl) rfl ?_
      refine W_imul (pc := 11) (zDk zD_294_ok 9 rfl) ?_
      refine W_istore_n (pc := 12) (L' := [some (.inl x0), some (.inl (w32 (y1 * y2))), some (.inl y2)]) (zDk zD_294_ok 10 rfl) zm_294 (by decide) rfl ?_
      refine W_iinc (pc := 13) (L' := [some (.inl x0), some (.inl (w32 (y1 * y2))), some (.inl (w32 (y2 + 1)))]) (zDk zD_294_ok 11 rfl) rfl zm_294 (by decide) rfl ?_
      refine E_goto (pc := 16) (t := 4) (zDk zD_294_ok 12 rfl) rfl ?_
      exact (ih) (w32 (y1 * y2)) (w32 (y2 + 1)) h
def lm_factorial (x0 : Int) (M : Nat → Nat → Int) : Option Int :=
    (lm_factorial_c4 x0 M zN (1 : Int) (2 : Int))
set_option maxRecDepth 100000 in
theorem ok_lm_factorial {sc : zSc} {x0 : Int} {M : Nat → Nat → Int} {P : Int → (Nat → Nat → Int) → Prop} (h : zS (lm_factorial x0 M) (fun x => P x M)) : zCi sc 294 [.inl x0] M P := by
  have ea : zarg (zml 294) [.inl x0] = [some (.inl x0), none, none] := by rw [zm_294]; rfl
  unfold zCi zCw
  rw [ea, zr_294]
  have hq : 0 ≤ 0 := Nat.le_refl _
  unfold lm_factorial at h
  have h := zS_mono h (fun x hx => (⟨x, rfl, hx⟩ : ∃ y, (some (.inl x) : Option zV) = some (.inl y) ∧ P y M))
  skip
  refine E_iconst (pc := 0) (zDk zD_294_ok 0 rfl) (by decide +kernel) ?_
  refine W_istore_n (pc := 1) (L' := [some (.inl x0), some (.inl (1 : Int)), none]) (zDk zD_294_ok 1 rfl) zm_294 (by decide) rfl ?_
  refine E_iconst (pc := 2) (zDk zD_294_ok 2 rfl) (by decide +kernel) ?_
  refine W_istore_n (pc := 3) (L' := [some (.inl x0), some (.inl (1 : Int)), some (.inl (2 : Int))]) (zDk zD_294_ok 3 rfl) zm_294 (by decide) rfl ?_
  exact ok_lm_factorial_c4 hq x0 M zN (1 : Int) (2 : Int) h
def zD_305 : List (Nat × Instr × Nat) := [(0, .aload_n (0), 1), (1, .getfield (9), 3), (4, .bipush (8), 2), (6, .iaload, 1), (7, .bipush (30), 2), (9, .if_icmp .ne (6), 3), (12, .bipush (-5), 2), (14, .ireturn, 1), (15, .aload_n (0), 1), (16, .getfield (9), 3), (19, .bipush (108), 2), (21, .aload_n (0), 1), (22, .getfield (9), 3), (25, .bipush (8), 2), (27, .iaload, 1), (28, .iadd, 1), (29, .iload_n (1), 1), (30, .iastore, 1), (31, .aload_n (0), 1), (32, .getfield (9), 3), (35, .bipush (8), 2), (37, .dup2, 1), (38, .iaload, 1), (39, .iconst (1), 1), (40, .iadd, 1), (41, .iastore, 1), (42, .iconst (0), 1), (43, .ireturn, 1)]
set_option maxRecDepth 100000 in
theorem zD_305_ok : zDo 305 zD_305 = true := by decide +kernel
theorem zc_305 : zcls 305 = 8 := by decide +kernel
theorem zm_305 : zml 305 = 2 := by decide +kernel
theorem zt_305 : zrt 305 = (some (.int)) := by decide +kernel
theorem zk_305 : zkd 305 = 1 ∧ znp 305 + 1 = 2 := by decide +kernel
theorem zr_305 (as : List zV) : zrk 305 as = 0 := by unfold zrk; rw [if_neg (by decide)]; decide +kernel
def lm_keepAct (x1 : Int) (M : Nat → Nat → Int) : Option (Int × (Nat → Nat → Int)) :=
    ((rdI 107 (8 : Int) M).bind (fun v6 =>
    (if v6 = (30 : Int) then
    (some ((-5 : Int), M))
    else
    ((rdI 107 (8 : Int) M).bind (fun v27 =>
    ((wrI 107 (w32 ((108 : Int) + v27)) x1 M).bind (fun M30 =>
    ((rdI 107 (8 : Int) M30).bind (fun v38 =>
    ((wrI 107 (8 : Int) (w32 (v38 + (1 : Int))) M30).bind (fun M41 =>
    (some ((0 : Int), M41)))))))))))))
set_option maxRecDepth 100000 in
theorem ok_lm_keepAct {sc : zSc} {x1 : Int} {M : Nat → Nat → Int} {P : Int → (Nat → Nat → Int) → Prop} (h : zS (lm_keepAct x1 M) (fun r => P r.1 r.2)) : zCi sc 305 [.inr (.inr 106), .inl x1] M P := by
  have ea : zarg (zml 305) [.inr (.inr 106), .inl x1] = [some (.inr (.inr 106)), some (.inl x1)] := by rw [zm_305]; rfl
  unfold zCi zCw
  rw [ea, zr_305]
  have hq : 0 ≤ 0 := Nat.le_refl _
  unfold lm_keepAct at h
  have h := zS_mono h (fun x hx => (⟨x.1, rfl, hx⟩ : ∃ y, (some (.inl x.1) : Option zV) = some (.inl y) ∧ P y x.2))
  skip
  refine E_aload_n (pc := 0) (zDk zD_305_ok 0 rfl) rfl ?_
  refine E_getR (pc := 1) (ci := 8) (f := 1) (r := 107) (zDk zD_305_ok 1 rfl) zc_305 (by decide +kernel) (by decide) zis_8_106 (by decide +kernel) (by decide) ?_
  refine E_bipush (pc := 4) (zDk zD_305_ok 2 rfl) (by decide +kernel) ?_
  obtain ⟨v6, e6, h⟩ := zS_bind h
  refine E_iaload (pc := 6) (zDk zD_305_ok 3 rfl) e6 ?_
  refine E_bipush (pc := 7) (zDk zD_305_ok 4 rfl) (by decide +kernel) ?_
  refine E_icmp (pc := 9) (t := 15) (zDk zD_305_ok 5 rfl) rfl (fun hz => ?_) (fun hz => ?_)
  · have h := zS_f h (T_ne hz)
    refine E_aload_n (pc := 15) (zDk zD_305_ok 8 rfl) rfl ?_
    refine E_getR (pc := 16) (ci := 8) (f := 1) (r := 107) (zDk zD_305_ok 9 rfl) zc_305 (by decide +kernel) (by decide) zis_8_106 (by decide +kernel) (by decide) ?_
    refine E_bipush (pc := 19) (zDk zD_305_ok 10 rfl) (by decide +kernel) ?_
    refine E_aload_n (pc := 21) (zDk zD_305_ok 11 rfl) rfl ?_
    refine E_getR (pc := 22) (ci := 8) (f := 1) (r := 107) (zDk zD_305_ok 12 rfl) zc_305 (by decide +kernel) (by decide) zis_8_106 (by decide +kernel) (by decide) ?_
    refine E_bipush (pc := 25) (zDk zD_305_ok 13 rfl) (by decide +kernel) ?_
    obtain ⟨v27, e27, h⟩ := zS_bind h
    refine E_iaload (pc := 27) (zDk zD_305_ok 14 rfl) e27 ?_
    refine W_iadd (pc := 28) (zDk zD_305_ok 15 rfl) ?_
    refine E_iload_n (pc := 29) (zDk zD_305_ok 16 rfl) rfl ?_
    obtain ⟨M30, e30, h⟩ := zS_bind h
    refine E_iastore (pc := 30) (zDk zD_305_ok 17 rfl) e30 ?_
    refine E_aload_n (pc := 31) (zDk zD_305_ok 18 rfl) rfl ?_
    refine E_getR (pc := 32) (ci := 8) (f := 1) (r := 107) (zDk zD_305_ok 19 rfl) zc_305 (by decide +kernel) (by decide) zis_8_106 (by decide +kernel) (by decide) ?_
    refine E_bipush (pc := 35) (zDk zD_305_ok 20 rfl) (by decide +kernel) ?_
    refine E_dup2 (pc := 37) (zDk zD_305_ok 21 rfl) rfl rfl ?_
    obtain ⟨v38, e38, h⟩ := zS_bind h
    refine E_iaload (pc := 38) (zDk zD_305_ok 22 rfl) e38 ?_
    refine E_iconst (pc := 39) (zDk zD_305_ok 23 rfl) (by decide +kernel) ?_
    refine W_iadd (pc := 40) (zDk zD_305_ok 24 rfl) ?_
    obtain ⟨M41, e41, h⟩ := zS_bind h
    refine E_iastore (pc := 41) (zDk zD_305_ok 25 rfl) e41 ?_
    refine E_iconst (pc := 42) (zDk zD_305_ok 26 rfl) (by decide +kernel) ?_
    have h := zS_some h
    exact E_ireturn (pc := 43) (zDk zD_305_ok 27 rfl) zt_305 h
  · have h := zS_t h (F_ne hz)
    refine E_bipush (pc := 12) (zDk zD_305_ok 6 rfl) (by decide +kernel) ?_
    have h := zS_some h
    exact E_ireturn (pc := 14) (zDk zD_305_ok 7 rfl) zt_305 h
def zD_317 : List (Nat × Instr × Nat) := [(0, .bipush (64), 2), (2, .bipush (8), 2), (4, .iload_n (2), 1), (5, .ishl, 1), (6, .isub, 1), (7, .istore_n (3), 1), (8, .lload_n (0), 1), (9, .iload_n (3), 1), (10, .lshl, 1), (11, .iload_n (3), 1), (12, .lshr, 1), (13, .lreturn, 1)]
set_option maxRecDepth 100000 in
theorem zD_317_ok : zDo 317 zD_317 = true := by decide +kernel
theorem zc_317 : zcls 317 = 8 := by decide +kernel
theorem zm_317 : zml 317 = 4 := by decide +kernel
theorem zt_317 : zrt 317 = (some (.long)) := by decide +kernel
theorem zk_317 : zkd 317 = 0 ∧ znp 317 = 2 := by decide +kernel
theorem zr_317 (as : List zV) : zrk 317 as = 0 := by unfold zrk; rw [if_neg (by decide)]; decide +kernel
def lm_cut_317 (x0 : Int) (x2 : Int) (M : Nat → Nat → Int) : Option Int :=
    (some (zshrL (zshlL x0 (w32 ((64 : Int) - (zshl (8 : Int) x2)))) (w32 ((64 : Int) - (zshl (8 : Int) x2)))))
set_option maxRecDepth 100000 in
theorem ok_lm_cut_317 {sc : zSc} {x0 : Int} {x2 : Int} {M : Nat → Nat → Int} {P : Int → (Nat → Nat → Int) → Prop} (h : zS (lm_cut_317 x0 x2 M) (fun x => P x M)) : zCl sc 317 [.inr (.inl x0), .inl x2] M P := by
  have ea : zarg (zml 317) [.inr (.inl x0), .inl x2] = [some (.inr (.inl x0)), none, some (.inl x2), none] := by rw [zm_317]; rfl
  unfold zCl zCw
  rw [ea, zr_317]
  have hq : 0 ≤ 0 := Nat.le_refl _
  unfold lm_cut_317 at h
  have h := zS_mono h (fun x hx => (⟨x, rfl, hx⟩ : ∃ y, (some (.inr (.inl x)) : Option zV) = some (.inr (.inl y)) ∧ P y M))
  skip
  refine E_bipush (pc := 0) (zDk zD_317_ok 0 rfl) (by decide +kernel) ?_
  refine E_bipush (pc := 2) (zDk zD_317_ok 1 rfl) (by decide +kernel) ?_
  refine E_iload_n (pc := 4) (zDk zD_317_ok 2 rfl) rfl ?_
  refine E_ishl (pc := 5) (zDk zD_317_ok 3 rfl) ?_
  refine W_isub (pc := 6) (zDk zD_317_ok 4 rfl) ?_
  refine W_istore_n (pc := 7) (L' := [some (.inr (.inl x0)), none, some (.inl x2), some (.inl (w32 ((64 : Int) - (zshl (8 : Int) x2))))]) (zDk zD_317_ok 5 rfl) zm_317 (by decide) rfl ?_
  refine E_lload_n (pc := 8) (zDk zD_317_ok 6 rfl) rfl ?_
  refine E_iload_n (pc := 9) (zDk zD_317_ok 7 rfl) rfl ?_
  refine E_lshl (pc := 10) (zDk zD_317_ok 8 rfl) ?_
  refine E_iload_n (pc := 11) (zDk zD_317_ok 9 rfl) rfl ?_
  refine E_lshr (pc := 12) (zDk zD_317_ok 10 rfl) ?_
  have h := zS_some h
  exact E_lreturn (pc := 13) (zDk zD_317_ok 11 rfl) zt_317 h
def zD_321 : List (Nat × Instr × Nat) := [(0, .iload_n (0), 1), (1, .iload_n (0), 1), (2, .iconst (1), 1), (3, .iushr, 1), (4, .ldc_w (265), 3), (7, .iand, 1), (8, .isub, 1), (9, .istore_n (0), 1), (10, .iload_n (0), 1), (11, .ldc_w (266), 3), (14, .iand, 1), (15, .iload_n (0), 1), (16, .iconst (2), 1), (17, .iushr, 1), (18, .ldc_w (266), 3), (21, .iand, 1), (22, .iadd, 1), (23, .istore_n (0), 1), (24, .iload_n (0), 1), (25, .iload_n (0), 1), (26, .iconst (4), 1), (27, .iushr, 1), (28, .iadd, 1), (29, .ldc_w (267), 3), (32, .iand, 1), (33, .istore_n (0), 1), (34, .iload_n (0), 1), (35, .iload_n (0), 1), (36, .bipush (8), 2), (38, .iushr, 1), (39, .iadd, 1), (40, .istore_n (0), 1), (41, .iload_n (0), 1), (42, .iload_n (0), 1), (43, .bipush (16), 2), (45, .iushr, 1), (46, .iadd, 1), (47, .istore_n (0), 1), (48, .iload_n (0), 1), (49, .bipush (63), 2), (51, .iand, 1), (52, .ireturn, 1)]
set_option maxRecDepth 100000 in
theorem zD_321_ok : zDo 321 zD_321 = true := by decide +kernel
theorem zc_321 : zcls 321 = 10 := by decide +kernel
theorem zm_321 : zml 321 = 1 := by decide +kernel
theorem zt_321 : zrt 321 = (some (.int)) := by decide +kernel
theorem zk_321 : zkd 321 = 0 ∧ znp 321 = 1 := by decide +kernel
theorem zr_321 (as : List zV) : zrk 321 as = 0 := by unfold zrk; rw [if_neg (by decide)]; decide +kernel
def lJ_bitCount (x0 : Int) (M : Nat → Nat → Int) : Option Int :=
    (some (zand (w32 ((w32 ((zand (w32 ((w32 ((zand (w32 (x0 - (zand (zushr x0 (1 : Int)) (1431655765 : Int)))) (858993459 : Int)) + (zand (zushr (w32 (x0 - (zand (zushr x0 (1 : Int)) (1431655765 : Int)))) (2 : Int)) (858993459 : Int)))) + (zushr (w32 ((zand (w32 (x0 - (zand (zushr x0 (1 : Int)) (1431655765 : Int)))) (858993459 : Int)) + (zand (zushr (w32 (x0 - (zand (zushr x0 (1 : Int)) (1431655765 : Int)))) (2 : Int)) (858993459 : Int)))) (4 : Int)))) (252645135 : Int)) + (zushr (zand (w32 ((w32 ((zand (w32 (x0 - (zand (zushr x0 (1 : Int)) (1431655765 : Int)))) (858993459 : Int)) + (zand (zushr (w32 (x0 - (zand (zushr x0 (1 : Int)) (1431655765 : Int)))) (2 : Int)) (858993459 : Int)))) + (zushr (w32 ((zand (w32 (x0 - (zand (zushr x0 (1 : Int)) (1431655765 : Int)))) (858993459 : Int)) + (zand (zushr (w32 (x0 - (zand (zushr x0 (1 : Int)) (1431655765 : Int)))) (2 : Int)) (858993459 : Int)))) (4 : Int)))) (252645135 : Int)) (8 : Int)))) + (zushr (w32 ((zand (w32 ((w32 ((zand (w32 (x0 - (zand (zushr x0 (1 : Int)) (1431655765 : Int)))) (858993459 : Int)) + (zand (zushr (w32 (x0 - (zand (zushr x0 (1 : Int)) (1431655765 : Int)))) (2 : Int)) (858993459 : Int)))) + (zushr (w32 ((zand (w32 (x0 - (zand (zushr x0 (1 : Int)) (1431655765 : Int)))) (858993459 : Int)) + (zand (zushr (w32 (x0 - (zand (zushr x0 (1 : Int)) (1431655765 : Int)))) (2 : Int)) (858993459 : Int)))) (4 : Int)))) (252645135 : Int)) + (zushr (zand (w32 ((w32 ((zand (w32 (x0 - (zand (zushr x0 (1 : Int)) (1431655765 : Int)))) (858993459 : Int)) + (zand (zushr (w32 (x0 - (zand (zushr x0 (1 : Int)) (1431655765 : Int)))) (2 : Int)) (858993459 : Int)))) + (zushr (w32 ((zand (w32 (x0 - (zand (zushr x0 (1 : Int)) (1431655765 : Int)))) (858993459 : Int)) + (zand (zushr (w32 (x0 - (zand (zushr x0 (1 : Int)) (1431655765 : Int)))) (2 : Int)) (858993459 : Int)))) (4 : Int)))) (252645135 : Int)) (8 : Int)))) (16 : Int)))) (63 : Int)))
set_option maxRecDepth 100000 in
theorem ok_lJ_bitCount {sc : zSc} {x0 : Int} {M : Nat → Nat → Int} {P : Int → (Nat → Nat → Int) → Prop} (h : zS (lJ_bitCount x0 M) (fun x => P x M)) : zCi sc 321 [.inl x0] M P := by
  have ea : zarg (zml 321) [.inl x0] = [some (.inl x0)] := by rw [zm_321]; rfl
  unfold zCi zCw
  rw [ea, zr_321]
  have hq : 0 ≤ 0 := Nat.le_refl _
  unfold lJ_bitCount at h
  have h := zS_mono h (fun x hx => (⟨x, rfl, hx⟩ : ∃ y, (some (.inl x) : Option zV) = some (.inl y) ∧ P y M))
  skip
  refine E_iload_n (pc := 0) (zDk zD_321_ok 0 rfl) rfl ?_
  refine E_iload_n (pc := 1) (zDk zD_321_ok 1 rfl) rfl ?_
  refine E_iconst (pc := 2) (zDk zD_321_ok 2 rfl) (by decide +kernel) ?_
  refine E_iushr (pc := 3) (zDk zD_321_ok 3 rfl) ?_
  refine E_ldc_w (pc := 4) (v := .inl (1431655765 : Int)) (zDk zD_321_ok 4 rfl) zc_321 (by decide +kernel) ?_
  refine E_iand (pc := 7) (zDk zD_321_ok 5 rfl) ?_
  refine W_isub (pc := 8) (zDk zD_321_ok 6 rfl) ?_
  refine W_istore_n (pc := 9) (L' := [some (.inl (w32 (x0 - (zand (zushr x0 (1 : Int)) (1431655765 : Int)))))]) (zDk zD_321_ok 7 rfl) zm_321 (by decide) rfl ?_
  refine E_iload_n (pc := 10) (zDk zD_321_ok 8 rfl) rfl ?_
  refine E_ldc_w (pc := 11) (v := .inl (858993459 : Int)) (zDk zD_321_ok 9 rfl) zc_321 (by decide +kernel) ?_
  refine E_iand (pc := 14) (zDk zD_321_ok 10 rfl) ?_
  refine E_iload_n (pc := 15) (zDk zD_321_ok 11 rfl) rfl ?_
  refine E_iconst (pc := 16) (zDk zD_321_ok 12 rfl) (by decide +kernel) ?_
  refine E_iushr (pc := 17) (zDk zD_321_ok 13 rfl) ?_
  refine E_ldc_w (pc := 18) (v := .inl (858993459 : Int)) (zDk zD_321_ok 14 rfl) zc_321 (by decide +kernel) ?_
  refine E_iand (pc := 21) (zDk zD_321_ok 15 rfl) ?_
  refine W_iadd (pc := 22) (zDk zD_321_ok 16 rfl) ?_
  refine W_istore_n (pc := 23) (L' := [some (.inl (w32 ((zand (w32 (x0 - (zand (zushr x0 (1 : Int)) (1431655765 : Int)))) (858993459 : Int)) + (zand (zushr (w32 (x0 - (zand (zushr x0 (1 : Int)) (1431655765 : Int)))) (2 : Int)) (858993459 : Int)))))]) (zDk zD_321_ok 17 rfl) zm_321 (by decide) rfl ?_
  refine E_iload_n (pc := 24) (zDk zD_321_ok 18 rfl) rfl ?_
  refine E_iload_n (pc := 25) (zDk zD_321_ok 19 rfl) rfl ?_
  refine E_iconst (pc := 26) (zDk zD_321_ok 20 rfl) (by decide +kernel) ?_
  refine E_iushr (pc := 27) (zDk zD_321_ok 21 rfl) ?_
  refine W_iadd (pc := 28) (zDk zD_321_ok 22 rfl) ?_
  refine E_ldc_w (pc := 29) (v := .inl (252645135 : Int)) (zDk zD_321_ok 23 rfl) zc_321 (by decide +kernel) ?_
  refine E_iand (pc := 32) (zDk zD_321_ok 24 rfl) ?_
  refine W_istore_n (pc := 33) (L' := [some (.inl (zand (w32 ((w32 ((zand (w32 (x0 - (zand (zushr x0 (1 : Int)) (1431655765 : Int)))) (858993459 : Int)) + (zand (zushr (w32 (x0 - (zand (zushr x0 (1 : Int)) (1431655765 : Int)))) (2 : Int)) (858993459 : Int)))) + (zushr (w32 ((zand (w32 (x0 - (zand (zushr x0 (1 : Int)) (1431655765 : Int)))) (858993459 : Int)) + (zand (zushr (w32 (x0 - (zand (zushr x0 (1 : Int)) (1431655765 : Int)))) (2 : Int)) (858993459 : Int)))) (4 : Int)))) (252645135 : Int)))]) (zDk zD_321_ok 25 rfl) zm_321 (by decide) rfl ?_
  refine E_iload_n (pc := 34) (zDk zD_321_ok 26 rfl) rfl ?_
  refine E_iload_n (pc := 35) (zDk zD_321_ok 27 rfl) rfl ?_
  refine E_bipush (pc := 36) (zDk zD_321_ok 28 rfl) (by decide +kernel) ?_
  refine E_iushr (pc := 38) (zDk zD_321_ok 29 rfl) ?_
  refine W_iadd (pc := 39) (zDk zD_321_ok 30 rfl) ?_
  refine W_istore_n (pc := 40) (L' := [some (.inl (w32 ((zand (w32 ((w32 ((zand (w32 (x0 - (zand (zushr x0 (1 : Int)) (1431655765 : Int)))) (858993459 : Int)) + (zand (zushr (w32 (x0 - (zand (zushr x0 (1 : Int)) (1431655765 : Int)))) (2 : Int)) (858993459 : Int)))) + (zushr (w32 ((zand (w32 (x0 - (zand (zushr x0 (1 : Int)) (1431655765 : Int)))) (858993459 : Int)) + (zand (zushr (w32 (x0 - (zand (zushr x0 (1 : Int)) (1431655765 : Int)))) (2 : Int)) (858993459 : Int)))) (4 : Int)))) (252645135 : Int)) + (zushr (zand (w32 ((w32 ((zand (w32 (x0 - (zand (zushr x0 (1 : Int)) (1431655765 : Int)))) (858993459 : Int)) + (zand (zushr (w32 (x0 - (zand (zushr x0 (1 : Int)) (1431655765 : Int)))) (2 : Int)) (858993459 : Int)))) + (zushr (w32 ((zand (w32 (x0 - (zand (zushr x0 (1 : Int)) (1431655765 : Int)))) (858993459 : Int)) + (zand (zushr (w32 (x0 - (zand (zushr x0 (1 : Int)) (1431655765 : Int)))) (2 : Int)) (858993459 : Int)))) (4 : Int)))) (252645135 : Int)) (8 : Int)))))]) (zDk zD_321_ok 31 rfl) zm_321 (by decide) rfl ?_
  refine E_iload_n (pc := 41) (zDk zD_321_ok 32 rfl) rfl ?_
  refine E_iload_n (pc := 42) (zDk zD_321_ok 33 rfl) rfl ?_
  refine E_bipush (pc := 43) (zDk zD_321_ok 34 rfl) (by decide +kernel) ?_
  refine E_iushr (pc := 45) (zDk zD_321_ok 35 rfl) ?_
  refine W_iadd (pc := 46) (zDk zD_321_ok 36 rfl) ?_
  refine W_istore_n (pc := 47) (L' := [some (.inl (w32 ((w32 ((zand (w32 ((w32 ((zand (w32 (x0 - (zand (zushr x0 (1 : Int)) (1431655765 : Int)))) (858993459 : Int)) + (zand (zushr (w32 (x0 - (zand (zushr x0 (1 : Int)) (1431655765 : Int)))) (2 : Int)) (858993459 : Int)))) + (zushr (w32 ((zand (w32 (x0 - (zand (zushr x0 (1 : Int)) (1431655765 : Int)))) (858993459 : Int)) + (zand (zushr (w32 (x0 - (zand (zushr x0 (1 : Int)) (1431655765 : Int)))) (2 : Int)) (858993459 : Int)))) (4 : Int)))) (252645135 : Int)) + (zushr (zand (w32 ((w32 ((zand (w32 (x0 - (zand (zushr x0 (1 : Int)) (1431655765 : Int)))) (858993459 : Int)) + (zand (zushr (w32 (x0 - (zand (zushr x0 (1 : Int)) (1431655765 : Int)))) (2 : Int)) (858993459 : Int)))) + (zushr (w32 ((zand (w32 (x0 - (zand (zushr x0 (1 : Int)) (1431655765 : Int)))) (858993459 : Int)) + (zand (zushr (w32 (x0 - (zand (zushr x0 (1 : Int)) (1431655765 : Int)))) (2 : Int)) (858993459 : Int)))) (4 : Int)))) (252645135 : Int)) (8 : Int)))) + (zushr (w32 ((zand (w32 ((w32 ((zand (w32 (x0 - (zand (zushr x0 (1 : Int)) (1431655765 : Int)))) (858993459 : Int)) + (zand (zushr (w32 (x0 - (zand (zushr x0 (1 : Int)) (1431655765 : Int)))) (2 : Int)) (858993459 : Int)))) + (zushr (w32 ((zand (w32 (x0 - (zand (zushr x0 (1 : Int)) (1431655765 : Int)))) (858993459 : Int)) + (zand (zushr (w32 (x0 - (zand (zushr x0 (1 : Int)) (1431655765 : Int)))) (2 : Int)) (858993459 : Int)))) (4 : Int)))) (252645135 : Int)) + (zushr (zand (w32 ((w32 ((zand (w32 (x0 - (zand (zushr x0 (1 : Int)) (1431655765 : Int)))) (858993459 : Int)) + (zand (zushr (w32 (x0 - (zand (zushr x0 (1 : Int)) (1431655765 : Int)))) (2 : Int)) (858993459 : Int)))) + (zushr (w32 ((zand (w32 (x0 - (zand (zushr x0 (1 : Int)) (1431655765 : Int)))) (858993459 : Int)) + (zand (zushr (w32 (x0 - (zand (zushr x0 (1 : Int)) (1431655765 : Int)))) (2 : Int)) (858993459 : Int)))) (4 : Int)))) (252645135 : Int)) (8 : Int)))) (16 : Int)))))]) (zDk zD_321_ok 37 rfl) zm_321 (by decide) rfl ?_
  refine E_iload_n (pc := 48) (zDk zD_321_ok 38 rfl) rfl ?_
  refine E_bipush (pc := 49) (zDk zD_321_ok 39 rfl) (by decide +kernel) ?_
  refine E_iand (pc := 51) (zDk zD_321_ok 40 rfl) ?_
  have h := zS_some h
  exact E_ireturn (pc := 52) (zDk zD_321_ok 41 rfl) zt_321 h
def zD_324 : List (Nat × Instr × Nat) := [(0, .getstatic (38), 3), (3, .ifCond .eq (10), 3), (6, .aload_n (0), 1), (7, .getfield (15), 3), (10, .goto (4), 3), (13, .iconst (1), 1), (14, .ireturn, 1)]
set_option maxRecDepth 100000 in
theorem zD_324_ok : zDo 324 zD_324 = true := by decide +kernel
theorem zc_324 : zcls 324 = 11 := by decide +kernel
theorem zm_324 : zml 324 = 1 := by decide +kernel
theorem zt_324 : zrt 324 = (some (.byte)) := by decide +kernel
theorem zk_324 : zkd 324 = 1 ∧ znp 324 + 1 = 1 := by decide +kernel
theorem zr_324 (as : List zV) : zrk 324 as = 0 := by unfold zrk; rw [if_neg (by decide)]; decide +kernel
def lS_coder (w0 : Nat) (M : Nat → Nat → Int) : Option Int :=
    (if 5003 ≤ w0 ∧ w0 < 5033 then
    (if -128 ≤ (0 : Int) ∧ (0 : Int) < 128 then some (0 : Int) else none)
    else none)
set_option maxRecDepth 100000 in
theorem ok_lS_coder {sc : zSc} {w0 : Nat} {M : Nat → Nat → Int} {P : Int → (Nat → Nat → Int) → Prop} (h : zS (lS_coder w0 M) (fun x => P x M)) : zCi sc 324 [.inr (.inr w0)] M P := by
  have ea : zarg (zml 324) [.inr (.inr w0)] = [some (.inr (.inr w0))] := by rw [zm_324]; rfl
  unfold zCi zCw
  rw [ea, zr_324]
  have hq : 0 ≤ 0 := Nat.le_refl _
  unfold lS_coder at h
  have h := zS_mono h (fun x hx => (⟨x, rfl, hx⟩ : ∃ y, (some (.inl x) : Option zV) = some (.inl y) ∧ P y M))
  obtain ⟨hw0, h⟩ := zS_c h
  skip
  refine E_getstatic (pc := 0) (v := .inl (1 : Int)) (zDk zD_324_ok 0 rfl) zc_324 (by decide +kernel) ?_
  refine E_if (pc := 3) (t := 13) (zDk zD_324_ok 1 rfl) rfl (fun hz => ?_) (fun hz => ?_)
  · exact absurd hz (by decide)
  · refine E_aload_n (pc := 6) (zDk zD_324_ok 2 rfl) rfl ?_
    refine E_getS (pc := 7) (v := .inl (0 : Int)) (zDk zD_324_ok 3 rfl) zc_324 (by decide +kernel) (w := 1) (by decide +kernel) rfl hw0 ?_
    refine E_goto (pc := 10) (t := 14) (zDk zD_324_ok 4 rfl) rfl ?_
    obtain ⟨hx, h⟩ := zS_c h
    have h := zS_some h
    exact E_ireturnB (pc := 14) (zDk zD_324_ok 6 rfl) zt_324 hx h
def zD_325 : List (Nat × Instr × Nat) := [(0, .getstatic (38), 3), (3, .ifCond .eq (14), 3), (6, .aload_n (0), 1), (7, .getfield (15), 3), (10, .ifCond .ne (7), 3), (13, .iconst (1), 1), (14, .goto (4), 3), (17, .iconst (0), 1), (18, .ireturn, 1)]
set_option maxRecDepth 100000 in
theorem zD_325_ok : zDo 325 zD_325 = true := by decide +kernel
theorem zc_325 : zcls 325 = 11 := by decide +kernel
theorem zm_325 : zml 325 = 1 := by decide +kernel
theorem zt_325 : zrt 325 = (some (.boolean)) := by decide +kernel
theorem zk_325 : zkd 325 = 1 ∧ znp 325 + 1 = 1 := by decide +kernel
theorem zr_325 (as : List zV) : zrk 325 as = 0 := by unfold zrk; rw [if_neg (by decide)]; decide +kernel
def lS_isLatin1 (w0 : Nat) (M : Nat → Nat → Int) : Option Int :=
    (if 5003 ≤ w0 ∧ w0 < 5033 then
    (some (1 : Int))
    else none)
set_option maxRecDepth 100000 in
theorem ok_lS_isLatin1 {sc : zSc} {w0 : Nat} {M : Nat → Nat → Int} {P : Int → (Nat → Nat → Int) → Prop} (h : zS (lS_isLatin1 w0 M) (fun x => P x M)) : zCi sc 325 [.inr (.inr w0)] M P := by
  have ea : zarg (zml 325) [.inr (.inr w0)] = [some (.inr (.inr w0))] := by rw [zm_325]; rfl
  unfold zCi zCw
  rw [ea, zr_325]
  have hq : 0 ≤ 0 := Nat.le_refl _
  unfold lS_isLatin1 at h
  have h := zS_mono h (fun x hx => (⟨x, rfl, hx⟩ : ∃ y, (some (.inl x) : Option zV) = some (.inl y) ∧ P y M))
  obtain ⟨hw0, h⟩ := zS_c h
  skip
  refine E_getstatic (pc := 0) (v := .inl (1 : Int)) (zDk zD_325_ok 0 rfl) zc_325 (by decide +kernel) ?_
  refine E_if (pc := 3) (t := 17) (zDk zD_325_ok 1 rfl) rfl (fun hz => ?_) (fun hz => ?_)
  · exact absurd hz (by decide)
  · refine E_aload_n (pc := 6) (zDk zD_325_ok 2 rfl) rfl ?_
    refine E_getS (pc := 7) (v := .inl (0 : Int)) (zDk zD_325_ok 3 rfl) zc_325 (by decide +kernel) (w := 1) (by decide +kernel) rfl hw0 ?_
    refine E_if (pc := 10) (t := 17) (zDk zD_325_ok 4 rfl) rfl (fun hz => ?_) (fun hz => ?_)
    · exact absurd hz (by decide)
    · refine E_iconst (pc := 13) (zDk zD_325_ok 5 rfl) (by decide +kernel) ?_
      refine E_goto (pc := 14) (t := 18) (zDk zD_325_ok 6 rfl) rfl ?_
      have h := zS_some h
      exact E_ireturnZ (pc := 18) (zDk zD_325_ok 8 rfl) zt_325 (by decide) h
def zD_328 : List (Nat × Instr × Nat) := [(0, .iconst (0), 1), (1, .istore_n (3), 1), (2, .aload_n (0), 1), (3, .arraylength, 1), (4, .istore (4), 2), (6, .iload_n (3), 1), (7, .iload (4), 2), (9, .if_icmp .ge (13), 3), (12, .aload_n (0), 1), (13, .iload_n (3), 1), (14, .lload_n (1), 1), (15, .lastore, 1), (16, .iinc (3) (1), 3), (19, .goto (-13), 3), (22, .return_, 1)]
set_option maxRecDepth 100000 in
theorem zD_328_ok : zDo 328 zD_328 = true := by decide +kernel
theorem zc_328 : zcls 328 = 13 := by decide +kernel
theorem zm_328 : zml 328 = 5 := by decide +kernel
theorem zt_328 : zrt 328 = none := by decide +kernel
theorem zk_328 : zkd 328 = 0 ∧ znp 328 = 2 := by decide +kernel
theorem zr_328 (as : List zV) : zrk 328 as = 0 := by unfold zrk; rw [if_neg (by decide)]; decide +kernel
def lY_fill_c6 (r0 : Nat) (x1 : Int) : Nat → Int → Int → (Nat → Nat → Int) → Option (Nat → Nat → Int)
  | 0, _, _, _ => none
  | n + 1, y3, y4, M =>
    (if y3 < y4 then
    ((wrL r0 y3 x1 M).bind (fun M15 =>
    ((lY_fill_c6 r0 x1 n) (w32 (y3 + 1)) y4 M15)))
    else
    (some M))
set_option maxRecDepth 100000 in
theorem ok_lY_fill_c6 {sc : zSc} {q : Nat} {P : Option zV → (Nat → Nat → Int) → Prop} (hq : 0 ≤ q) (r0 : Nat) (x1 : Int) : ∀ (n : Nat) (y3 : Int) (y4 : Int) (M : Nat → Nat → Int), zS (lY_fill_c6 r0 x1 n y3 y4 M) (fun M0 => P none M0) → zWp sc q 328 6 [some (.inr (.inr r0)), some (.inr (.inl x1)), none, some (.inl y3), some (.inl y4)] [] M P := by
  intro n
  induction n with
  | zero => intro y3 y4 M h; exact (zS_none h).elim
  | succ n ih =>
    intro y3 y4 M h
    rw [lY_fill_c6] at h
    refine E_iload_n (pc := 6) (zDk zD_328_ok 5 rfl) rfl ?_
    refine E_iload (pc := 7) (zDk zD_328_ok 6 rfl) rfl ?_
    refine E_icmp (pc := 9) (t := 22) (zDk zD_328_ok 7 rfl) rfl (fun hz => ?_) (fun hz => ?_)
    · have h := zS_f h (Int.not_lt.mpr (T_ge hz))
      have h := zS_some h
      exact E_return (x := ()) (pc := 22) (zDk zD_328_ok 14 rfl) zt_328 h
    · have h := zS_t h (F_ge hz)
      refine E_aload_n (pc := 12) (zDk zD_328_ok 8 rfl) rfl ?_
      refine E_iload_n (pc := 13) (zDk zD_328_ok 9 rfl) rfl ?_
      refine E_lload_n (pc := 14) (zDk zD_328_ok 10 rfl) rfl ?_
      obtain ⟨M15, e15, h⟩ := zS_bind h
      refine E_lastore (pc := 15) (zDk zD_328_ok 11 rfl) e15 ?_
      refine W_iinc (pc := 16) (L' := [some (.inr (.inr r0)), some (.inr (.inl x1)), none, some (.inl (w32 (y3 + 1))), some (.inl y4)]) (zDk zD_328_ok 12 rfl) rfl zm_328 (by decide) rfl ?_
      refine E_goto (pc := 19) (t := 6) (zDk zD_328_ok 13 rfl) rfl ?_
      exact (ih) (w32 (y3 + 1)) y4 M15 h
def lY_fill (r0 : Nat) (x1 : Int) (M : Nat → Nat → Int) : Option (Nat → Nat → Int) :=
    ((lnA r0).bind (fun v3 =>
    (lY_fill_c6 r0 x1 zN (0 : Int) v3 M)))
set_option maxRecDepth 100000 in
theorem ok_lY_fill {sc : zSc} {r0 : Nat} {x1 : Int} {M : Nat → Nat → Int} {P : (Nat → Nat → Int) → Prop} (h : zS (lY_fill r0 x1 M) P) : zCv sc 328 [.inr (.inr r0), .inr (.inl x1)] M P := by
  have ea : zarg (zml 328) [.inr (.inr r0), .inr (.inl x1)] = [some (.inr (.inr r0)), some (.inr (.inl x1)), none, none, none] := by rw [zm_328]; rfl
  unfold zCv zCw
  rw [ea, zr_328]
  have hq : 0 ≤ 0 := Nat.le_refl _
  unfold lY_fill at h
  have h := zS_mono h (fun x hx => (⟨rfl, hx⟩ : (none : Option zV) = none ∧ P x))
  skip
  refine E_iconst (pc := 0) (zDk zD_328_ok 0 rfl) (by decide +kernel) ?_
  refine W_istore_n (pc := 1) (L' := [some (.inr (.inr r0)), some (.inr (.inl x1)), none, some (.inl (0 : Int)), none]) (zDk zD_328_ok 1 rfl) zm_328 (by decide) rfl ?_
  refine E_aload_n (pc := 2) (zDk zD_328_ok 2 rfl) rfl ?_
  obtain ⟨v3, e3, h⟩ := zS_bind h
  refine E_arraylength (pc := 3) (zDk zD_328_ok 3 rfl) e3 ?_
  refine W_istore (pc := 4) (L' := [some (.inr (.inr r0)), some (.inr (.inl x1)), none, some (.inl (0 : Int)), some (.inl v3)]) (zDk zD_328_ok 4 rfl) zm_328 (by decide) rfl ?_
  exact ok_lY_fill_c6 hq r0 x1 zN (0 : Int) v3 M h
def zD_329 : List (Nat × Instr × Nat) := [(0, .iconst (0), 1), (1, .istore_n (2), 1), (2, .aload_n (0), 1), (3, .arraylength, 1), (4, .istore_n (3), 1), (5, .iload_n (2), 1), (6, .iload_n (3), 1), (7, .if_icmp .ge (13), 3), (10, .aload_n (0), 1), (11, .iload_n (2), 1), (12, .iload_n (1), 1), (13, .iastore, 1), (14, .iinc (2) (1), 3), (17, .goto (-12), 3), (20, .return_, 1)]
set_option maxRecDepth 100000 in
theorem zD_329_ok : zDo 329 zD_329 = true := by decide +kernel
theorem zc_329 : zcls 329 = 13 := by decide +kernel
theorem zm_329 : zml 329 = 4 := by decide +kernel
theorem zt_329 : zrt 329 = none := by decide +kernel
theorem zk_329 : zkd 329 = 0 ∧ znp 329 = 2 := by decide +kernel
theorem zr_329 (as : List zV) : zrk 329 as = 0 := by unfold zrk; rw [if_neg (by decide)]; decide +kernel
def lY_fill_329_c5 (r0 : Nat) (x1 : Int) : Nat → Int → Int → (Nat → Nat → Int) → Option (Nat → Nat → Int)
  | 0, _, _, _ => none
  | n + 1, y2, y3, M =>
    (if y2 < y3 then
    ((wrI r0 y2 x1 M).bind (fun M13 =>
    ((lY_fill_329_c5 r0 x1 n) (w32 (y2 + 1)) y3 M13)))
    else
    (some M))
set_option maxRecDepth 100000 in
theorem ok_lY_fill_329_c5 {sc : zSc} {q : Nat} {P : Option zV → (Nat → Nat → Int) → Prop} (hq : 0 ≤ q) (r0 : Nat) (x1 : Int) : ∀ (n : Nat) (y2 : Int) (y3 : Int) (M : Nat → Nat → Int), zS (lY_fill_329_c5 r0 x1 n y2 y3 M) (fun M0 => P none M0) → zWp sc q 329 5 [some (.inr (.inr r0)), some (.inl x1), some (.inl y2), some (.inl y3)] [] M P := by
  intro n
  induction n with
  | zero => intro y2 y3 M h; exact (zS_none h).elim
  | succ n ih =>
    intro y2 y3 M h
    rw [lY_fill_329_c5] at h
    refine E_iload_n (pc := 5) (zDk zD_329_ok 5 rfl) rfl ?_
    refine E_iload_n (pc := 6) (zDk zD_329_ok 6 rfl) rfl ?_
    refine E_icmp (pc := 7) (t := 20) (zDk zD_329_ok 7 rfl) rfl (fun hz => ?_) (fun hz => ?_)
    · have h := zS_f h (Int.not_lt.mpr (T_ge hz))
      have h := zS_some h
      exact E_return (x := ()) (pc := 20) (zDk zD_329_ok 14 rfl) zt_329 h
    · have h := zS_t h (F_ge hz)
      refine E_aload_n (pc := 10) (zDk zD_329_ok 8 rfl) rfl ?_
      refine E_iload_n (pc := 11) (zDk zD_329_ok 9 rfl) rfl ?_
      refine E_iload_n (pc := 12) (zDk zD_329_ok 10 rfl) rfl ?_
      obtain ⟨M13, e13, h⟩ := zS_bind h
      refine E_iastore (pc := 13) (zDk zD_329_ok 11 rfl) e13 ?_
      refine W_iinc (pc := 14) (L' := [some (.inr (.inr r0)), some (.inl x1), some (.inl (w32 (y2 + 1))), some (.inl y3)]) (zDk zD_329_ok 12 rfl) rfl zm_329 (by decide) rfl ?_
      refine E_goto (pc := 17) (t := 5) (zDk zD_329_ok 13 rfl) rfl ?_
      exact (ih) (w32 (y2 + 1)) y3 M13 h
def lY_fill_329 (r0 : Nat) (x1 : Int) (M : Nat → Nat → Int) : Option (Nat → Nat → Int) :=
    ((lnA r0).bind (fun v3 =>
    (lY_fill_329_c5 r0 x1 zN (0 : Int) v3 M)))
set_option maxRecDepth 100000 in
theorem ok_lY_fill_329 {sc : zSc} {r0 : Nat} {x1 : Int} {M : Nat → Nat → Int} {P : (Nat → Nat → Int) → Prop} (h : zS (lY_fill_329 r0 x1 M) P) : zCv sc 329 [.inr (.inr r0), .inl x1] M P := by
  have ea : zarg (zml 329) [.inr (.inr r0), .inl x1] = [some (.inr (.inr r0)), some (.inl x1), none, none] := by rw [zm_329]; rfl
  unfold zCv zCw
  rw [ea, zr_329]
  have hq : 0 ≤ 0 := Nat.le_refl _
  unfold lY_fill_329 at h
  have h := zS_mono h (fun x hx => (⟨rfl, hx⟩ : (none : Option zV) = none ∧ P x))
  skip
  refine E_iconst (pc := 0) (zDk zD_329_ok 0 rfl) (by decide +kernel) ?_
  refine W_istore_n (pc := 1) (L' := [some (.inr (.inr r0)), some (.inl x1), some (.inl (0 : Int)), none]) (zDk zD_329_ok 1 rfl) zm_329 (by decide) rfl ?_
  refine E_aload_n (pc := 2) (zDk zD_329_ok 2 rfl) rfl ?_
  obtain ⟨v3, e3, h⟩ := zS_bind h
  refine E_arraylength (pc := 3) (zDk zD_329_ok 3 rfl) e3 ?_
  refine W_istore_n (pc := 4) (L' := [some (.inr (.inr r0)), some (.inl x1), some (.inl (0 : Int)), some (.inl v3)]) (zDk zD_329_ok 4 rfl) zm_329 (by decide) rfl ?_
  exact ok_lY_fill_329_c5 hq r0 x1 zN (0 : Int) v3 M h
def zD_330 : List (Nat × Instr × Nat) := [(0, .iload_n (0), 1), (1, .ifCond .lt (8), 3), (4, .iload_n (0), 1), (5, .iload_n (1), 1), (6, .if_icmp .lt (10), 3), (9, .aload_n (2), 1), (10, .iload_n (0), 1), (11, .iload_n (1), 1), (12, .invokestatic (95), 3), (15, .athrow, 1), (16, .iload_n (0), 1), (17, .ireturn, 1)]
set_option maxRecDepth 100000 in
theorem zD_330_ok : zDo 330 zD_330 = true := by decide +kernel
theorem zc_330 : zcls 330 = 14 := by decide +kernel
theorem zm_330 : zml 330 = 3 := by decide +kernel
theorem zt_330 : zrt 330 = (some (.int)) := by decide +kernel
theorem zk_330 : zkd 330 = 0 ∧ znp 330 = 3 := by decide +kernel
theorem zr_330 (as : List zV) : zrk 330 as = 0 := by unfold zrk; rw [if_neg (by decide)]; decide +kernel
def lP_checkIndex (x0 : Int) (x1 : Int) (r2 : Nat) (M : Nat → Nat → Int) : Option Int :=
    (if x0 < 0 then
    none
    else
    (if x0 < x1 then
    (some x0)
    else
    none))
set_option maxRecDepth 100000 in
theorem ok_lP_checkIndex {sc : zSc} {x0 : Int} {x1 : Int} {r2 : Nat} {M : Nat → Nat → Int} {P : Int → (Nat → Nat → Int) → Prop} (h : zS (lP_checkIndex x0 x1 r2 M) (fun x => P x M)) : zCi sc 330 [.inl x0, .inl x1, .inr (.inr r2)] M P := by
  have ea : zarg (zml 330) [.inl x0, .inl x1, .inr (.inr r2)] = [some (.inl x0), some (.inl x1), some (.inr (.inr r2))] := by rw [zm_330]; rfl
  unfold zCi zCw
  rw [ea, zr_330]
  have hq : 0 ≤ 0 := Nat.le_refl _
  unfold lP_checkIndex at h
  have h := zS_mono h (fun x hx => (⟨x, rfl, hx⟩ : ∃ y, (some (.inl x) : Option zV) = some (.inl y) ∧ P y M))
  skip
  refine E_iload_n (pc := 0) (zDk zD_330_ok 0 rfl) rfl ?_
  refine E_if (pc := 1) (t := 9) (zDk zD_330_ok 1 rfl) rfl (fun hz => ?_) (fun hz => ?_)
  · have h := zS_t h (T_lt hz)
    refine E_aload_n (pc := 9) (zDk zD_330_ok 5 rfl) rfl ?_
    refine E_iload_n (pc := 10) (zDk zD_330_ok 6 rfl) rfl ?_
    refine E_iload_n (pc := 11) (zDk zD_330_ok 7 rfl) rfl ?_
    exact (zS_none h).elim
  · have h := zS_f h (Int.not_lt.mpr (F_lt hz))
    refine E_iload_n (pc := 4) (zDk zD_330_ok 2 rfl) rfl ?_
    refine E_iload_n (pc := 5) (zDk zD_330_ok 3 rfl) rfl ?_
    refine E_icmp (pc := 6) (t := 16) (zDk zD_330_ok 4 rfl) rfl (fun hz => ?_) (fun hz => ?_)
    · have h := zS_t h (T_lt hz)
      refine E_iload_n (pc := 16) (zDk zD_330_ok 10 rfl) rfl ?_
      have h := zS_some h
      exact E_ireturn (pc := 17) (zDk zD_330_ok 11 rfl) zt_330 h
    · have h := zS_f h (Int.not_lt.mpr (F_lt hz))
      refine E_aload_n (pc := 9) (zDk zD_330_ok 5 rfl) rfl ?_
      refine E_iload_n (pc := 10) (zDk zD_330_ok 6 rfl) rfl ?_
      refine E_iload_n (pc := 11) (zDk zD_330_ok 7 rfl) rfl ?_
      exact (zS_none h).elim
def zD_1 : List (Nat × Instr × Nat) := [(0, .aload_n (0), 1), (1, .getfield (33), 3), (4, .bipush (30), 2), (6, .if_icmp .lt (4), 3), (9, .return_, 1), (10, .aload_n (0), 1), (11, .getfield (9), 3), (14, .aload_n (0), 1), (15, .getfield (33), 3), (18, .iload_n (1), 1), (19, .iastore, 1), (20, .aload_n (0), 1), (21, .getfield (15), 3), (24, .aload_n (0), 1), (25, .getfield (33), 3), (28, .iload_n (2), 1), (29, .iastore, 1), (30, .aload_n (0), 1), (31, .getfield (18), 3), (34, .aload_n (0), 1), (35, .getfield (33), 3), (38, .iload_n (3), 1), (39, .iastore, 1), (40, .aload_n (0), 1), (41, .getfield (21), 3), (44, .aload_n (0), 1), (45, .getfield (33), 3), (48, .iload (4), 2), (50, .iastore, 1), (51, .aload_n (0), 1), (52, .dup, 1), (53, .getfield (33), 3), (56, .iconst (1), 1), (57, .iadd, 1), (58, .putfield (33), 3), (61, .aload_n (0), 1), (62, .aload_n (0), 1), (63, .getfield (33), 3), (66, .iconst (1), 1), (67, .isub, 1), (68, .invokevirtual (37), 3), (71, .return_, 1)]
set_option maxRecDepth 100000 in
theorem zD_1_ok : zDo 1 zD_1 = true := by decide +kernel
theorem zc_1 : zcls 1 = 0 := by decide +kernel
theorem zm_1 : zml 1 = 5 := by decide +kernel
theorem zt_1 : zrt 1 = none := by decide +kernel
theorem zk_1 : zkd 1 = 1 ∧ znp 1 + 1 = 5 := by decide +kernel
theorem zr_1 (as : List zV) : zrk 1 as = 1 := by unfold zrk; rw [if_neg (by decide)]; decide +kernel
def lA_add (r0 : Nat) (x1 : Int) (x2 : Int) (x3 : Int) (x4 : Int) (M : Nat → Nat → Int) : Option (Nat → Nat → Int) :=
    (if zis 0 r0 = true then
    (if (M r0 0) < (30 : Int) then
    ((wrI (r0 + 1) (M r0 0) x1 M).bind (fun M19 =>
    ((wrI (r0 + 2) (M19 r0 0) x2 M19).bind (fun M29 =>
    ((wrI (r0 + 3) (M29 r0 0) x3 M29).bind (fun M39 =>
    ((wrI (r0 + 4) (M39 r0 0) x4 M39).bind (fun M50 =>
    ((some (zup M50 r0 0 (w32 ((M50 r0 0) + (1 : Int))))).bind (fun M58 =>
    ((lA_takeEffect r0 (w32 ((M58 r0 0) - (1 : Int))) M58).bind (fun M68 =>
    (some M68)))))))))))))
    else
    (some M))
    else none)
set_option maxRecDepth 100000 in
theorem ok_lA_add {sc : zSc} {r0 : Nat} {x1 : Int} {x2 : Int} {x3 : Int} {x4 : Int} {M : Nat → Nat → Int} {P : (Nat → Nat → Int) → Prop} (h : zS (lA_add r0 x1 x2 x3 x4 M) P) : zCv sc 1 [.inr (.inr r0), .inl x1, .inl x2, .inl x3, .inl x4] M P := by
  have ea : zarg (zml 1) [.inr (.inr r0), .inl x1, .inl x2, .inl x3, .inl x4] = [some (.inr (.inr r0)), some (.inl x1), some (.inl x2), some (.inl x3), some (.inl x4)] := by rw [zm_1]; rfl
  unfold zCv zCw
  rw [ea, zr_1]
  have hq : 1 ≤ 1 := Nat.le_refl _
  unfold lA_add at h
  have h := zS_mono h (fun x hx => (⟨rfl, hx⟩ : (none : Option zV) = none ∧ P x))
  obtain ⟨hr0, h⟩ := zS_c h
  skip
  refine E_aload_n (pc := 0) (zDk zD_1_ok 0 rfl) rfl ?_
  refine E_getI (pc := 1) (ci := 0) (f := 0) (zDk zD_1_ok 1 rfl) zc_1 (by decide +kernel) (by decide) hr0 ?_
  refine E_bipush (pc := 4) (zDk zD_1_ok 2 rfl) (by decide +kernel) ?_
  refine E_icmp (pc := 6) (t := 10) (zDk zD_1_ok 3 rfl) rfl (fun hz => ?_) (fun hz => ?_)
  · have h := zS_t h (T_lt hz)
    refine E_aload_n (pc := 10) (zDk zD_1_ok 5 rfl) rfl ?_
    refine E_getR (pc := 11) (ci := 0) (f := 2) (r := (r0 + 1)) (zDk zD_1_ok 6 rfl) zc_1 (by decide +kernel) (by decide) hr0 (zg_0_2 hr0) (zh_0_2 hr0) ?_
    refine E_aload_n (pc := 14) (zDk zD_1_ok 7 rfl) rfl ?_
    refine E_getI (pc := 15) (ci := 0) (f := 0) (zDk zD_1_ok 8 rfl) zc_1 (by decide +kernel) (by decide) hr0 ?_
    refine E_iload_n (pc := 18) (zDk zD_1_ok 9 rfl) rfl ?_
    obtain ⟨M19, e19, h⟩ := zS_bind h
    refine E_iastore (pc := 19) (zDk zD_1_ok 10 rfl) e19 ?_
    refine E_aload_n (pc := 20) (zDk zD_1_ok 11 rfl) rfl ?_
    refine E_getR (pc := 21) (ci := 0) (f := 3) (r := (r0 + 2)) (zDk zD_1_ok 12 rfl) zc_1 (by decide +kernel) (by decide) hr0 (zg_0_3 hr0) (zh_0_3 hr0) ?_
    refine E_aload_n (pc := 24) (zDk zD_1_ok 13 rfl) rfl ?_
    refine E_getI (pc := 25) (ci := 0) (f := 0) (zDk zD_1_ok 14 rfl) zc_1 (by decide +kernel) (by decide) hr0 ?_
    refine E_iload_n (pc := 28) (zDk zD_1_ok 15 rfl) rfl ?_
    obtain ⟨M29, e29, h⟩ := zS_bind h
    refine E_iastore (pc := 29) (zDk zD_1_ok 16 rfl) e29 ?_
    refine E_aload_n (pc := 30) (zDk zD_1_ok 17 rfl) rfl ?_
    refine E_getR (pc := 31) (ci := 0) (f := 4) (r := (r0 + 3)) (zDk zD_1_ok 18 rfl) zc_1 (by decide +kernel) (by decide) hr0 (zg_0_4 hr0) (zh_0_4 hr0) ?_
    refine E_aload_n (pc := 34) (zDk zD_1_ok 19 rfl) rfl ?_
    refine E_getI (pc := 35) (ci := 0) (f := 0) (zDk zD_1_ok 20 rfl) zc_1 (by decide +kernel) (by decide) hr0 ?_
    refine E_iload_n (pc := 38) (zDk zD_1_ok 21 rfl) rfl ?_
    obtain ⟨M39, e39, h⟩ := zS_bind h
    refine E_iastore (pc := 39) (zDk zD_1_ok 22 rfl) e39 ?_
    refine E_aload_n (pc := 40) (zDk zD_1_ok 23 rfl) rfl ?_
    refine E_getR (pc := 41) (ci := 0) (f := 5) (r := (r0 + 4)) (zDk zD_1_ok 24 rfl) zc_1 (by decide +kernel) (by decide) hr0 (zg_0_5 hr0) (zh_0_5 hr0) ?_
    refine E_aload_n (pc := 44) (zDk zD_1_ok 25 rfl) rfl ?_
    refine E_getI (pc := 45) (ci := 0) (f := 0) (zDk zD_1_ok 26 rfl) zc_1 (by decide +kernel) (by decide) hr0 ?_
    refine E_iload (pc := 48) (zDk zD_1_ok 27 rfl) rfl ?_
    obtain ⟨M50, e50, h⟩ := zS_bind h
    refine E_iastore (pc := 50) (zDk zD_1_ok 28 rfl) e50 ?_
    refine E_aload_n (pc := 51) (zDk zD_1_ok 29 rfl) rfl ?_
    refine E_dup (pc := 52) (zDk zD_1_ok 30 rfl) rfl ?_
    refine E_getI (pc := 53) (ci := 0) (f := 0) (zDk zD_1_ok 31 rfl) zc_1 (by decide +kernel) (by decide) hr0 ?_
    refine E_iconst (pc := 56) (zDk zD_1_ok 32 rfl) (by decide +kernel) ?_
    refine W_iadd (pc := 57) (zDk zD_1_ok 33 rfl) ?_
    obtain ⟨M58, e58, h⟩ := zS_bind h
    refine W_putI (pc := 58) (ci := 0) (f := 0) (zDk zD_1_ok 34 rfl) zc_1 (by decide +kernel) (by decide) hr0 (Option.some.inj e58) ?_
    refine E_aload_n (pc := 61) (zDk zD_1_ok 35 rfl) rfl ?_
    refine E_aload_n (pc := 62) (zDk zD_1_ok 36 rfl) rfl ?_
    refine E_getI (pc := 63) (ci := 0) (f := 0) (zDk zD_1_ok 37 rfl) zc_1 (by decide +kernel) (by decide) hr0 ?_
    refine E_iconst (pc := 66) (zDk zD_1_ok 38 rfl) (by decide +kernel) ?_
    refine W_isub (pc := 67) (zDk zD_1_ok 39 rfl) ?_
    obtain ⟨M68, e68, h⟩ := zS_bind h
    refine E_virV (pc := 68) (c := 5) (r := r0) (as := [.inl (w32 ((M58 r0 0) - (1 : Int)))]) (rest := []) (zDk zD_1_ok 40 rfl) zc_1 (by decide +kernel) zk_5 ⟨(Nat.le_of_ble_eq_true rfl), rfl, rfl⟩ (Nat.le_of_ble_eq_true rfl) (zr_5 _) (Nat.lt_of_lt_of_le (by decide) hq) (by rw [zm_5]; exact (Nat.le_of_ble_eq_true rfl)) ⟨zc_5, by decide⟩ hr0 (ok_lA_takeEffect ⟨M68, e68, ?_⟩)
    have h := zS_some h
    exact E_return (x := ()) (pc := 71) (zDk zD_1_ok 41 rfl) zt_1 h
  · have h := zS_f h (Int.not_lt.mpr (F_lt hz))
    have h := zS_some h
    exact E_return (x := ()) (pc := 9) (zDk zD_1_ok 4 rfl) zt_1 h
def zD_4 : List (Nat × Instr × Nat) := [(0, .aload_n (0), 1), (1, .iconst (0), 1), (2, .putfield (44), 3), (5, .aload_n (0), 1), (6, .getfield (24), 3), (9, .iconst (-1), 1), (10, .invokestatic (27), 3), (13, .iconst (0), 1), (14, .istore_n (1), 1), (15, .iload_n (1), 1), (16, .aload_n (0), 1), (17, .getfield (33), 3), (20, .if_icmp .ge (14), 3), (23, .aload_n (0), 1), (24, .iload_n (1), 1), (25, .invokevirtual (37), 3), (28, .iinc (1) (1), 3), (31, .goto (-16), 3), (34, .return_, 1)]
set_option maxRecDepth 100000 in
theorem zD_4_ok : zDo 4 zD_4 = true := by decide +kernel
theorem zc_4 : zcls 4 = 0 := by decide +kernel
theorem zm_4 : zml 4 = 2 := by decide +kernel
theorem zt_4 : zrt 4 = none := by decide +kernel
theorem zk_4 : zkd 4 = 1 ∧ znp 4 + 1 = 1 := by decide +kernel
theorem zr_4 (as : List zV) : zrk 4 as = 1 := by unfold zrk; rw [if_neg (by decide)]; decide +kernel
def lA_playAgain_c15 (r0 : Nat) : Nat → Int → (Nat → Nat → Int) → Option (Nat → Nat → Int)
  | 0, _, _ => none
  | n + 1, y1, M =>
    (if y1 < (M r0 0) then
    ((lA_takeEffect r0 y1 M).bind (fun M25 =>
    ((lA_playAgain_c15 r0 n) (w32 (y1 + 1)) M25)))
    else
    (some M))
set_option maxRecDepth 100000 in
theorem ok_lA_playAgain_c15 {sc : zSc} {q : Nat} {P : Option zV → (Nat → Nat → Int) → Prop} (hq : 1 ≤ q) (r0 : Nat) (hr0 : zis 0 r0 = true) : ∀ (n : Nat) (y1 : Int) (M : Nat → Nat → Int), zS (lA_playAgain_c15 r0 n y1 M) (fun M0 => P none M0) → zWp sc q 4 15 [some (.inr (.inr r0)), some (.inl y1)] [] M P := by
  intro n
  induction n with
  | zero => intro y1 M h; exact (zS_none h).elim
  | succ n ih =>
    intro y1 M h
    rw [lA_playAgain_c15] at h
    refine E_iload_n (pc := 15) (zDk zD_4_ok 9 rfl) rfl ?_
    refine E_aload_n (pc := 16) (zDk zD_4_ok 10 rfl) rfl ?_
    refine E_getI (pc := 17) (ci := 0) (f := 0) (zDk zD_4_ok 11 rfl) zc_4 (by decide +kernel) (by decide) hr0 ?_
    refine E_icmp (pc := 20) (t := 34) (zDk zD_4_ok 12 rfl) rfl (fun hz => ?_) (fun hz => ?_)
    · have h := zS_f h (Int.not_lt.mpr (T_ge hz))
      have h := zS_some h
      exact E_return (x := ()) (pc := 34) (zDk zD_4_ok 18 rfl) zt_4 h
    · have h := zS_t h (F_ge hz)
      refine E_aload_n (pc := 23) (zDk zD_4_ok 13 rfl) rfl ?_
      refine E_iload_n (pc := 24) (zDk zD_4_ok 14 rfl) rfl ?_
      obtain ⟨M25, e25, h⟩ := zS_bind h
      refine E_virV (pc := 25) (c := 5) (r := r0) (as := [.inl y1]) (rest := []) (zDk zD_4_ok 15 rfl) zc_4 (by decide +kernel) zk_5 ⟨(Nat.le_of_ble_eq_true rfl), rfl, rfl⟩ (Nat.le_of_ble_eq_true rfl) (zr_5 _) (Nat.lt_of_lt_of_le (by decide) hq) (by rw [zm_5]; exact (Nat.le_of_ble_eq_true rfl)) ⟨zc_5, by decide⟩ hr0 (ok_lA_takeEffect ⟨M25, e25, ?_⟩)
      refine W_iinc (pc := 28) (L' := [some (.inr (.inr r0)), some (.inl (w32 (y1 + 1)))]) (zDk zD_4_ok 16 rfl) rfl zm_4 (by decide) rfl ?_
      refine E_goto (pc := 31) (t := 15) (zDk zD_4_ok 17 rfl) rfl ?_
      exact (ih) (w32 (y1 + 1)) M25 h
def lA_playAgain (r0 : Nat) (M : Nat → Nat → Int) : Option (Nat → Nat → Int) :=
    (if zis 0 r0 = true then
    ((some (zup M r0 1 (0 : Int))).bind (fun M2 =>
    ((lY_fill_329 (r0 + 5) (-1 : Int) M2).bind (fun M10 =>
    (lA_playAgain_c15 r0 zN (0 : Int) M10)))))
    else none)
set_option maxRecDepth 100000 in
theorem ok_lA_playAgain {sc : zSc} {r0 : Nat} {M : Nat → Nat → Int} {P : (Nat → Nat → Int) → Prop} (h : zS (lA_playAgain r0 M) P) : zCv sc 4 [.inr (.inr r0)] M P := by
  have ea : zarg (zml 4) [.inr (.inr r0)] = [some (.inr (.inr r0)), none] := by rw [zm_4]; rfl
  unfold zCv zCw
  rw [ea, zr_4]
  have hq : 1 ≤ 1 := Nat.le_refl _
  unfold lA_playAgain at h
  have h := zS_mono h (fun x hx => (⟨rfl, hx⟩ : (none : Option zV) = none ∧ P x))
  obtain ⟨hr0, h⟩ := zS_c h
  skip
  refine E_aload_n (pc := 0) (zDk zD_4_ok 0 rfl) rfl ?_
  refine E_iconst (pc := 1) (zDk zD_4_ok 1 rfl) (by decide +kernel) ?_
  obtain ⟨M2, e2, h⟩ := zS_bind h
  refine W_putI (pc := 2) (ci := 0) (f := 1) (zDk zD_4_ok 2 rfl) zc_4 (by decide +kernel) (by decide) hr0 (Option.some.inj e2) ?_
  refine E_aload_n (pc := 5) (zDk zD_4_ok 3 rfl) rfl ?_
  refine E_getR (pc := 6) (ci := 0) (f := 6) (r := (r0 + 5)) (zDk zD_4_ok 4 rfl) zc_4 (by decide +kernel) (by decide) hr0 (zg_0_6 hr0) (zh_0_6 hr0) ?_
  refine E_iconst (pc := 9) (zDk zD_4_ok 5 rfl) (by decide +kernel) ?_
  obtain ⟨M10, e10, h⟩ := zS_bind h
  refine E_staV (pc := 10) (c := 329) (as := [.inr (.inr (r0 + 5)), .inl (-1 : Int)]) (rest := []) (zDk zD_4_ok 6 rfl) zc_4 (by decide +kernel) (by decide +kernel) zk_329 ⟨(Nat.le_of_ble_eq_true rfl), rfl, rfl⟩ (Nat.le_of_ble_eq_true rfl) (zr_329 _) (Nat.lt_of_lt_of_le (by decide) hq) (by rw [zm_329]; exact (Nat.le_of_ble_eq_true rfl)) (ok_lY_fill_329 ⟨M10, e10, ?_⟩)
  refine E_iconst (pc := 13) (zDk zD_4_ok 7 rfl) (by decide +kernel) ?_
  refine W_istore_n (pc := 14) (L' := [some (.inr (.inr r0)), some (.inl (0 : Int))]) (zDk zD_4_ok 8 rfl) zm_4 (by decide) rfl ?_
  exact ok_lA_playAgain_c15 hq r0 hr0 zN (0 : Int) M10 h
def zD_8 : List (Nat × Instr × Nat) := [(0, .aload_n (0), 1), (1, .getfield (38), 3), (4, .getfield (46), 3), (7, .iconst (0), 1), (8, .aload_n (0), 1), (9, .getfield (18), 3), (12, .iconst (0), 1), (13, .iconst (5), 1), (14, .invokestatic (51), 3), (17, .aload_n (0), 1), (18, .getfield (38), 3), (21, .getfield (57), 3), (24, .iconst (0), 1), (25, .aload_n (0), 1), (26, .getfield (22), 3), (29, .iconst (0), 1), (30, .iconst (5), 1), (31, .invokestatic (51), 3), (34, .aload_n (0), 1), (35, .aload_n (0), 1), (36, .getfield (38), 3), (39, .getfield (60), 3), (42, .putfield (63), 3), (45, .aload_n (0), 1), (46, .aload_n (0), 1), (47, .getfield (42), 3), (50, .getfield (66), 3), (53, .putfield (71), 3), (56, .aload_n (0), 1), (57, .iconst (0), 1), (58, .putfield (72), 3), (61, .aload_n (0), 1), (62, .iconst (-1), 1), (63, .putfield (34), 3), (66, .return_, 1)]
set_option maxRecDepth 100000 in
theorem zD_8_ok : zDo 8 zD_8 = true := by decide +kernel
theorem zc_8 : zcls 8 = 1 := by decide +kernel
theorem zm_8 : zml 8 = 1 := by decide +kernel
theorem zt_8 : zrt 8 = none := by decide +kernel
theorem zk_8 : zkd 8 = 1 ∧ znp 8 + 1 = 1 := by decide +kernel
theorem zr_8 (as : List zV) : zrk 8 as = 1 := by unfold zrk; rw [if_neg (by decide)]; decide +kernel
def lD_asNow (r0 : Nat) (M : Nat → Nat → Int) : Option (Nat → Nat → Int) :=
    (if zis 1 r0 = true then
    ((cpA 7 (0 : Int) (r0 + 3) (0 : Int) (5 : Int) M).bind (fun M14 =>
    ((cpA 8 (0 : Int) (r0 + 4) (0 : Int) (5 : Int) M14).bind (fun M31 =>
    ((some (zup M31 r0 8 (M31 3 2))).bind (fun M42 =>
    ((some (zup M42 r0 9 (M42 23 1))).bind (fun M53 =>
    ((some (zup M53 r0 10 (0 : Int))).bind (fun M58 =>
    ((some (zup M58 r0 11 (-1 : Int))).bind (fun M63 =>
    (some M63)))))))))))))
    else none)
set_option maxRecDepth 100000 in
theorem ok_lD_asNow {sc : zSc} {r0 : Nat} {M : Nat → Nat → Int} {P : (Nat → Nat → Int) → Prop} (h : zS (lD_asNow r0 M) P) : zCv sc 8 [.inr (.inr r0)] M P := by
  have ea : zarg (zml 8) [.inr (.inr r0)] = [some (.inr (.inr r0))] := by rw [zm_8]; rfl
  unfold zCv zCw
  rw [ea, zr_8]
  have hq : 1 ≤ 1 := Nat.le_refl _
  unfold lD_asNow at h
  have h := zS_mono h (fun x hx => (⟨rfl, hx⟩ : (none : Option zV) = none ∧ P x))
  obtain ⟨hr0, h⟩ := zS_c h
  skip
  refine E_aload_n (pc := 0) (zDk zD_8_ok 0 rfl) rfl ?_
  refine E_getR (pc := 1) (ci := 1) (f := 0) (r := 3) (zDk zD_8_ok 1 rfl) zc_8 (by decide +kernel) (by decide) hr0 (zg_1_0 hr0) (by decide) ?_
  refine E_getR (pc := 4) (ci := 6) (f := 12) (r := 7) (zDk zD_8_ok 2 rfl) zc_8 (by decide +kernel) (by decide) zis_6_3 (by decide +kernel) (by decide) ?_
  refine E_iconst (pc := 7) (zDk zD_8_ok 3 rfl) (by decide +kernel) ?_
  refine E_aload_n (pc := 8) (zDk zD_8_ok 4 rfl) rfl ?_
  refine E_getR (pc := 9) (ci := 1) (f := 3) (r := (r0 + 3)) (zDk zD_8_ok 5 rfl) zc_8 (by decide +kernel) (by decide) hr0 (zg_1_3 hr0) (zh_1_3 hr0) ?_
  refine E_iconst (pc := 12) (zDk zD_8_ok 6 rfl) (by decide +kernel) ?_
  refine E_iconst (pc := 13) (zDk zD_8_ok 7 rfl) (by decide +kernel) ?_
  obtain ⟨M14, e14, h⟩ := zS_bind h
  refine E_copy (pc := 14) (zDk zD_8_ok 8 rfl) zc_8 (by decide +kernel) e14 (Nat.le_of_ble_eq_true rfl) (Nat.lt_of_lt_of_le (by decide) hq) ?_
  refine E_aload_n (pc := 17) (zDk zD_8_ok 9 rfl) rfl ?_
  refine E_getR (pc := 18) (ci := 1) (f := 0) (r := 3) (zDk zD_8_ok 10 rfl) zc_8 (by decide +kernel) (by decide) hr0 (zg_1_0 hr0) (by decide) ?_
  refine E_getR (pc := 21) (ci := 6) (f := 13) (r := 8) (zDk zD_8_ok 11 rfl) zc_8 (by decide +kernel) (by decide) zis_6_3 (by decide +kernel) (by decide) ?_
  refine E_iconst (pc := 24) (zDk zD_8_ok 12 rfl) (by decide +kernel) ?_
  refine E_aload_n (pc := 25) (zDk zD_8_ok 13 rfl) rfl ?_
  refine E_getR (pc := 26) (ci := 1) (f := 4) (r := (r0 + 4)) (zDk zD_8_ok 14 rfl) zc_8 (by decide +kernel) (by decide) hr0 (zg_1_4 hr0) (zh_1_4 hr0) ?_
  refine E_iconst (pc := 29) (zDk zD_8_ok 15 rfl) (by decide +kernel) ?_
  refine E_iconst (pc := 30) (zDk zD_8_ok 16 rfl) (by decide +kernel) ?_
  obtain ⟨M31, e31, h⟩ := zS_bind h
  refine E_copy (pc := 31) (zDk zD_8_ok 17 rfl) zc_8 (by decide +kernel) e31 (Nat.le_of_ble_eq_true rfl) (Nat.lt_of_lt_of_le (by decide) hq) ?_
  refine E_aload_n (pc := 34) (zDk zD_8_ok 18 rfl) rfl ?_
  refine E_aload_n (pc := 35) (zDk zD_8_ok 19 rfl) rfl ?_
  refine E_getR (pc := 36) (ci := 1) (f := 0) (r := 3) (zDk zD_8_ok 20 rfl) zc_8 (by decide +kernel) (by decide) hr0 (zg_1_0 hr0) (by decide) ?_
  refine E_getI (pc := 39) (ci := 6) (f := 2) (zDk zD_8_ok 21 rfl) zc_8 (by decide +kernel) (by decide) zis_6_3 ?_
  obtain ⟨M42, e42, h⟩ := zS_bind h
  refine W_putI (pc := 42) (ci := 1) (f := 8) (zDk zD_8_ok 22 rfl) zc_8 (by decide +kernel) (by decide) hr0 (Option.some.inj e42) ?_
  refine E_aload_n (pc := 45) (zDk zD_8_ok 23 rfl) rfl ?_
  refine E_aload_n (pc := 46) (zDk zD_8_ok 24 rfl) rfl ?_
  refine E_getR (pc := 47) (ci := 1) (f := 1) (r := 23) (zDk zD_8_ok 25 rfl) zc_8 (by decide +kernel) (by decide) hr0 (zg_1_1 hr0) (by decide) ?_
  refine E_getI (pc := 50) (ci := 0) (f := 1) (zDk zD_8_ok 26 rfl) zc_8 (by decide +kernel) (by decide) zis_0_23 ?_
  obtain ⟨M53, e53, h⟩ := zS_bind h
  refine W_putI (pc := 53) (ci := 1) (f := 9) (zDk zD_8_ok 27 rfl) zc_8 (by decide +kernel) (by decide) hr0 (Option.some.inj e53) ?_
  refine E_aload_n (pc := 56) (zDk zD_8_ok 28 rfl) rfl ?_
  refine E_iconst (pc := 57) (zDk zD_8_ok 29 rfl) (by decide +kernel) ?_
  obtain ⟨M58, e58, h⟩ := zS_bind h
  refine W_putI (pc := 58) (ci := 1) (f := 10) (zDk zD_8_ok 30 rfl) zc_8 (by decide +kernel) (by decide) hr0 (Option.some.inj e58) ?_
  refine E_aload_n (pc := 61) (zDk zD_8_ok 31 rfl) rfl ?_
  refine E_iconst (pc := 62) (zDk zD_8_ok 32 rfl) (by decide +kernel) ?_
  obtain ⟨M63, e63, h⟩ := zS_bind h
  refine W_putI (pc := 63) (ci := 1) (f := 11) (zDk zD_8_ok 33 rfl) zc_8 (by decide +kernel) (by decide) hr0 (Option.some.inj e63) ?_
  have h := zS_some h
  exact E_return (x := ()) (pc := 66) (zDk zD_8_ok 34 rfl) zt_8 h
def zD_13 : List (Nat × Instr × Nat) := [(0, .iconst (0), 1), (1, .istore_n (2), 1), (2, .iload_n (2), 1), (3, .aload_n (0), 1), (4, .getfield (38), 3), (7, .getfield (95), 3), (10, .if_icmp .ge (43), 3), (13, .iload_n (1), 1), (14, .iconst (5), 1), (15, .imul, 1), (16, .iload_n (2), 1), (17, .iadd, 1), (18, .istore_n (3), 1), (19, .aload_n (0), 1), (20, .getfield (28), 3), (23, .iload_n (3), 1), (24, .bipush (60), 2), (26, .aload_n (0), 1), (27, .getfield (28), 3), (30, .iload_n (3), 1), (31, .iaload, 1), (32, .aload_n (0), 1), (33, .aload_n (0), 1), (34, .getfield (25), 3), (37, .iload_n (3), 1), (38, .iaload, 1), (39, .invokevirtual (127), 3), (42, .iadd, 1), (43, .invokestatic (130), 3), (46, .iastore, 1), (47, .iinc (2) (1), 3), (50, .goto (-48), 3), (53, .return_, 1)]
set_option maxRecDepth 100000 in
theorem zD_13_ok : zDo 13 zD_13 = true := by decide +kernel
theorem zc_13 : zcls 13 = 1 := by decide +kernel
theorem zm_13 : zml 13 = 4 := by decide +kernel
theorem zt_13 : zrt 13 = none := by decide +kernel
theorem zk_13 : zkd 13 = 1 ∧ znp 13 + 1 = 2 := by decide +kernel
theorem zr_13 (as : List zV) : zrk 13 as = 1 := by unfold zrk; rw [if_neg (by decide)]; decide +kernel
def lD_drinkAll_c2 (r0 : Nat) (x1 : Int) : Nat → Int → (Nat → Nat → Int) → Option (Nat → Nat → Int)
  | 0, _, _ => none
  | n + 1, y2, M =>
    (if y2 < (M 3 7) then
    ((rdI (r0 + 6) (w32 ((w32 (x1 * (5 : Int))) + y2)) M).bind (fun v31 =>
    ((rdI (r0 + 5) (w32 ((w32 (x1 * (5 : Int))) + y2)) M).bind (fun v38 =>
    ((lD_inkAt r0 v38 M).bind (fun v39 =>
    ((wrI (r0 + 6) (w32 ((w32 (x1 * (5 : Int))) + y2)) (zmin (60 : Int) (w32 (v31 + v39))) M).bind (fun M46 =>
    ((lD_drinkAll_c2 r0 x1 n) (w32 (y2 + 1)) M46)))))))))
    else
    (some M))
set_option maxRecDepth 100000 in
theorem ok_lD_drinkAll_c2 {sc : zSc} {q : Nat} {P : Option zV → (Nat → Nat → Int) → Prop} (hq : 1 ≤ q) (r0 : Nat) (x1 : Int) (hr0 : zis 1 r0 = true) : ∀ (n : Nat) (y2 : Int) (M : Nat → Nat → Int) (d3 : Option zV), zS (lD_drinkAll_c2 r0 x1 n y2 M) (fun M0 => P none M0) → zWp sc q 13 2 [some (.inr (.inr r0)), some (.inl x1), some (.inl y2), d3] [] M P := by
  intro n
  induction n with
  | zero => intro y2 M d3 h; exact (zS_none h).elim
  | succ n ih =>
    intro y2 M d3 h
    rw [lD_drinkAll_c2] at h
    refine E_iload_n (pc := 2) (zDk zD_13_ok 2 rfl) rfl ?_
    refine E_aload_n (pc := 3) (zDk zD_13_ok 3 rfl) rfl ?_
    refine E_getR (pc := 4) (ci := 1) (f := 0) (r := 3) (zDk zD_13_ok 4 rfl) zc_13 (by decide +kernel) (by decide) hr0 (zg_1_0 hr0) (by decide) ?_
    refine E_getI (pc := 7) (ci := 6) (f := 7) (zDk zD_13_ok 5 rfl) zc_13 (by decide +kernel) (by decide) zis_6_3 ?_
    refine E_icmp (pc := 10) (t := 53) (zDk zD_13_ok 6 rfl) rfl (fun hz => ?_) (fun hz => ?_)
    · have h := zS_f h (Int.not_lt.mpr (T_ge hz))
      have h := zS_some h
      exact E_return (x := ()) (pc := 53) (zDk zD_13_ok 32 rfl) zt_13 h
    · have h := zS_t h (F_ge hz)
      refine E_iload_n (pc := 13) (zDk zD_13_ok 7 rfl) rfl ?_
      refine E_iconst (pc := 14) (zDk zD_13_ok 8 rfl) (by decide +kernel) ?_
      refine W_imul (pc := 15) (zDk zD_13_ok 9 rfl) ?_
      refine E_iload_n (pc := 16) (zDk zD_13_ok 10 rfl) rfl ?_
      refine W_iadd (pc := 17) (zDk zD_13_ok 11 rfl) ?_
      refine W_istore_n (pc := 18) (L' := [some (.inr (.inr r0)), some (.inl x1), some (.inl y2), some (.inl (w32 ((w32 (x1 * (5 : Int))) + y2)))]) (zDk zD_13_ok 12 rfl) zm_13 (by decide) rfl ?_
      refine E_aload_n (pc := 19) (zDk zD_13_ok 13 rfl) rfl ?_
      refine E_getR (pc := 20) (ci := 1) (f := 6) (r := (r0 + 6)) (zDk zD_13_ok 14 rfl) zc_13 (by decide +kernel) (by decide) hr0 (zg_1_6 hr0) (zh_1_6 hr0) ?_
      refine E_iload_n (pc := 23) (zDk zD_13_ok 15 rfl) rfl ?_
      refine E_bipush (pc := 24) (zDk zD_13_ok 16 rfl) (by decide +kernel) ?_
      refine E_aload_n (pc := 26) (zDk zD_13_ok 17 rfl) rfl ?_
      refine E_getR (pc := 27) (ci := 1) (f := 6) (r := (r0 + 6)) (zDk zD_13_ok 18 rfl) zc_13 (by decide +kernel) (by decide) hr0 (zg_1_6 hr0) (zh_1_6 hr0) ?_
      refine E_iload_n (pc := 30) (zDk zD_13_ok 19 rfl) rfl ?_
      obtain ⟨v31, e31, h⟩ := zS_bind h
      refine E_iaload (pc := 31) (zDk zD_13_ok 20 rfl) e31 ?_
      refine E_aload_n (pc := 32) (zDk zD_13_ok 21 rfl) rfl ?_
      refine E_aload_n (pc := 33) (zDk zD_13_ok 22 rfl) rfl ?_
      refine E_getR (pc := 34) (ci := 1) (f := 5) (r := (r0 + 5)) (zDk zD_13_ok 23 rfl) zc_13 (by decide +kernel) (by decide) hr0 (zg_1_5 hr0) (zh_1_5 hr0) ?_
      refine E_iload_n (pc := 37) (zDk zD_13_ok 24 rfl) rfl ?_
      obtain ⟨v38, e38, h⟩ := zS_bind h
      refine E_iaload (pc := 38) (zDk zD_13_ok 25 rfl) e38 ?_
      obtain ⟨v39, e39, h⟩ := zS_bind h
      refine E_virI (pc := 39) (c := 14) (r := r0) (as := [.inl v38]) (rest := [.inl v31, .inl (60 : Int), .inl (w32 ((w32 (x1 * (5 : Int))) + y2)), .inr (.inr (r0 + 6))]) (zDk zD_13_ok 26 rfl) zc_13 (by decide +kernel) zk_14 ⟨(Nat.le_of_ble_eq_true rfl), rfl, rfl⟩ (Nat.le_of_ble_eq_true rfl) (zr_14 _) (Nat.lt_of_lt_of_le (by decide) hq) (by rw [zm_14]; exact (Nat.le_of_ble_eq_true rfl)) ⟨zc_14, by decide⟩ hr0 (ok_lD_inkAt ⟨v39, e39, ?_⟩)
      refine W_iadd (pc := 42) (zDk zD_13_ok 27 rfl) ?_
      refine W_min (pc := 43) (zDk zD_13_ok 28 rfl) zc_13 (by decide +kernel) (Nat.le_of_ble_eq_true rfl) (Nat.lt_of_lt_of_le (by decide) hq) ?_
      obtain ⟨M46, e46, h⟩ := zS_bind h
      refine E_iastore (pc := 46) (zDk zD_13_ok 29 rfl) e46 ?_
      refine W_iinc (pc := 47) (L' := [some (.inr (.inr r0)), some (.inl x1), some (.inl (w32 (y2 + 1))), some (.inl (w32 ((w32 (x1 * (5 : Int))) + y2)))]) (zDk zD_13_ok 30 rfl) rfl zm_13 (by decide) rfl ?_
      refine E_goto (pc := 50) (t := 2) (zDk zD_13_ok 31 rfl) rfl ?_
      exact (ih) (w32 (y2 + 1)) M46 (some (.inl (w32 ((w32 (x1 * (5 : Int))) + y2)))) h
def lD_drinkAll (r0 : Nat) (x1 : Int) (M : Nat → Nat → Int) : Option (Nat → Nat → Int) :=
    (if zis 1 r0 = true then
    (lD_drinkAll_c2 r0 x1 zN (0 : Int) M)
    else none)
set_option maxRecDepth 100000 in
theorem ok_lD_drinkAll {sc : zSc} {r0 : Nat} {x1 : Int} {M : Nat → Nat → Int} {P : (Nat → Nat → Int) → Prop} (h : zS (lD_drinkAll r0 x1 M) P) : zCv sc 13 [.inr (.inr r0), .inl x1] M P := by
  have ea : zarg (zml 13) [.inr (.inr r0), .inl x1] = [some (.inr (.inr r0)), some (.inl x1), none, none] := by rw [zm_13]; rfl
  unfold zCv zCw
  rw [ea, zr_13]
  have hq : 1 ≤ 1 := Nat.le_refl _
  unfold lD_drinkAll at h
  have h := zS_mono h (fun x hx => (⟨rfl, hx⟩ : (none : Option zV) = none ∧ P x))
  obtain ⟨hr0, h⟩ := zS_c h
  skip
  refine E_iconst (pc := 0) (zDk zD_13_ok 0 rfl) (by decide +kernel) ?_
  refine W_istore_n (pc := 1) (L' := [some (.inr (.inr r0)), some (.inl x1), some (.inl (0 : Int)), none]) (zDk zD_13_ok 1 rfl) zm_13 (by decide) rfl ?_
  exact ok_lD_drinkAll_c2 hq r0 x1 hr0 zN (0 : Int) M none h
def zD_15 : List (Nat × Instr × Nat) := [(0, .iconst (0), 1), (1, .istore_n (2), 1), (2, .iconst (0), 1), (3, .istore_n (3), 1), (4, .iconst (0), 1), (5, .istore (4), 2), (7, .iload (4), 2), (9, .aload_n (0), 1), (10, .getfield (38), 3), (13, .getfield (136), 3), (16, .if_icmp .ge (189), 3), (19, .aload_n (0), 1), (20, .getfield (38), 3), (23, .getfield (139), 3), (26, .iload (4), 2), (28, .iaload, 1), (29, .istore (5), 2), (31, .aload_n (0), 1), (32, .getfield (31), 3), (35, .iload_n (1), 1), (36, .iaload, 1), (37, .iload (4), 2), (39, .ishr, 1), (40, .iconst (1), 1), (41, .iand, 1), (42, .ifCond .ne (7), 3), (45, .iconst (1), 1), (46, .goto (4), 3), (49, .iconst (0), 1), (50, .istore (6), 2), (52, .iload (6), 2), (54, .ifCond .eq (13), 3), (57, .aload_n (0), 1), (58, .iload (5), 2), (60, .iload_n (1), 1), (61, .invokevirtual (142), 3), (64, .goto (4), 3), (67, .iconst (-1), 1), (68, .istore (7), 2), (70, .iload (7), 2), (72, .iconst (-1), 1), (73, .if_icmp .ne (7), 3), (76, .iconst (0), 1), (77, .goto (8), 3), (80, .aload_n (0), 1), (81, .iload_n (1), 1), (82, .invokevirtual (145), 3), (85, .istore (8), 2), (87, .iload (5), 2), (89, .iload (8), 2), (91, .iconst (-1), 1), (92, .ixor, 1), (93, .iand, 1), (94, .ifCond .eq (6), 3), (97, .goto (102), 3), (100, .aload_n (0), 1), (101, .iload (7), 2), (103, .iload_n (1), 1), (104, .invokevirtual (148), 3), (107, .iload (8), 2), (109, .iand, 1), (110, .iload (5), 2), (112, .iconst (-1), 1), (113, .ixor, 1), (114, .iand, 1), (115, .ifCond .eq (7), 3), (118, .iconst (1), 1), (119, .goto (4), 3), (122, .iconst (0), 1), (123, .istore (9), 2), (125, .iload_n (2), 1), (126, .iload (7), 2), (128, .ishr, 1), (129, .iconst (1), 1), (130, .iand, 1), (131, .ifCond .eq (7), 3), (134, .iconst (1), 1), (135, .goto (4), 3), (138, .iconst (0), 1), (139, .istore (10), 2), (141, .aload_n (0), 1), (142, .iload (9), 2), (144, .iload (10), 2), (146, .iload (5), 2), (148, .iload_n (3), 1), (149, .iand, 1), (150, .ifCond .eq (7), 3), (153, .iconst (1), 1), (154, .goto (4), 3), (157, .iconst (0), 1), (158, .invokevirtual (151), 3), (161, .ifCond .eq (6), 3), (164, .goto (35), 3), (167, .aload_n (0), 1), (168, .getfield (31), 3), (171, .iload_n (1), 1), (172, .dup2, 1), (173, .iaload, 1), (174, .iconst (1), 1), (175, .iload (4), 2), (177, .ishl, 1), (178, .ior, 1), (179, .iastore, 1), (180, .iload_n (2), 1), (181, .iconst (1), 1), (182, .iload (7), 2), (184, .ishl, 1), (185, .ior, 1), (186, .istore_n (2), 1), (187, .iload_n (3), 1), (188, .iload (5), 2), (190, .ior, 1), (191, .istore_n (3), 1), (192, .aload_n (0), 1), (193, .iload (5), 2), (195, .iload_n (1), 1), (196, .invokevirtual (155), 3), (199, .iinc (4) (1), 3), (202, .goto (-195), 3), (205, .return_, 1)]
set_option maxRecDepth 100000 in
theorem zD_15_ok : zDo 15 zD_15 = true := by decide +kernel
theorem zc_15 : zcls 15 = 1 := by decide +kernel
theorem zm_15 : zml 15 = 11 := by decide +kernel
theorem zt_15 : zrt 15 = none := by decide +kernel
theorem zk_15 : zkd 15 = 1 ∧ znp 15 + 1 = 2 := by decide +kernel
theorem zr_15 (as : List zV) : zrk 15 as = 1 := by unfold zrk; rw [if_neg (by decide)]; decide +kernel
def lD_signAll_c158 (r0 : Nat) (x1 : Int) (h7 : Int → Int → Int → (Nat → Nat → Int) → Option (Nat → Nat → Int)) (y2 : Int) (y3 : Int) (y4 : Int) (y5 : Int) (y7 : Int) (s0 : Nat) (s1 : Int) (s2 : Int) (s3 : Int) (M : Nat → Nat → Int) : Option (Nat → Nat → Int) :=
    (if zis 1 s0 = true then
    ((lD_isBarred s0 s1 s2 s3 M).bind (fun v158 =>
    (if v158 = 0 then
    ((rdI (r0 + 7) x1 M).bind (fun v173 =>
    ((wrI (r0 + 7) x1 (zor v173 (zshl (1 : Int) y4)) M).bind (fun M179 =>
    ((lD_payInk r0 y5 x1 M179).bind (fun M196 =>
    (h7 (zor y2 (zshl (1 : Int) y7)) (zor y3 y5) (w32 (y4 + 1)) M196)))))))
    else
    (h7 y2 y3 (w32 (y4 + 1)) M))))
    else none)
set_option maxRecDepth 100000 in
theorem ok_lD_signAll_c158 {sc : zSc} {q : Nat} {P : Option zV → (Nat → Nat → Int) → Prop} (hq : 1 ≤ q) (r0 : Nat) (x1 : Int) (hr0 : zis 1 r0 = true) (h7 : Int → Int → Int → (Nat → Nat → Int) → Option (Nat → Nat → Int)) (H7 : ∀ (y2 : Int) (y3 : Int) (y4 : Int) (M : Nat → Nat → Int) (d5 d6 d7 d8 d9 d10 : Option zV), zS (h7 y2 y3 y4 M) (fun M0 => P none M0) → zWp sc q 15 7 [some (.inr (.inr r0)), some (.inl x1), some (.inl y2), some (.inl y3), some (.inl y4), d5, d6, d7, d8, d9, d10] [] M P) : ∀ (y2 : Int) (y3 : Int) (y4 : Int) (y5 : Int) (y7 : Int) (s0 : Nat) (s1 : Int) (s2 : Int) (s3 : Int) (M : Nat → Nat → Int) (d6 d8 d9 d10 : Option zV), zS (lD_signAll_c158 r0 x1 h7 y2 y3 y4 y5 y7 s0 s1 s2 s3 M) (fun M0 => P none M0) → zWp sc q 15 158 [some (.inr (.inr r0)), some (.inl x1), some (.inl y2), some (.inl y3), some (.inl y4), some (.inl y5), d6, some (.inl y7), d8, d9, d10] [(.inl s3 : zV), .inl s2, .inl s1, .inr (.inr s0)] M P := by
  intro y2 y3 y4 y5 y7 s0 s1 s2 s3 M d6 d8 d9 d10 h
  unfold lD_signAll_c158 at h
  obtain ⟨hz158, h⟩ := zS_c h
  obtain ⟨v158, e158, h⟩ := zS_bind h
  refine E_virI (pc := 158) (c := 16) (r := s0) (as := [.inl s1, .inl s2, .inl s3]) (rest := []) (zDk zD_15_ok 90 rfl) zc_15 (by decide +kernel) zk_16 ⟨(Nat.le_of_ble_eq_true rfl), rfl, rfl⟩ (Nat.le_of_ble_eq_true rfl) (zr_16 _) (Nat.lt_of_lt_of_le (by decide) hq) (by rw [zm_16]; exact (Nat.le_of_ble_eq_true rfl)) ⟨zc_16, by decide⟩ hz158 (ok_lD_isBarred ⟨v158, e158, ?_⟩)
  refine E_if (pc := 161) (t := 167) (zDk zD_15_ok 91 rfl) rfl (fun hz => ?_) (fun hz => ?_)
  · have h := zS_t h (T_eq hz)
    refine E_aload_n (pc := 167) (zDk zD_15_ok 93 rfl) rfl ?_
    refine E_getR (pc := 168) (ci := 1) (f := 7) (r := (r0 + 7)) (zDk zD_15_ok 94 rfl) zc_15 (by decide +kernel) (by decide) hr0 (zg_1_7 hr0) (zh_1_7 hr0) ?_
    refine E_iload_n (pc := 171) (zDk zD_15_ok 95 rfl) rfl ?_
    refine E_dup2 (pc := 172) (zDk zD_15_ok 96 rfl) rfl rfl ?_
    obtain ⟨v173, e173, h⟩ := zS_bind h
    refine E_iaload (pc := 173) (zDk zD_15_ok 97 rfl) e173 ?_
    refine E_iconst (pc := 174) (zDk zD_15_ok 98 rfl) (by decide +kernel) ?_
    refine E_iload (pc := 175) (zDk zD_15_ok 99 rfl) rfl ?_
    refine E_ishl (pc := 177) (zDk zD_15_ok 100 rfl) ?_
    refine E_ior (pc := 178) (zDk zD_15_ok 101 rfl) ?_
    obtain ⟨M179, e179, h⟩ := zS_bind h
    refine E_iastore (pc := 179) (zDk zD_15_ok 102 rfl) e179 ?_
    refine E_iload_n (pc := 180) (zDk zD_15_ok 103 rfl) rfl ?_
    refine E_iconst (pc := 181) (zDk zD_15_ok 104 rfl) (by decide +kernel) ?_
    refine E_iload (pc := 182) (zDk zD_15_ok 105 rfl) rfl ?_
    refine E_ishl (pc := 184) (zDk zD_15_ok 106 rfl) ?_
    refine E_ior (pc := 185) (zDk zD_15_ok 107 rfl) ?_
    refine W_istore_n (pc := 186) (L' := [some (.inr (.inr r0)), some (.inl x1), some (.inl (zor y2 (zshl (1 : Int) y7))), some (.inl y3), some (.inl y4), some (.inl y5), d6, some (.inl y7), d8, d9, d10]) (zDk zD_15_ok 108 rfl) zm_15 (by decide) rfl ?_
    refine E_iload_n (pc := 187) (zDk zD_15_ok 109 rfl) rfl ?_
    refine E_iload (pc := 188) (zDk zD_15_ok 110 rfl) rfl ?_
    refine E_ior (pc := 190) (zDk zD_15_ok 111 rfl) ?_
    refine W_istore_n (pc := 191) (L' := [some (.inr (.inr r0)), some (.inl x1), some (.inl (zor y2 (zshl (1 : Int) y7))), some (.inl (zor y3 y5)), some (.inl y4), some (.inl y5), d6, some (.inl y7), d8, d9, d10]) (zDk zD_15_ok 112 rfl) zm_15 (by decide) rfl ?_
    refine E_aload_n (pc := 192) (zDk zD_15_ok 113 rfl) rfl ?_
    refine E_iload (pc := 193) (zDk zD_15_ok 114 rfl) rfl ?_
    refine E_iload_n (pc := 195) (zDk zD_15_ok 115 rfl) rfl ?_
    obtain ⟨M196, e196, h⟩ := zS_bind h
    refine E_virV (pc := 196) (c := 17) (r := r0) (as := [.inl y5, .inl x1]) (rest := []) (zDk zD_15_ok 116 rfl) zc_15 (by decide +kernel) zk_17 ⟨(Nat.le_of_ble_eq_true rfl), rfl, rfl⟩ (Nat.le_of_ble_eq_true rfl) (zr_17 _) (Nat.lt_of_lt_of_le (by decide) hq) (by rw [zm_17]; exact (Nat.le_of_ble_eq_true rfl)) ⟨zc_17, by decide⟩ hr0 (ok_lD_payInk ⟨M196, e196, ?_⟩)
    refine W_iinc (pc := 199) (L' := [some (.inr (.inr r0)), some (.inl x1), some (.inl (zor y2 (zshl (1 : Int) y7))), some (.inl (zor y3 y5)), some (.inl (w32 (y4 + 1))), some (.inl y5), d6, some (.inl y7), d8, d9, d10]) (zDk zD_15_ok 117 rfl) rfl zm_15 (by decide) rfl ?_
    refine E_goto (pc := 202) (t := 7) (zDk zD_15_ok 118 rfl) rfl ?_
    exact H7 (zor y2 (zshl (1 : Int) y7)) (zor y3 y5) (w32 (y4 + 1)) M196 (some (.inl y5)) d6 (some (.inl y7)) d8 d9 d10 h
  · have h := zS_f h (F_eq hz)
    refine E_goto (pc := 164) (t := 199) (zDk zD_15_ok 92 rfl) rfl ?_
    refine W_iinc (pc := 199) (L' := [some (.inr (.inr r0)), some (.inl x1), some (.inl y2), some (.inl y3), some (.inl (w32 (y4 + 1))), some (.inl y5), d6, some (.inl y7), d8, d9, d10]) (zDk zD_15_ok 117 rfl) rfl zm_15 (by decide) rfl ?_
    refine E_goto (pc := 202) (t := 7) (zDk zD_15_ok 118 rfl) rfl ?_
    exact H7 y2 y3 (w32 (y4 + 1)) M (some (.inl y5)) d6 (some (.inl y7)) d8 d9 d10 h
def lD_signAll_c123 (r0 : Nat) (x1 : Int) (h7 : Int → Int → Int → (Nat → Nat → Int) → Option (Nat → Nat → Int)) (y2 : Int) (y3 : Int) (y4 : Int) (y5 : Int) (y7 : Int) (s0 : Int) (M : Nat → Nat → Int) : Option (Nat → Nat → Int) :=
    (if (zand (zshr y2 y7) (1 : Int)) = 0 then
    (if (zand y5 y3) = 0 then
    (lD_signAll_c158 r0 x1 h7 y2 y3 y4 y5 y7 r0 s0 (0 : Int) (0 : Int) M)
    else
    (lD_signAll_c158 r0 x1 h7 y2 y3 y4 y5 y7 r0 s0 (0 : Int) (1 : Int) M))
    else
    (if (zand y5 y3) = 0 then
    (lD_signAll_c158 r0 x1 h7 y2 y3 y4 y5 y7 r0 s0 (1 : Int) (0 : Int) M)
    else
    (lD_signAll_c158 r0 x1 h7 y2 y3 y4 y5 y7 r0 s0 (1 : Int) (1 : Int) M)))
set_option maxRecDepth 100000 in
theorem ok_lD_signAll_c123 {sc : zSc} {q : Nat} {P : Option zV → (Nat → Nat → Int) → Prop} (hq : 1 ≤ q) (r0 : Nat) (x1 : Int) (hr0 : zis 1 r0 = true) (h7 : Int → Int → Int → (Nat → Nat → Int) → Option (Nat → Nat → Int)) (H7 : ∀ (y2 : Int) (y3 : Int) (y4 : Int) (M : Nat → Nat → Int) (d5 d6 d7 d8 d9 d10 : Option zV), zS (h7 y2 y3 y4 M) (fun M0 => P none M0) → zWp sc q 15 7 [some (.inr (.inr r0)), some (.inl x1), some (.inl y2), some (.inl y3), some (.inl y4), d5, d6, d7, d8, d9, d10] [] M P) : ∀ (y2 : Int) (y3 : Int) (y4 : Int) (y5 : Int) (y7 : Int) (s0 : Int) (M : Nat → Nat → Int) (d6 d8 d9 d10 : Option zV), zS (lD_signAll_c123 r0 x1 h7 y2 y3 y4 y5 y7 s0 M) (fun M0 => P none M0) → zWp sc q 15 123 [some (.inr (.inr r0)), some (.inl x1), some (.inl y2), some (.inl y3), some (.inl y4), some (.inl y5), d6, some (.inl y7), d8, d9, d10] [(.inl s0 : zV)] M P := by
  intro y2 y3 y4 y5 y7 s0 M d6 d8 d9 d10 h
  unfold lD_signAll_c123 at h
  obtain ⟨d8_123, hL123⟩ : ∃ d8_123 : Option zV, zs_1 [some (.inr (.inr r0)), some (.inl x1), some (.inl y2), some (.inl y3), some (.inl y4), some (.inl y5), d6, some (.inl y7), d8, d9, d10] 9 (.inl s0) = [some (.inr (.inr r0)), some (.inl x1), some (.inl y2), some (.inl y3), some (.inl y4), some (.inl y5), d6, some (.inl y7), d8_123, some (.inl s0), d10] := by rcases d8 with _ | _ | _ | _ <;> exact ⟨_, rfl⟩
  refine W_istore (pc := 123) (L' := [some (.inr (.inr r0)), some (.inl x1), some (.inl y2), some (.inl y3), some (.inl y4), some (.inl y5), d6, some (.inl y7), d8_123, some (.inl s0), d10]) (zDk zD_15_ok 69 rfl) zm_15 (by decide) hL123 ?_
  refine E_iload_n (pc := 125) (zDk zD_15_ok 70 rfl) rfl ?_
  refine E_iload (pc := 126) (zDk zD_15_ok 71 rfl) rfl ?_
  refine E_ishr (pc := 128) (zDk zD_15_ok 72 rfl) ?_
  refine E_iconst (pc := 129) (zDk zD_15_ok 73 rfl) (by decide +kernel) ?_
  refine E_iand (pc := 130) (zDk zD_15_ok 74 rfl) ?_
  refine E_if (pc := 131) (t := 138) (zDk zD_15_ok 75 rfl) rfl (fun hz => ?_) (fun hz => ?_)
  · have h := zS_t h (T_eq hz)
    refine E_iconst (pc := 138) (zDk zD_15_ok 78 rfl) (by decide +kernel) ?_
    refine W_istore (pc := 139) (L' := [some (.inr (.inr r0)), some (.inl x1), some (.inl y2), some (.inl y3), some (.inl y4), some (.inl y5), d6, some (.inl y7), d8_123, some (.inl s0), some (.inl (0 : Int))]) (zDk zD_15_ok 79 rfl) zm_15 (by decide) rfl ?_
    refine E_aload_n (pc := 141) (zDk zD_15_ok 80 rfl) rfl ?_
    refine E_iload (pc := 142) (zDk zD_15_ok 81 rfl) rfl ?_
    refine E_iload (pc := 144) (zDk zD_15_ok 82 rfl) rfl ?_
    refine E_iload (pc := 146) (zDk zD_15_ok 83 rfl) rfl ?_
    refine E_iload_n (pc := 148) (zDk zD_15_ok 84 rfl) rfl ?_
    refine E_iand (pc := 149) (zDk zD_15_ok 85 rfl) ?_
    refine E_if (pc := 150) (t := 157) (zDk zD_15_ok 86 rfl) rfl (fun hz => ?_) (fun hz => ?_)
    · have h := zS_t h (T_eq hz)
      refine E_iconst (pc := 157) (zDk zD_15_ok 89 rfl) (by decide +kernel) ?_
      exact ok_lD_signAll_c158 hq r0 x1 hr0 h7 H7 y2 y3 y4 y5 y7 r0 s0 (0 : Int) (0 : Int) M d6 d8_123 (some (.inl s0)) (some (.inl (0 : Int))) h
    · have h := zS_f h (F_eq hz)
      refine E_iconst (pc := 153) (zDk zD_15_ok 87 rfl) (by decide +kernel) ?_
      refine E_goto (pc := 154) (t := 158) (zDk zD_15_ok 88 rfl) rfl ?_
      exact ok_lD_signAll_c158 hq r0 x1 hr0 h7 H7 y2 y3 y4 y5 y7 r0 s0 (0 : Int) (1 : Int) M d6 d8_123 (some (.inl s0)) (some (.inl (0 : Int))) h
  · have h := zS_f h (F_eq hz)
    refine E_iconst (pc := 134) (zDk zD_15_ok 76 rfl) (by decide +kernel) ?_
    refine E_goto (pc := 135) (t := 139) (zDk zD_15_ok 77 rfl) rfl ?_
    refine W_istore (pc := 139) (L' := [some (.inr (.inr r0)), some (.inl x1), some (.inl y2), some (.inl y3), some (.inl y4), some (.inl y5), d6, some (.inl y7), d8_123, some (.inl s0), some (.inl (1 : Int))]) (zDk zD_15_ok 79 rfl) zm_15 (by decide) rfl ?_
    refine E_aload_n (pc := 141) (zDk zD_15_ok 80 rfl) rfl ?_
    refine E_iload (pc := 142) (zDk zD_15_ok 81 rfl) rfl ?_
    refine E_iload (pc := 144) (zDk zD_15_ok 82 rfl) rfl ?_
    refine E_iload (pc := 146) (zDk zD_15_ok 83 rfl) rfl ?_
    refine E_iload_n (pc := 148) (zDk zD_15_ok 84 rfl) rfl ?_
    refine E_iand (pc := 149) (zDk zD_15_ok 85 rfl) ?_
    refine E_if (pc := 150) (t := 157) (zDk zD_15_ok 86 rfl) rfl (fun hz => ?_) (fun hz => ?_)
    · have h := zS_t h (T_eq hz)
      refine E_iconst (pc := 157) (zDk zD_15_ok 89 rfl) (by decide +kernel) ?_
      exact ok_lD_signAll_c158 hq r0 x1 hr0 h7 H7 y2 y3 y4 y5 y7 r0 s0 (1 : Int) (0 : Int) M d6 d8_123 (some (.inl s0)) (some (.inl (1 : Int))) h
    · have h := zS_f h (F_eq hz)
      refine E_iconst (pc := 153) (zDk zD_15_ok 87 rfl) (by decide +kernel) ?_
      refine E_goto (pc := 154) (t := 158) (zDk zD_15_ok 88 rfl) rfl ?_
      exact ok_lD_signAll_c158 hq r0 x1 hr0 h7 H7 y2 y3 y4 y5 y7 r0 s0 (1 : Int) (1 : Int) M d6 d8_123 (some (.inl s0)) (some (.inl (1 : Int))) h
def lD_signAll_c85 (r0 : Nat) (x1 : Int) (h7 : Int → Int → Int → (Nat → Nat → Int) → Option (Nat → Nat → Int)) (y2 : Int) (y3 : Int) (y4 : Int) (y5 : Int) (y7 : Int) (s0 : Int) (M : Nat → Nat → Int) : Option (Nat → Nat → Int) :=
    (if (zand y5 (zxor s0 (-1 : Int))) = 0 then
    ((lD_namesAt r0 y7 x1 M).bind (fun v104 =>
    (if (zand (zand v104 s0) (zxor y5 (-1 : Int))) = 0 then
    (lD_signAll_c123 r0 x1 h7 y2 y3 y4 y5 y7 (0 : Int) M)
    else
    (lD_signAll_c123 r0 x1 h7 y2 y3 y4 y5 y7 (1 : Int) M))))
    else
    (h7 y2 y3 (w32 (y4 + 1)) M))
set_option maxRecDepth 100000 in
theorem ok_lD_signAll_c85 {sc : zSc} {q : Nat} {P : Option zV → (Nat → Nat → Int) → Prop} (hq : 1 ≤ q) (r0 : Nat) (x1 : Int) (hr0 : zis 1 r0 = true) (h7 : Int → Int → Int → (Nat → Nat → Int) → Option (Nat → Nat → Int)) (H7 : ∀ (y2 : Int) (y3 : Int) (y4 : Int) (M : Nat → Nat → Int) (d5 d6 d7 d8 d9 d10 : Option zV), zS (h7 y2 y3 y4 M) (fun M0 => P none M0) → zWp sc q 15 7 [some (.inr (.inr r0)), some (.inl x1), some (.inl y2), some (.inl y3), some (.inl y4), d5, d6, d7, d8, d9, d10] [] M P) : ∀ (y2 : Int) (y3 : Int) (y4 : Int) (y5 : Int) (y7 : Int) (s0 : Int) (M : Nat → Nat → Int) (d6 d8 d9 d10 : Option zV), zS (lD_signAll_c85 r0 x1 h7 y2 y3 y4 y5 y7 s0 M) (fun M0 => P none M0) → zWp sc q 15 85 [some (.inr (.inr r0)), some (.inl x1), some (.inl y2), some (.inl y3), some (.inl y4), some (.inl y5), d6, some (.inl y7), d8, d9, d10] [(.inl s0 : zV)] M P := by
  intro y2 y3 y4 y5 y7 s0 M d6 d8 d9 d10 h
  unfold lD_signAll_c85 at h
  refine W_istore (pc := 85) (L' := [some (.inr (.inr r0)), some (.inl x1), some (.inl y2), some (.inl y3), some (.inl y4), some (.inl y5), d6, some (.inl y7), some (.inl s0), d9, d10]) (zDk zD_15_ok 47 rfl) zm_15 (by decide) rfl ?_
  refine E_iload (pc := 87) (zDk zD_15_ok 48 rfl) rfl ?_
  refine E_iload (pc := 89) (zDk zD_15_ok 49 rfl) rfl ?_
  refine E_iconst (pc := 91) (zDk zD_15_ok 50 rfl) (by decide +kernel) ?_
  refine E_ixor (pc := 92) (zDk zD_15_ok 51 rfl) ?_
  refine E_iand (pc := 93) (zDk zD_15_ok 52 rfl) ?_
  refine E_if (pc := 94) (t := 100) (zDk zD_15_ok 53 rfl) rfl (fun hz => ?_) (fun hz => ?_)
  · have h := zS_t h (T_eq hz)
    refine E_aload_n (pc := 100) (zDk zD_15_ok 55 rfl) rfl ?_
    refine E_iload (pc := 101) (zDk zD_15_ok 56 rfl) rfl ?_
    refine E_iload_n (pc := 103) (zDk zD_15_ok 57 rfl) rfl ?_
    obtain ⟨v104, e104, h⟩ := zS_bind h
    refine E_virI (pc := 104) (c := 20) (r := r0) (as := [.inl y7, .inl x1]) (rest := []) (zDk zD_15_ok 58 rfl) zc_15 (by decide +kernel) zk_20 ⟨(Nat.le_of_ble_eq_true rfl), rfl, rfl⟩ (Nat.le_of_ble_eq_true rfl) (zr_20 _) (Nat.lt_of_lt_of_le (by decide) hq) (by rw [zm_20]; exact (Nat.le_of_ble_eq_true rfl)) ⟨zc_20, by decide⟩ hr0 (ok_lD_namesAt ⟨v104, e104, ?_⟩)
    refine E_iload (pc := 107) (zDk zD_15_ok 59 rfl) rfl ?_
    refine E_iand (pc := 109) (zDk zD_15_ok 60 rfl) ?_
    refine E_iload (pc := 110) (zDk zD_15_ok 61 rfl) rfl ?_
    refine E_iconst (pc := 112) (zDk zD_15_ok 62 rfl) (by decide +kernel) ?_
    refine E_ixor (pc := 113) (zDk zD_15_ok 63 rfl) ?_
    refine E_iand (pc := 114) (zDk zD_15_ok 64 rfl) ?_
    refine E_if (pc := 115) (t := 122) (zDk zD_15_ok 65 rfl) rfl (fun hz => ?_) (fun hz => ?_)
    · have h := zS_t h (T_eq hz)
      refine E_iconst (pc := 122) (zDk zD_15_ok 68 rfl) (by decide +kernel) ?_
      exact ok_lD_signAll_c123 hq r0 x1 hr0 h7 H7 y2 y3 y4 y5 y7 (0 : Int) M d6 (some (.inl s0)) d9 d10 h
    · have h := zS_f h (F_eq hz)
      refine E_iconst (pc := 118) (zDk zD_15_ok 66 rfl) (by decide +kernel) ?_
      refine E_goto (pc := 119) (t := 123) (zDk zD_15_ok 67 rfl) rfl ?_
      exact ok_lD_signAll_c123 hq r0 x1 hr0 h7 H7 y2 y3 y4 y5 y7 (1 : Int) M d6 (some (.inl s0)) d9 d10 h
  · have h := zS_f h (F_eq hz)
    refine E_goto (pc := 97) (t := 199) (zDk zD_15_ok 54 rfl) rfl ?_
    refine W_iinc (pc := 199) (L' := [some (.inr (.inr r0)), some (.inl x1), some (.inl y2), some (.inl y3), some (.inl (w32 (y4 + 1))), some (.inl y5), d6, some (.inl y7), some (.inl s0), d9, d10]) (zDk zD_15_ok 117 rfl) rfl zm_15 (by decide) rfl ?_
    refine E_goto (pc := 202) (t := 7) (zDk zD_15_ok 118 rfl) rfl ?_
    exact H7 y2 y3 (w32 (y4 + 1)) M (some (.inl y5)) d6 (some (.inl y7)) (some (.inl s0)) d9 d10 h
def lD_signAll_c50 (r0 : Nat) (x1 : Int) (h7 : Int → Int → Int → (Nat → Nat → Int) → Option (Nat → Nat → Int)) (y2 : Int) (y3 : Int) (y4 : Int) (y5 : Int) (s0 : Int) (M : Nat → Nat → Int) : Option (Nat → Nat → Int) :=
    (if s0 = 0 then
    (lD_signAll_c85 r0 x1 h7 y2 y3 y4 y5 (-1 : Int) (0 : Int) M)
    else
    ((lD_cornerOfAll r0 y5 x1 M).bind (fun v61 =>
    (if v61 = (-1 : Int) then
    (lD_signAll_c85 r0 x1 h7 y2 y3 y4 y5 v61 (0 : Int) M)
    else
    ((lD_namesAwake r0 x1 M).bind (fun v82 =>
    (lD_signAll_c85 r0 x1 h7 y2 y3 y4 y5 v61 v82 M)))))))
set_option maxRecDepth 100000 in
theorem ok_lD_signAll_c50 {sc : zSc} {q : Nat} {P : Option zV → (Nat → Nat → Int) → Prop} (hq : 1 ≤ q) (r0 : Nat) (x1 : Int) (hr0 : zis 1 r0 = true) (h7 : Int → Int → Int → (Nat → Nat → Int) → Option (Nat → Nat → Int)) (H7 : ∀ (y2 : Int) (y3 : Int) (y4 : Int) (M : Nat → Nat → Int) (d5 d6 d7 d8 d9 d10 : Option zV), zS (h7 y2 y3 y4 M) (fun M0 => P none M0) → zWp sc q 15 7 [some (.inr (.inr r0)), some (.inl x1), some (.inl y2), some (.inl y3), some (.inl y4), d5, d6, d7, d8, d9, d10] [] M P) : ∀ (y2 : Int) (y3 : Int) (y4 : Int) (y5 : Int) (s0 : Int) (M : Nat → Nat → Int) (d6 d7 d8 d9 d10 : Option zV), zS (lD_signAll_c50 r0 x1 h7 y2 y3 y4 y5 s0 M) (fun M0 => P none M0) → zWp sc q 15 50 [some (.inr (.inr r0)), some (.inl x1), some (.inl y2), some (.inl y3), some (.inl y4), some (.inl y5), d6, d7, d8, d9, d10] [(.inl s0 : zV)] M P := by
  intro y2 y3 y4 y5 s0 M d6 d7 d8 d9 d10 h
  unfold lD_signAll_c50 at h
  refine W_istore (pc := 50) (L' := [some (.inr (.inr r0)), some (.inl x1), some (.inl y2), some (.inl y3), some (.inl y4), some (.inl y5), some (.inl s0), d7, d8, d9, d10]) (zDk zD_15_ok 29 rfl) zm_15 (by decide) rfl ?_
  refine E_iload (pc := 52) (zDk zD_15_ok 30 rfl) rfl ?_
  refine E_if (pc := 54) (t := 67) (zDk zD_15_ok 31 rfl) rfl (fun hz => ?_) (fun hz => ?_)
  · have h := zS_t h (T_eq hz)
    refine E_iconst (pc := 67) (zDk zD_15_ok 37 rfl) (by decide +kernel) ?_
    refine W_istore (pc := 68) (L' := [some (.inr (.inr r0)), some (.inl x1), some (.inl y2), some (.inl y3), some (.inl y4), some (.inl y5), some (.inl s0), some (.inl (-1 : Int)), d8, d9, d10]) (zDk zD_15_ok 38 rfl) zm_15 (by decide) rfl ?_
    refine E_iload (pc := 70) (zDk zD_15_ok 39 rfl) rfl ?_
    refine E_iconst (pc := 72) (zDk zD_15_ok 40 rfl) (by decide +kernel) ?_
    refine E_icmp (pc := 73) (t := 80) (zDk zD_15_ok 41 rfl) rfl (fun hz => ?_) (fun hz => ?_)
    · exact absurd hz (by decide)
    · refine E_iconst (pc := 76) (zDk zD_15_ok 42 rfl) (by decide +kernel) ?_
      refine E_goto (pc := 77) (t := 85) (zDk zD_15_ok 43 rfl) rfl ?_
      exact ok_lD_signAll_c85 hq r0 x1 hr0 h7 H7 y2 y3 y4 y5 (-1 : Int) (0 : Int) M (some (.inl s0)) d8 d9 d10 h
  · have h := zS_f h (F_eq hz)
    refine E_aload_n (pc := 57) (zDk zD_15_ok 32 rfl) rfl ?_
    refine E_iload (pc := 58) (zDk zD_15_ok 33 rfl) rfl ?_
    refine E_iload_n (pc := 60) (zDk zD_15_ok 34 rfl) rfl ?_
    obtain ⟨v61, e61, h⟩ := zS_bind h
    refine E_virI (pc := 61) (c := 18) (r := r0) (as := [.inl y5, .inl x1]) (rest := []) (zDk zD_15_ok 35 rfl) zc_15 (by decide +kernel) zk_18 ⟨(Nat.le_of_ble_eq_true rfl), rfl, rfl⟩ (Nat.le_of_ble_eq_true rfl) (zr_18 _) (Nat.lt_of_lt_of_le (by decide) hq) (by rw [zm_18]; exact (Nat.le_of_ble_eq_true rfl)) ⟨zc_18, by decide⟩ hr0 (ok_lD_cornerOfAll ⟨v61, e61, ?_⟩)
    refine E_goto (pc := 64) (t := 68) (zDk zD_15_ok 36 rfl) rfl ?_
    refine W_istore (pc := 68) (L' := [some (.inr (.inr r0)), some (.inl x1), some (.inl y2), some (.inl y3), some (.inl y4), some (.inl y5), some (.inl s0), some (.inl v61), d8, d9, d10]) (zDk zD_15_ok 38 rfl) zm_15 (by decide) rfl ?_
    refine E_iload (pc := 70) (zDk zD_15_ok 39 rfl) rfl ?_
    refine E_iconst (pc := 72) (zDk zD_15_ok 40 rfl) (by decide +kernel) ?_
    refine E_icmp (pc := 73) (t := 80) (zDk zD_15_ok 41 rfl) rfl (fun hz => ?_) (fun hz => ?_)
    · have h := zS_f h (T_ne hz)
      refine E_aload_n (pc := 80) (zDk zD_15_ok 44 rfl) rfl ?_
      refine E_iload_n (pc := 81) (zDk zD_15_ok 45 rfl) rfl ?_
      obtain ⟨v82, e82, h⟩ := zS_bind h
      refine E_virI (pc := 82) (c := 19) (r := r0) (as := [.inl x1]) (rest := []) (zDk zD_15_ok 46 rfl) zc_15 (by decide +kernel) zk_19 ⟨(Nat.le_of_ble_eq_true rfl), rfl, rfl⟩ (Nat.le_of_ble_eq_true rfl) (zr_19 _) (Nat.lt_of_lt_of_le (by decide) hq) (by rw [zm_19]; exact (Nat.le_of_ble_eq_true rfl)) ⟨zc_19, by decide⟩ hr0 (ok_lD_namesAwake ⟨v82, e82, ?_⟩)
      exact ok_lD_signAll_c85 hq r0 x1 hr0 h7 H7 y2 y3 y4 y5 v61 v82 M (some (.inl s0)) d8 d9 d10 h
    · have h := zS_t h (F_ne hz)
      refine E_iconst (pc := 76) (zDk zD_15_ok 42 rfl) (by decide +kernel) ?_
      refine E_goto (pc := 77) (t := 85) (zDk zD_15_ok 43 rfl) rfl ?_
      exact ok_lD_signAll_c85 hq r0 x1 hr0 h7 H7 y2 y3 y4 y5 v61 (0 : Int) M (some (.inl s0)) d8 d9 d10 h
def lD_signAll_c7 (r0 : Nat) (x1 : Int) : Nat → Int → Int → Int → (Nat → Nat → Int) → Option (Nat → Nat → Int)
  | 0, _, _, _, _ => none
  | n + 1, y2, y3, y4, M =>
    (if y4 < (M 3 8) then
    ((rdI 12 y4 M).bind (fun v28 =>
    ((rdI (r0 + 7) x1 M).bind (fun v36 =>
    (if (zand (zshr v36 y4) (1 : Int)) = 0 then
    (lD_signAll_c50 r0 x1 (lD_signAll_c7 r0 x1 n) y2 y3 y4 v28 (1 : Int) M)
    else
    (lD_signAll_c50 r0 x1 (lD_signAll_c7 r0 x1 n) y2 y3 y4 v28 (0 : Int) M))))))
    else
    (some M))
set_option maxRecDepth 100000 in
theorem ok_lD_signAll_c7 {sc : zSc} {q : Nat} {P : Option zV → (Nat → Nat → Int) → Prop} (hq : 1 ≤ q) (r0 : Nat) (x1 : Int) (hr0 : zis 1 r0 = true) : ∀ (n : Nat) (y2 : Int) (y3 : Int) (y4 : Int) (M : Nat → Nat → Int) (d5 d6 d7 d8 d9 d10 : Option zV), zS (lD_signAll_c7 r0 x1 n y2 y3 y4 M) (fun M0 => P none M0) → zWp sc q 15 7 [some (.inr (.inr r0)), some (.inl x1), some (.inl y2), some (.inl y3), some (.inl y4), d5, d6, d7, d8, d9, d10] [] M P := by
  intro n
  induction n with
  | zero => intro y2 y3 y4 M d5 d6 d7 d8 d9 d10 h; exact (zS_none h).elim
  | succ n ih =>
    intro y2 y3 y4 M d5 d6 d7 d8 d9 d10 h
    rw [lD_signAll_c7] at h
    refine E_iload (pc := 7) (zDk zD_15_ok 6 rfl) rfl ?_
    refine E_aload_n (pc := 9) (zDk zD_15_ok 7 rfl) rfl ?_
    refine E_getR (pc := 10) (ci := 1) (f := 0) (r := 3) (zDk zD_15_ok 8 rfl) zc_15 (by decide +kernel) (by decide) hr0 (zg_1_0 hr0) (by decide) ?_
    refine E_getI (pc := 13) (ci := 6) (f := 8) (zDk zD_15_ok 9 rfl) zc_15 (by decide +kernel) (by decide) zis_6_3 ?_
    refine E_icmp (pc := 16) (t := 205) (zDk zD_15_ok 10 rfl) rfl (fun hz => ?_) (fun hz => ?_)
    · have h := zS_f h (Int.not_lt.mpr (T_ge hz))
      have h := zS_some h
      exact E_return (x := ()) (pc := 205) (zDk zD_15_ok 119 rfl) zt_15 h
    · have h := zS_t h (F_ge hz)
      refine E_aload_n (pc := 19) (zDk zD_15_ok 11 rfl) rfl ?_
      refine E_getR (pc := 20) (ci := 1) (f := 0) (r := 3) (zDk zD_15_ok 12 rfl) zc_15 (by decide +kernel) (by decide) hr0 (zg_1_0 hr0) (by decide) ?_
      refine E_getR (pc := 23) (ci := 6) (f := 17) (r := 12) (zDk zD_15_ok 13 rfl) zc_15 (by decide +kernel) (by decide) zis_6_3 (by decide +kernel) (by decide) ?_
      refine E_iload (pc := 26) (zDk zD_15_ok 14 rfl) rfl ?_
      obtain ⟨v28, e28, h⟩ := zS_bind h
      refine E_iaload (pc := 28) (zDk zD_15_ok 15 rfl) e28 ?_
      refine W_istore (pc := 29) (L' := [some (.inr (.inr r0)), some (.inl x1), some (.inl y2), some (.inl y3), some (.inl y4), some (.inl v28), d6, d7, d8, d9, d10]) (zDk zD_15_ok 16 rfl) zm_15 (by decide) rfl ?_
      refine E_aload_n (pc := 31) (zDk zD_15_ok 17 rfl) rfl ?_
      refine E_getR (pc := 32) (ci := 1) (f := 7) (r := (r0 + 7)) (zDk zD_15_ok 18 rfl) zc_15 (by decide +kernel) (by decide) hr0 (zg_1_7 hr0) (zh_1_7 hr0) ?_
      refine E_iload_n (pc := 35) (zDk zD_15_ok 19 rfl) rfl ?_
      obtain ⟨v36, e36, h⟩ := zS_bind h
      refine E_iaload (pc := 36) (zDk zD_15_ok 20 rfl) e36 ?_
      refine E_iload (pc := 37) (zDk zD_15_ok 21 rfl) rfl ?_
      refine E_ishr (pc := 39) (zDk zD_15_ok 22 rfl) ?_
      refine E_iconst (pc := 40) (zDk zD_15_ok 23 rfl) (by decide +kernel) ?_
      refine E_iand (pc := 41) (zDk zD_15_ok 24 rfl) ?_
      refine E_if (pc := 42) (t := 49) (zDk zD_15_ok 25 rfl) rfl (fun hz => ?_) (fun hz => ?_)
      · have h := zS_f h (T_ne hz)
        refine E_iconst (pc := 49) (zDk zD_15_ok 28 rfl) (by decide +kernel) ?_
        exact ok_lD_signAll_c50 hq r0 x1 hr0 (lD_signAll_c7 r0 x1 n) (ih) y2 y3 y4 v28 (0 : Int) M d6 d7 d8 d9 d10 h
      · have h := zS_t h (F_ne hz)
        refine E_iconst (pc := 45) (zDk zD_15_ok 26 rfl) (by decide +kernel) ?_
        refine E_goto (pc := 46) (t := 50) (zDk zD_15_ok 27 rfl) rfl ?_
        exact ok_lD_signAll_c50 hq r0 x1 hr0 (lD_signAll_c7 r0 x1 n) (ih) y2 y3 y4 v28 (1 : Int) M d6 d7 d8 d9 d10 h
def lD_signAll (r0 : Nat) (x1 : Int) (M : Nat → Nat → Int) : Option (Nat → Nat → Int) :=
    (if zis 1 r0 = true then
    (lD_signAll_c7 r0 x1 zN (0 : Int) (0 : Int) (0 : Int) M)
    else none)
set_option maxRecDepth 100000 in
theorem ok_lD_signAll {sc : zSc} {r0 : Nat} {x1 : Int} {M : Nat → Nat → Int} {P : (Nat → Nat → Int) → Prop} (h : zS (lD_signAll r0 x1 M) P) : zCv sc 15 [.inr (.inr r0), .inl x1] M P := by
  have ea : zarg (zml 15) [.inr (.inr r0), .inl x1] = [some (.inr (.inr r0)), some (.inl x1), none, none, none, none, none, none, none, none, none] := by rw [zm_15]; rfl
  unfold zCv zCw
  rw [ea, zr_15]
  have hq : 1 ≤ 1 := Nat.le_refl _
  unfold lD_signAll at h
  have h := zS_mono h (fun x hx => (⟨rfl, hx⟩ : (none : Option zV) = none ∧ P x))
  obtain ⟨hr0, h⟩ := zS_c h
  skip
  refine E_iconst (pc := 0) (zDk zD_15_ok 0 rfl) (by decide +kernel) ?_
  refine W_istore_n (pc := 1) (L' := [some (.inr (.inr r0)), some (.inl x1), some (.inl (0 : Int)), none, none, none, none, none, none, none, none]) (zDk zD_15_ok 1 rfl) zm_15 (by decide) rfl ?_
  refine E_iconst (pc := 2) (zDk zD_15_ok 2 rfl) (by decide +kernel) ?_
  refine W_istore_n (pc := 3) (L' := [some (.inr (.inr r0)), some (.inl x1), some (.inl (0 : Int)), some (.inl (0 : Int)), none, none, none, none, none, none, none]) (zDk zD_15_ok 3 rfl) zm_15 (by decide) rfl ?_
  refine E_iconst (pc := 4) (zDk zD_15_ok 4 rfl) (by decide +kernel) ?_
  refine W_istore (pc := 5) (L' := [some (.inr (.inr r0)), some (.inl x1), some (.inl (0 : Int)), some (.inl (0 : Int)), some (.inl (0 : Int)), none, none, none, none, none, none]) (zDk zD_15_ok 5 rfl) zm_15 (by decide) rfl ?_
  exact ok_lD_signAll_c7 hq r0 x1 hr0 zN (0 : Int) (0 : Int) (0 : Int) M none none none none none none h
def zD_21 : List (Nat × Instr × Nat) := [(0, .iload_n (1), 1), (1, .iconst (1), 1), (2, .aload_n (0), 1), (3, .getfield (38), 3), (6, .getfield (95), 3), (9, .ishl, 1), (10, .iconst (1), 1), (11, .isub, 1), (12, .iand, 1), (13, .istore_n (2), 1), (14, .iconst (0), 1), (15, .istore_n (3), 1), (16, .iload_n (3), 1), (17, .aload_n (0), 1), (18, .getfield (38), 3), (21, .getfield (78), 3), (24, .if_icmp .gt (23), 3), (27, .iload_n (2), 1), (28, .aload_n (0), 1), (29, .iload_n (3), 1), (30, .invokevirtual (145), 3), (33, .iconst (-1), 1), (34, .ixor, 1), (35, .iand, 1), (36, .ifCond .eq (5), 3), (39, .iload_n (3), 1), (40, .ireturn, 1), (41, .iinc (3) (1), 3), (44, .goto (-28), 3), (47, .iconst (-1), 1), (48, .ireturn, 1)]
set_option maxRecDepth 100000 in
theorem zD_21_ok : zDo 21 zD_21 = true := by decide +kernel
theorem zc_21 : zcls 21 = 1 := by decide +kernel
theorem zm_21 : zml 21 = 4 := by decide +kernel
theorem zt_21 : zrt 21 = (some (.int)) := by decide +kernel
theorem zk_21 : zkd 21 = 1 ∧ znp 21 + 1 = 2 := by decide +kernel
theorem zr_21 (as : List zV) : zrk 21 as = 1 := by unfold zrk; rw [if_neg (by decide)]; decide +kernel
def lD_firstDry_c16 (r0 : Nat) (x1 : Int) (M : Nat → Nat → Int) : Nat → Int → Int → Option Int
  | 0, _, _ => none
  | n + 1, y2, y3 =>
    (if (M 3 1) < y3 then
    (some (-1 : Int))
    else
    ((lD_namesAwake r0 y3 M).bind (fun v30 =>
    (if (zand y2 (zxor v30 (-1 : Int))) = 0 then
    ((lD_firstDry_c16 r0 x1 M n) y2 (w32 (y3 + 1)))
    else
    (some y3)))))
set_option maxRecDepth 100000 in
theorem ok_lD_firstDry_c16 {sc : zSc} {q : Nat} {P : Option zV → (Nat → Nat → Int) → Prop} (hq : 1 ≤ q) (r0 : Nat) (x1 : Int) (hr0 : zis 1 r0 = true) (M : Nat → Nat → Int) : ∀ (n : Nat) (y2 : Int) (y3 : Int), zS (lD_firstDry_c16 r0 x1 M n y2 y3) (fun x => P (some (.inl x)) M) → zWp sc q 21 16 [some (.inr (.inr r0)), some (.inl x1), some (.inl y2), some (.inl y3)] [] M P := by
  intro n
  induction n with
  | zero => intro y2 y3 h; exact (zS_none h).elim
  | succ n ih =>
    intro y2 y3 h
    rw [lD_firstDry_c16] at h
    refine E_iload_n (pc := 16) (zDk zD_21_ok 12 rfl) rfl ?_
    refine E_aload_n (pc := 17) (zDk zD_21_ok 13 rfl) rfl ?_
    refine E_getR (pc := 18) (ci := 1) (f := 0) (r := 3) (zDk zD_21_ok 14 rfl) zc_21 (by decide +kernel) (by decide) hr0 (zg_1_0 hr0) (by decide) ?_
    refine E_getI (pc := 21) (ci := 6) (f := 1) (zDk zD_21_ok 15 rfl) zc_21 (by decide +kernel) (by decide) zis_6_3 ?_
    refine E_icmp (pc := 24) (t := 47) (zDk zD_21_ok 16 rfl) rfl (fun hz => ?_) (fun hz => ?_)
    · have h := zS_t h (T_gt hz)
      refine E_iconst (pc := 47) (zDk zD_21_ok 29 rfl) (by decide +kernel) ?_
      have h := zS_some h
      exact E_ireturn (pc := 48) (zDk zD_21_ok 30 rfl) zt_21 h
    · have h := zS_f h (Int.not_lt.mpr (F_gt hz))
      refine E_iload_n (pc := 27) (zDk zD_21_ok 17 rfl) rfl ?_
      refine E_aload_n (pc := 28) (zDk zD_21_ok 18 rfl) rfl ?_
      refine E_iload_n (pc := 29) (zDk zD_21_ok 19 rfl) rfl ?_
      obtain ⟨v30, e30, h⟩ := zS_bind h
      refine E_virI (pc := 30) (c := 19) (r := r0) (as := [.inl y3]) (rest := [.inl y2]) (zDk zD_21_ok 20 rfl) zc_21 (by decide +kernel) zk_19 ⟨(Nat.le_of_ble_eq_true rfl), rfl, rfl⟩ (Nat.le_of_ble_eq_true rfl) (zr_19 _) (Nat.lt_of_lt_of_le (by decide) hq) (by rw [zm_19]; exact (Nat.le_of_ble_eq_true rfl)) ⟨zc_19, by decide⟩ hr0 (ok_lD_namesAwake ⟨v30, e30, ?_⟩)
      refine E_iconst (pc := 33) (zDk zD_21_ok 21 rfl) (by decide +kernel) ?_
      refine E_ixor (pc := 34) (zDk zD_21_ok 22 rfl) ?_
      refine E_iand (pc := 35) (zDk zD_21_ok 23 rfl) ?_
      refine E_if (pc := 36) (t := 41) (zDk zD_21_ok 24 rfl) rfl (fun hz => ?_) (fun hz => ?_)
      · have h := zS_t h (T_eq hz)
        refine W_iinc (pc := 41) (L' := [some (.inr (.inr r0)), some (.inl x1), some (.inl y2), some (.inl (w32 (y3 + 1)))]) (zDk zD_21_ok 27 rfl) rfl zm_21 (by decide) rfl ?_
        refine E_goto (pc := 44) (t := 16) (zDk zD_21_ok 28 rfl) rfl ?_
        exact (ih) y2 (w32 (y3 + 1)) h
      · have h := zS_f h (F_eq hz)
        refine E_iload_n (pc := 39) (zDk zD_21_ok 25 rfl) rfl ?_
        have h := zS_some h
        exact E_ireturn (pc := 40) (zDk zD_21_ok 26 rfl) zt_21 h
def lD_firstDry (r0 : Nat) (x1 : Int) (M : Nat → Nat → Int) : Option Int :=
    (if zis 1 r0 = true then
    (lD_firstDry_c16 r0 x1 M zN (zand x1 (w32 ((zshl (1 : Int) (M 3 7)) - (1 : Int)))) (0 : Int))
    else none)
set_option maxRecDepth 100000 in
theorem ok_lD_firstDry {sc : zSc} {r0 : Nat} {x1 : Int} {M : Nat → Nat → Int} {P : Int → (Nat → Nat → Int) → Prop} (h : zS (lD_firstDry r0 x1 M) (fun x => P x M)) : zCi sc 21 [.inr (.inr r0), .inl x1] M P := by
  have ea : zarg (zml 21) [.inr (.inr r0), .inl x1] = [some (.inr (.inr r0)), some (.inl x1), none, none] := by rw [zm_21]; rfl
  unfold zCi zCw
  rw [ea, zr_21]
  have hq : 1 ≤ 1 := Nat.le_refl _
  unfold lD_firstDry at h
  have h := zS_mono h (fun x hx => (⟨x, rfl, hx⟩ : ∃ y, (some (.inl x) : Option zV) = some (.inl y) ∧ P y M))
  obtain ⟨hr0, h⟩ := zS_c h
  skip
  refine E_iload_n (pc := 0) (zDk zD_21_ok 0 rfl) rfl ?_
  refine E_iconst (pc := 1) (zDk zD_21_ok 1 rfl) (by decide +kernel) ?_
  refine E_aload_n (pc := 2) (zDk zD_21_ok 2 rfl) rfl ?_
  refine E_getR (pc := 3) (ci := 1) (f := 0) (r := 3) (zDk zD_21_ok 3 rfl) zc_21 (by decide +kernel) (by decide) hr0 (zg_1_0 hr0) (by decide) ?_
  refine E_getI (pc := 6) (ci := 6) (f := 7) (zDk zD_21_ok 4 rfl) zc_21 (by decide +kernel) (by decide) zis_6_3 ?_
  refine E_ishl (pc := 9) (zDk zD_21_ok 5 rfl) ?_
  refine E_iconst (pc := 10) (zDk zD_21_ok 6 rfl) (by decide +kernel) ?_
  refine W_isub (pc := 11) (zDk zD_21_ok 7 rfl) ?_
  refine E_iand (pc := 12) (zDk zD_21_ok 8 rfl) ?_
  refine W_istore_n (pc := 13) (L' := [some (.inr (.inr r0)), some (.inl x1), some (.inl (zand x1 (w32 ((zshl (1 : Int) (M 3 7)) - (1 : Int))))), none]) (zDk zD_21_ok 9 rfl) zm_21 (by decide) rfl ?_
  refine E_iconst (pc := 14) (zDk zD_21_ok 10 rfl) (by decide +kernel) ?_
  refine W_istore_n (pc := 15) (L' := [some (.inr (.inr r0)), some (.inl x1), some (.inl (zand x1 (w32 ((zshl (1 : Int) (M 3 7)) - (1 : Int))))), some (.inl (0 : Int))]) (zDk zD_21_ok 11 rfl) zm_21 (by decide) rfl ?_
  exact ok_lD_firstDry_c16 hq r0 x1 hr0 M zN (zand x1 (w32 ((zshl (1 : Int) (M 3 7)) - (1 : Int)))) (0 : Int) h
def zD_24 : List (Nat × Instr × Nat) := [(0, .iconst (0), 1), (1, .istore_n (2), 1), (2, .iconst (0), 1), (3, .istore_n (3), 1), (4, .iload_n (3), 1), (5, .aload_n (0), 1), (6, .getfield (38), 3), (9, .getfield (78), 3), (12, .if_icmp .ge (86), 3), (15, .iload_n (3), 1), (16, .iconst (5), 1), (17, .imul, 1), (18, .iload_n (1), 1), (19, .iadd, 1), (20, .istore (4), 2), (22, .aload_n (0), 1), (23, .iload_n (1), 1), (24, .iload_n (3), 1), (25, .invokevirtual (105), 3), (28, .istore (5), 2), (30, .aload_n (0), 1), (31, .getfield (28), 3), (34, .iload (4), 2), (36, .iaload, 1), (37, .ifCond .le (25), 3), (40, .iload (5), 2), (42, .iconst (-1), 1), (43, .if_icmp .eq (19), 3), (46, .iload (5), 2), (48, .aload_n (0), 1), (49, .getfield (25), 3), (52, .iload (4), 2), (54, .iaload, 1), (55, .if_icmp .eq (7), 3), (58, .iconst (1), 1), (59, .goto (4), 3), (62, .iconst (0), 1), (63, .istore (6), 2), (65, .iload (6), 2), (67, .ifCond .eq (25), 3), (70, .aload_n (0), 1), (71, .getfield (12), 3), (74, .aload_n (0), 1), (75, .getfield (25), 3), (78, .iload (4), 2), (80, .iaload, 1), (81, .iload (5), 2), (83, .invokevirtual (109), 3), (86, .ifCond .ne (6), 3), (89, .iinc (2) (1), 3), (92, .iinc (3) (1), 3), (95, .goto (-91), 3), (98, .iload_n (2), 1), (99, .ireturn, 1)]
set_option maxRecDepth 100000 in
theorem zD_24_ok : zDo 24 zD_24 = true := by decide +kernel
theorem zc_24 : zcls 24 = 1 := by decide +kernel
theorem zm_24 : zml 24 = 7 := by decide +kernel
theorem zt_24 : zrt 24 = (some (.int)) := by decide +kernel
theorem zk_24 : zkd 24 = 1 ∧ znp 24 + 1 = 2 := by decide +kernel
theorem zr_24 (as : List zV) : zrk 24 as = 1 := by unfold zrk; rw [if_neg (by decide)]; decide +kernel
def lD_stepsStuck_c63 (r0 : Nat) (x1 : Int) (M : Nat → Nat → Int) (h4 : Int → Int → Option Int) (y2 : Int) (y3 : Int) (y4 : Int) (y5 : Int) (s0 : Int) : Option Int :=
    (if s0 = 0 then
    (h4 y2 (w32 (y3 + 1)))
    else
    ((rdI (r0 + 5) y4 M).bind (fun v80 =>
    ((lN_joins (r0 + 1) v80 y5 M).bind (fun v83 =>
    (if v83 = 0 then
    (h4 (w32 (y2 + 1)) (w32 (y3 + 1)))
    else
    (h4 y2 (w32 (y3 + 1)))))))))
set_option maxRecDepth 100000 in
theorem ok_lD_stepsStuck_c63 {sc : zSc} {q : Nat} {P : Option zV → (Nat → Nat → Int) → Prop} (hq : 1 ≤ q) (r0 : Nat) (x1 : Int) (hr0 : zis 1 r0 = true) (M : Nat → Nat → Int) (h4 : Int → Int → Option Int) (H4 : ∀ (y2 : Int) (y3 : Int) (d4 d5 d6 : Option zV), zS (h4 y2 y3) (fun x => P (some (.inl x)) M) → zWp sc q 24 4 [some (.inr (.inr r0)), some (.inl x1), some (.inl y2), some (.inl y3), d4, d5, d6] [] M P) : ∀ (y2 : Int) (y3 : Int) (y4 : Int) (y5 : Int) (s0 : Int) (d6 : Option zV), zS (lD_stepsStuck_c63 r0 x1 M h4 y2 y3 y4 y5 s0) (fun x => P (some (.inl x)) M) → zWp sc q 24 63 [some (.inr (.inr r0)), some (.inl x1), some (.inl y2), some (.inl y3), some (.inl y4), some (.inl y5), d6] [(.inl s0 : zV)] M P := by
  intro y2 y3 y4 y5 s0 d6 h
  unfold lD_stepsStuck_c63 at h
  refine W_istore (pc := 63) (L' := [some (.inr (.inr r0)), some (.inl x1), some (.inl y2), some (.inl y3), some (.inl y4), some (.inl y5), some (.inl s0)]) (zDk zD_24_ok 37 rfl) zm_24 (by decide) rfl ?_
  refine E_iload (pc := 65) (zDk zD_24_ok 38 rfl) rfl ?_
  refine E_if (pc := 67) (t := 92) (zDk zD_24_ok 39 rfl) rfl (fun hz => ?_) (fun hz => ?_)
  · have h := zS_t h (T_eq hz)
    refine W_iinc (pc := 92) (L' := [some (.inr (.inr r0)), some (.inl x1), some (.inl y2), some (.inl (w32 (y3 + 1))), some (.inl y4), some (.inl y5), some (.inl s0)]) (zDk zD_24_ok 50 rfl) rfl zm_24 (by decide) rfl ?_
    refine E_goto (pc := 95) (t := 4) (zDk zD_24_ok 51 rfl) rfl ?_
    exact H4 y2 (w32 (y3 + 1)) (some (.inl y4)) (some (.inl y5)) (some (.inl s0)) h
  · have h := zS_f h (F_eq hz)
    refine E_aload_n (pc := 70) (zDk zD_24_ok 40 rfl) rfl ?_
    refine E_getR (pc := 71) (ci := 1) (f := 2) (r := (r0 + 1)) (zDk zD_24_ok 41 rfl) zc_24 (by decide +kernel) (by decide) hr0 (zg_1_2 hr0) (zh_1_2 hr0) ?_
    refine E_aload_n (pc := 74) (zDk zD_24_ok 42 rfl) rfl ?_
    refine E_getR (pc := 75) (ci := 1) (f := 5) (r := (r0 + 5)) (zDk zD_24_ok 43 rfl) zc_24 (by decide +kernel) (by decide) hr0 (zg_1_5 hr0) (zh_1_5 hr0) ?_
    refine E_iload (pc := 78) (zDk zD_24_ok 44 rfl) rfl ?_
    obtain ⟨v80, e80, h⟩ := zS_bind h
    refine E_iaload (pc := 80) (zDk zD_24_ok 45 rfl) e80 ?_
    refine E_iload (pc := 81) (zDk zD_24_ok 46 rfl) rfl ?_
    obtain ⟨v83, e83, h⟩ := zS_bind h
    refine E_virI (pc := 83) (c := 37) (r := (r0 + 1)) (as := [.inl v80, .inl y5]) (rest := []) (zDk zD_24_ok 47 rfl) zc_24 (by decide +kernel) zk_37 ⟨(Nat.le_of_ble_eq_true rfl), rfl, rfl⟩ (Nat.le_of_ble_eq_true rfl) (zr_37 _) (Nat.lt_of_lt_of_le (by decide) hq) (by rw [zm_37]; exact (Nat.le_of_ble_eq_true rfl)) ⟨zc_37, by decide⟩ (zi_1_2 hr0) (ok_lN_joins ⟨v83, e83, ?_⟩)
    refine E_if (pc := 86) (t := 92) (zDk zD_24_ok 48 rfl) rfl (fun hz => ?_) (fun hz => ?_)
    · have h := zS_f h (T_ne hz)
      refine W_iinc (pc := 92) (L' := [some (.inr (.inr r0)), some (.inl x1), some (.inl y2), some (.inl (w32 (y3 + 1))), some (.inl y4), some (.inl y5), some (.inl s0)]) (zDk zD_24_ok 50 rfl) rfl zm_24 (by decide) rfl ?_
      refine E_goto (pc := 95) (t := 4) (zDk zD_24_ok 51 rfl) rfl ?_
      exact H4 y2 (w32 (y3 + 1)) (some (.inl y4)) (some (.inl y5)) (some (.inl s0)) h
    · have h := zS_t h (F_ne hz)
      refine W_iinc (pc := 89) (L' := [some (.inr (.inr r0)), some (.inl x1), some (.inl (w32 (y2 + 1))), some (.inl y3), some (.inl y4), some (.inl y5), some (.inl s0)]) (zDk zD_24_ok 49 rfl) rfl zm_24 (by decide) rfl ?_
      refine W_iinc (pc := 92) (L' := [some (.inr (.inr r0)), some (.inl x1), some (.inl (w32 (y2 + 1))), some (.inl (w32 (y3 + 1))), some (.inl y4), some (.inl y5), some (.inl s0)]) (zDk zD_24_ok 50 rfl) rfl zm_24 (by decide) rfl ?_
      refine E_goto (pc := 95) (t := 4) (zDk zD_24_ok 51 rfl) rfl ?_
      exact H4 (w32 (y2 + 1)) (w32 (y3 + 1)) (some (.inl y4)) (some (.inl y5)) (some (.inl s0)) h
def lD_stepsStuck_c4 (r0 : Nat) (x1 : Int) (M : Nat → Nat → Int) : Nat → Int → Int → Option Int
  | 0, _, _ => none
  | n + 1, y2, y3 =>
    (if y3 < (M 3 1) then
    ((lD_aimOf r0 x1 y3 M).bind (fun v25 =>
    ((rdI (r0 + 6) (w32 ((w32 (y3 * (5 : Int))) + x1)) M).bind (fun v36 =>
    (if 0 < v36 then
    (if v25 = (-1 : Int) then
    (lD_stepsStuck_c63 r0 x1 M (lD_stepsStuck_c4 r0 x1 M n) y2 y3 (w32 ((w32 (y3 * (5 : Int))) + x1)) v25 (0 : Int))
    else
    ((rdI (r0 + 5) (w32 ((w32 (y3 * (5 : Int))) + x1)) M).bind (fun v54 =>
    (if v25 = v54 then
    (lD_stepsStuck_c63 r0 x1 M (lD_stepsStuck_c4 r0 x1 M n) y2 y3 (w32 ((w32 (y3 * (5 : Int))) + x1)) v25 (0 : Int))
    else
    (lD_stepsStuck_c63 r0 x1 M (lD_stepsStuck_c4 r0 x1 M n) y2 y3 (w32 ((w32 (y3 * (5 : Int))) + x1)) v25 (1 : Int))))))
    else
    (lD_stepsStuck_c63 r0 x1 M (lD_stepsStuck_c4 r0 x1 M n) y2 y3 (w32 ((w32 (y3 * (5 : Int))) + x1)) v25 (0 : Int)))))))
    else
    (some y2))
set_option maxRecDepth 100000 in
theorem ok_lD_stepsStuck_c4 {sc : zSc} {q : Nat} {P : Option zV → (Nat → Nat → Int) → Prop} (hq : 1 ≤ q) (r0 : Nat) (x1 : Int) (hr0 : zis 1 r0 = true) (M : Nat → Nat → Int) : ∀ (n : Nat) (y2 : Int) (y3 : Int) (d4 d5 d6 : Option zV), zS (lD_stepsStuck_c4 r0 x1 M n y2 y3) (fun x => P (some (.inl x)) M) → zWp sc q 24 4 [some (.inr (.inr r0)), some (.inl x1), some (.inl y2), some (.inl y3), d4, d5, d6] [] M P := by
  intro n
  induction n with
  | zero => intro y2 y3 d4 d5 d6 h; exact (zS_none h).elim
  | succ n ih =>
    intro y2 y3 d4 d5 d6 h
    rw [lD_stepsStuck_c4] at h
    refine E_iload_n (pc := 4) (zDk zD_24_ok 4 rfl) rfl ?_
    refine E_aload_n (pc := 5) (zDk zD_24_ok 5 rfl) rfl ?_
    refine E_getR (pc := 6) (ci := 1) (f := 0) (r := 3) (zDk zD_24_ok 6 rfl) zc_24 (by decide +kernel) (by decide) hr0 (zg_1_0 hr0) (by decide) ?_
    refine E_getI (pc := 9) (ci := 6) (f := 1) (zDk zD_24_ok 7 rfl) zc_24 (by decide +kernel) (by decide) zis_6_3 ?_
    refine E_icmp (pc := 12) (t := 98) (zDk zD_24_ok 8 rfl) rfl (fun hz => ?_) (fun hz => ?_)
    · have h := zS_f h (Int.not_lt.mpr (T_ge hz))
      refine E_iload_n (pc := 98) (zDk zD_24_ok 52 rfl) rfl ?_
      have h := zS_some h
      exact E_ireturn (pc := 99) (zDk zD_24_ok 53 rfl) zt_24 h
    · have h := zS_t h (F_ge hz)
      refine E_iload_n (pc := 15) (zDk zD_24_ok 9 rfl) rfl ?_
      refine E_iconst (pc := 16) (zDk zD_24_ok 10 rfl) (by decide +kernel) ?_
      refine W_imul (pc := 17) (zDk zD_24_ok 11 rfl) ?_
      refine E_iload_n (pc := 18) (zDk zD_24_ok 12 rfl) rfl ?_
      refine W_iadd (pc := 19) (zDk zD_24_ok 13 rfl) ?_
      refine W_istore (pc := 20) (L' := [some (.inr (.inr r0)), some (.inl x1), some (.inl y2), some (.inl y3), some (.inl (w32 ((w32 (y3 * (5 : Int))) + x1))), d5, d6]) (zDk zD_24_ok 14 rfl) zm_24 (by decide) rfl ?_
      refine E_aload_n (pc := 22) (zDk zD_24_ok 15 rfl) rfl ?_
      refine E_iload_n (pc := 23) (zDk zD_24_ok 16 rfl) rfl ?_
      refine E_iload_n (pc := 24) (zDk zD_24_ok 17 rfl) rfl ?_
      obtain ⟨v25, e25, h⟩ := zS_bind h
      refine E_virI (pc := 25) (c := 12) (r := r0) (as := [.inl x1, .inl y3]) (rest := []) (zDk zD_24_ok 18 rfl) zc_24 (by decide +kernel) zk_12 ⟨(Nat.le_of_ble_eq_true rfl), rfl, rfl⟩ (Nat.le_of_ble_eq_true rfl) (zr_12 _) (Nat.lt_of_lt_of_le (by decide) hq) (by rw [zm_12]; exact (Nat.le_of_ble_eq_true rfl)) ⟨zc_12, by decide⟩ hr0 (ok_lD_aimOf ⟨v25, e25, ?_⟩)
      refine W_istore (pc := 28) (L' := [some (.inr (.inr r0)), some (.inl x1), some (.inl y2), some (.inl y3), some (.inl (w32 ((w32 (y3 * (5 : Int))) + x1))), some (.inl v25), d6]) (zDk zD_24_ok 19 rfl) zm_24 (by decide) rfl ?_
      refine E_aload_n (pc := 30) (zDk zD_24_ok 20 rfl) rfl ?_
      refine E_getR (pc := 31) (ci := 1) (f := 6) (r := (r0 + 6)) (zDk zD_24_ok 21 rfl) zc_24 (by decide +kernel) (by decide) hr0 (zg_1_6 hr0) (zh_1_6 hr0) ?_
      refine E_iload (pc := 34) (zDk zD_24_ok 22 rfl) rfl ?_
      obtain ⟨v36, e36, h⟩ := zS_bind h
      refine E_iaload (pc := 36) (zDk zD_24_ok 23 rfl) e36 ?_
      refine E_if (pc := 37) (t := 62) (zDk zD_24_ok 24 rfl) rfl (fun hz => ?_) (fun hz => ?_)
      · have h := zS_f h (Int.not_lt.mpr (T_le hz))
        refine E_iconst (pc := 62) (zDk zD_24_ok 36 rfl) (by decide +kernel) ?_
        exact ok_lD_stepsStuck_c63 hq r0 x1 hr0 M (lD_stepsStuck_c4 r0 x1 M n) (ih) y2 y3 (w32 ((w32 (y3 * (5 : Int))) + x1)) v25 (0 : Int) d6 h
      · have h := zS_t h (F_le hz)
        refine E_iload (pc := 40) (zDk zD_24_ok 25 rfl) rfl ?_
        refine E_iconst (pc := 42) (zDk zD_24_ok 26 rfl) (by decide +kernel) ?_
        refine E_icmp (pc := 43) (t := 62) (zDk zD_24_ok 27 rfl) rfl (fun hz => ?_) (fun hz => ?_)
        · have h := zS_t h (T_eq hz)
          refine E_iconst (pc := 62) (zDk zD_24_ok 36 rfl) (by decide +kernel) ?_
          exact ok_lD_stepsStuck_c63 hq r0 x1 hr0 M (lD_stepsStuck_c4 r0 x1 M n) (ih) y2 y3 (w32 ((w32 (y3 * (5 : Int))) + x1)) v25 (0 : Int) d6 h
        · have h := zS_f h (F_eq hz)
          refine E_iload (pc := 46) (zDk zD_24_ok 28 rfl) rfl ?_
          refine E_aload_n (pc := 48) (zDk zD_24_ok 29 rfl) rfl ?_
          refine E_getR (pc := 49) (ci := 1) (f := 5) (r := (r0 + 5)) (zDk zD_24_ok 30 rfl) zc_24 (by decide +kernel) (by decide) hr0 (zg_1_5 hr0) (zh_1_5 hr0) ?_
          refine E_iload (pc := 52) (zDk zD_24_ok 31 rfl) rfl ?_
          obtain ⟨v54, e54, h⟩ := zS_bind h
          refine E_iaload (pc := 54) (zDk zD_24_ok 32 rfl) e54 ?_
          refine E_icmp (pc := 55) (t := 62) (zDk zD_24_ok 33 rfl) rfl (fun hz => ?_) (fun hz => ?_)
          · have h := zS_t h (T_eq hz)
            refine E_iconst (pc := 62) (zDk zD_24_ok 36 rfl) (by decide +kernel) ?_
            exact ok_lD_stepsStuck_c63 hq r0 x1 hr0 M (lD_stepsStuck_c4 r0 x1 M n) (ih) y2 y3 (w32 ((w32 (y3 * (5 : Int))) + x1)) v25 (0 : Int) d6 h
          · have h := zS_f h (F_eq hz)
            refine E_iconst (pc := 58) (zDk zD_24_ok 34 rfl) (by decide +kernel) ?_
            refine E_goto (pc := 59) (t := 63) (zDk zD_24_ok 35 rfl) rfl ?_
            exact ok_lD_stepsStuck_c63 hq r0 x1 hr0 M (lD_stepsStuck_c4 r0 x1 M n) (ih) y2 y3 (w32 ((w32 (y3 * (5 : Int))) + x1)) v25 (1 : Int) d6 h
def lD_stepsStuck (r0 : Nat) (x1 : Int) (M : Nat → Nat → Int) : Option Int :=
    (if zis 1 r0 = true then
    (lD_stepsStuck_c4 r0 x1 M zN (0 : Int) (0 : Int))
    else none)
set_option maxRecDepth 100000 in
theorem ok_lD_stepsStuck {sc : zSc} {r0 : Nat} {x1 : Int} {M : Nat → Nat → Int} {P : Int → (Nat → Nat → Int) → Prop} (h : zS (lD_stepsStuck r0 x1 M) (fun x => P x M)) : zCi sc 24 [.inr (.inr r0), .inl x1] M P := by
  have ea : zarg (zml 24) [.inr (.inr r0), .inl x1] = [some (.inr (.inr r0)), some (.inl x1), none, none, none, none, none] := by rw [zm_24]; rfl
  unfold zCi zCw
  rw [ea, zr_24]
  have hq : 1 ≤ 1 := Nat.le_refl _
  unfold lD_stepsStuck at h
  have h := zS_mono h (fun x hx => (⟨x, rfl, hx⟩ : ∃ y, (some (.inl x) : Option zV) = some (.inl y) ∧ P y M))
  obtain ⟨hr0, h⟩ := zS_c h
  skip
  refine E_iconst (pc := 0) (zDk zD_24_ok 0 rfl) (by decide +kernel) ?_
  refine W_istore_n (pc := 1) (L' := [some (.inr (.inr r0)), some (.inl x1), some (.inl (0 : Int)), none, none, none, none]) (zDk zD_24_ok 1 rfl) zm_24 (by decide) rfl ?_
  refine E_iconst (pc := 2) (zDk zD_24_ok 2 rfl) (by decide +kernel) ?_
  refine W_istore_n (pc := 3) (L' := [some (.inr (.inr r0)), some (.inl x1), some (.inl (0 : Int)), some (.inl (0 : Int)), none, none, none]) (zDk zD_24_ok 3 rfl) zm_24 (by decide) rfl ?_
  exact ok_lD_stepsStuck_c4 hq r0 x1 hr0 M zN (0 : Int) (0 : Int) none none none h
def zD_26 : List (Nat × Instr × Nat) := [(0, .iconst (0), 1), (1, .istore_n (2), 1), (2, .aload_n (0), 1), (3, .getfield (22), 3), (6, .iload_n (1), 1), (7, .iaload, 1), (8, .istore_n (3), 1), (9, .iconst (0), 1), (10, .istore (4), 2), (12, .iload (4), 2), (14, .aload_n (0), 1), (15, .getfield (38), 3), (18, .getfield (78), 3), (21, .if_icmp .gt (54), 3), (24, .iload (4), 2), (26, .iconst (5), 1), (27, .imul, 1), (28, .iload_n (1), 1), (29, .iadd, 1), (30, .istore (5), 2), (32, .iload_n (2), 1), (33, .bipush (60), 2), (35, .iload_n (3), 1), (36, .aload_n (0), 1), (37, .aload_n (0), 1), (38, .getfield (25), 3), (41, .iload (5), 2), (43, .iaload, 1), (44, .invokevirtual (127), 3), (47, .iadd, 1), (48, .invokestatic (130), 3), (51, .iload_n (3), 1), (52, .isub, 1), (53, .iadd, 1), (54, .istore_n (2), 1), (55, .iconst (0), 1), (56, .aload_n (0), 1), (57, .getfield (28), 3), (60, .iload (5), 2), (62, .iaload, 1), (63, .iconst (1), 1), (64, .isub, 1), (65, .invokestatic (113), 3), (68, .istore_n (3), 1), (69, .iinc (4) (1), 3), (72, .goto (-60), 3), (75, .iload_n (2), 1), (76, .ireturn, 1)]
set_option maxRecDepth 100000 in
theorem zD_26_ok : zDo 26 zD_26 = true := by decide +kernel
theorem zc_26 : zcls 26 = 1 := by decide +kernel
theorem zm_26 : zml 26 = 6 := by decide +kernel
theorem zt_26 : zrt 26 = (some (.int)) := by decide +kernel
theorem zk_26 : zkd 26 = 1 ∧ znp 26 + 1 = 2 := by decide +kernel
theorem zr_26 (as : List zV) : zrk 26 as = 1 := by unfold zrk; rw [if_neg (by decide)]; decide +kernel
def lD_inkDrunk_c12 (r0 : Nat) (x1 : Int) (M : Nat → Nat → Int) : Nat → Int → Int → Int → Option Int
  | 0, _, _, _ => none
  | n + 1, y2, y3, y4 =>
    (if (M 3 1) < y4 then
    (some y2)
    else
    ((rdI (r0 + 5) (w32 ((w32 (y4 * (5 : Int))) + x1)) M).bind (fun v43 =>
    ((lD_inkAt r0 v43 M).bind (fun v44 =>
    ((rdI (r0 + 6) (w32 ((w32 (y4 * (5 : Int))) + x1)) M).bind (fun v62 =>
    ((lD_inkDrunk_c12 r0 x1 M n) (w32 (y2 + (w32 ((zmin (60 : Int) (w32 (y3 + v44))) - y3)))) (zmax (0 : Int) (w32 (v62 - (1 : Int)))) (w32 (y4 + 1))))))))))
set_option maxRecDepth 100000 in
theorem ok_lD_inkDrunk_c12 {sc : zSc} {q : Nat} {P : Option zV → (Nat → Nat → Int) → Prop} (hq : 1 ≤ q) (r0 : Nat) (x1 : Int) (hr0 : zis 1 r0 = true) (M : Nat → Nat → Int) : ∀ (n : Nat) (y2 : Int) (y3 : Int) (y4 : Int) (d5 : Option zV), zS (lD_inkDrunk_c12 r0 x1 M n y2 y3 y4) (fun x => P (some (.inl x)) M) → zWp sc q 26 12 [some (.inr (.inr r0)), some (.inl x1), some (.inl y2), some (.inl y3), some (.inl y4), d5] [] M P := by
  intro n
  induction n with
  | zero => intro y2 y3 y4 d5 h; exact (zS_none h).elim
  | succ n ih =>
    intro y2 y3 y4 d5 h
    rw [lD_inkDrunk_c12] at h
    refine E_iload (pc := 12) (zDk zD_26_ok 9 rfl) rfl ?_
    refine E_aload_n (pc := 14) (zDk zD_26_ok 10 rfl) rfl ?_
    refine E_getR (pc := 15) (ci := 1) (f := 0) (r := 3) (zDk zD_26_ok 11 rfl) zc_26 (by decide +kernel) (by decide) hr0 (zg_1_0 hr0) (by decide) ?_
    refine E_getI (pc := 18) (ci := 6) (f := 1) (zDk zD_26_ok 12 rfl) zc_26 (by decide +kernel) (by decide) zis_6_3 ?_
    refine E_icmp (pc := 21) (t := 75) (zDk zD_26_ok 13 rfl) rfl (fun hz => ?_) (fun hz => ?_)
    · have h := zS_t h (T_gt hz)
      refine E_iload_n (pc := 75) (zDk zD_26_ok 46 rfl) rfl ?_
      have h := zS_some h
      exact E_ireturn (pc := 76) (zDk zD_26_ok 47 rfl) zt_26 h
    · have h := zS_f h (Int.not_lt.mpr (F_gt hz))
      refine E_iload (pc := 24) (zDk zD_26_ok 14 rfl) rfl ?_
      refine E_iconst (pc := 26) (zDk zD_26_ok 15 rfl) (by decide +kernel) ?_
      refine W_imul (pc := 27) (zDk zD_26_ok 16 rfl) ?_
      refine E_iload_n (pc := 28) (zDk zD_26_ok 17 rfl) rfl ?_
      refine W_iadd (pc := 29) (zDk zD_26_ok 18 rfl) ?_
      refine W_istore (pc := 30) (L' := [some (.inr (.inr r0)), some (.inl x1), some (.inl y2), some (.inl y3), some (.inl y4), some (.inl (w32 ((w32 (y4 * (5 : Int))) + x1)))]) (zDk zD_26_ok 19 rfl) zm_26 (by decide) rfl ?_
      refine E_iload_n (pc := 32) (zDk zD_26_ok 20 rfl) rfl ?_
      refine E_bipush (pc := 33) (zDk zD_26_ok 21 rfl) (by decide +kernel) ?_
      refine E_iload_n (pc := 35) (zDk zD_26_ok 22 rfl) rfl ?_
      refine E_aload_n (pc := 36) (zDk zD_26_ok 23 rfl) rfl ?_
      refine E_aload_n (pc := 37) (zDk zD_26_ok 24 rfl) rfl ?_
      refine E_getR (pc := 38) (ci := 1) (f := 5) (r := (r0 + 5)) (zDk zD_26_ok 25 rfl) zc_26 (by decide +kernel) (by decide) hr0 (zg_1_5 hr0) (zh_1_5 hr0) ?_
      refine E_iload (pc := 41) (zDk zD_26_ok 26 rfl) rfl ?_
      obtain ⟨v43, e43, h⟩ := zS_bind h
      refine E_iaload (pc := 43) (zDk zD_26_ok 27 rfl) e43 ?_
      obtain ⟨v44, e44, h⟩ := zS_bind h
      refine E_virI (pc := 44) (c := 14) (r := r0) (as := [.inl v43]) (rest := [.inl y3, .inl (60 : Int), .inl y2]) (zDk zD_26_ok 28 rfl) zc_26 (by decide +kernel) zk_14 ⟨(Nat.le_of_ble_eq_true rfl), rfl, rfl⟩ (Nat.le_of_ble_eq_true rfl) (zr_14 _) (Nat.lt_of_lt_of_le (by decide) hq) (by rw [zm_14]; exact (Nat.le_of_ble_eq_true rfl)) ⟨zc_14, by decide⟩ hr0 (ok_lD_inkAt ⟨v44, e44, ?_⟩)
      refine W_iadd (pc := 47) (zDk zD_26_ok 29 rfl) ?_
      refine W_min (pc := 48) (zDk zD_26_ok 30 rfl) zc_26 (by decide +kernel) (Nat.le_of_ble_eq_true rfl) (Nat.lt_of_lt_of_le (by decide) hq) ?_
      refine E_iload_n (pc := 51) (zDk zD_26_ok 31 rfl) rfl ?_
      refine W_isub (pc := 52) (zDk zD_26_ok 32 rfl) ?_
      refine W_iadd (pc := 53) (zDk zD_26_ok 33 rfl) ?_
      refine W_istore_n (pc := 54) (L' := [some (.inr (.inr r0)), some (.inl x1), some (.inl (w32 (y2 + (w32 ((zmin (60 : Int) (w32 (y3 + v44))) - y3))))), some (.inl y3), some (.inl y4), some (.inl (w32 ((w32 (y4 * (5 : Int))) + x1)))]) (zDk zD_26_ok 34 rfl) zm_26 (by decide) rfl ?_
      refine E_iconst (pc := 55) (zDk zD_26_ok 35 rfl) (by decide +kernel) ?_
      refine E_aload_n (pc := 56) (zDk zD_26_ok 36 rfl) rfl ?_
      refine E_getR (pc := 57) (ci := 1) (f := 6) (r := (r0 + 6)) (zDk zD_26_ok 37 rfl) zc_26 (by decide +kernel) (by decide) hr0 (zg_1_6 hr0) (zh_1_6 hr0) ?_
      refine E_iload (pc := 60) (zDk zD_26_ok 38 rfl) rfl ?_
      obtain ⟨v62, e62, h⟩ := zS_bind h
      refine E_iaload (pc := 62) (zDk zD_26_ok 39 rfl) e62 ?_
      refine E_iconst (pc := 63) (zDk zD_26_ok 40 rfl) (by decide +kernel) ?_
      refine W_isub (pc := 64) (zDk zD_26_ok 41 rfl) ?_
      refine W_max (pc := 65) (zDk zD_26_ok 42 rfl) zc_26 (by decide +kernel) (Nat.le_of_ble_eq_true rfl) (Nat.lt_of_lt_of_le (by decide) hq) ?_
      refine W_istore_n (pc := 68) (L' := [some (.inr (.inr r0)), some (.inl x1), some (.inl (w32 (y2 + (w32 ((zmin (60 : Int) (w32 (y3 + v44))) - y3))))), some (.inl (zmax (0 : Int) (w32 (v62 - (1 : Int))))), some (.inl y4), some (.inl (w32 ((w32 (y4 * (5 : Int))) + x1)))]) (zDk zD_26_ok 43 rfl) zm_26 (by decide) rfl ?_
      refine W_iinc (pc := 69) (L' := [some (.inr (.inr r0)), some (.inl x1), some (.inl (w32 (y2 + (w32 ((zmin (60 : Int) (w32 (y3 + v44))) - y3))))), some (.inl (zmax (0 : Int) (w32 (v62 - (1 : Int))))), some (.inl (w32 (y4 + 1))), some (.inl (w32 ((w32 (y4 * (5 : Int))) + x1)))]) (zDk zD_26_ok 44 rfl) rfl zm_26 (by decide) rfl ?_
      refine E_goto (pc := 72) (t := 12) (zDk zD_26_ok 45 rfl) rfl ?_
      exact (ih) (w32 (y2 + (w32 ((zmin (60 : Int) (w32 (y3 + v44))) - y3)))) (zmax (0 : Int) (w32 (v62 - (1 : Int)))) (w32 (y4 + 1)) (some (.inl (w32 ((w32 (y4 * (5 : Int))) + x1)))) h
def lD_inkDrunk (r0 : Nat) (x1 : Int) (M : Nat → Nat → Int) : Option Int :=
    (if zis 1 r0 = true then
    ((rdI (r0 + 4) x1 M).bind (fun v7 =>
    (lD_inkDrunk_c12 r0 x1 M zN (0 : Int) v7 (0 : Int))))
    else none)
set_option maxRecDepth 100000 in
theorem ok_lD_inkDrunk {sc : zSc} {r0 : Nat} {x1 : Int} {M : Nat → Nat → Int} {P : Int → (Nat → Nat → Int) → Prop} (h : zS (lD_inkDrunk r0 x1 M) (fun x => P x M)) : zCi sc 26 [.inr (.inr r0), .inl x1] M P := by
  have ea : zarg (zml 26) [.inr (.inr r0), .inl x1] = [some (.inr (.inr r0)), some (.inl x1), none, none, none, none] := by rw [zm_26]; rfl
  unfold zCi zCw
  rw [ea, zr_26]
  have hq : 1 ≤ 1 := Nat.le_refl _
  unfold lD_inkDrunk at h
  have h := zS_mono h (fun x hx => (⟨x, rfl, hx⟩ : ∃ y, (some (.inl x) : Option zV) = some (.inl y) ∧ P y M))
  obtain ⟨hr0, h⟩ := zS_c h
  skip
  refine E_iconst (pc := 0) (zDk zD_26_ok 0 rfl) (by decide +kernel) ?_
  refine W_istore_n (pc := 1) (L' := [some (.inr (.inr r0)), some (.inl x1), some (.inl (0 : Int)), none, none, none]) (zDk zD_26_ok 1 rfl) zm_26 (by decide) rfl ?_
  refine E_aload_n (pc := 2) (zDk zD_26_ok 2 rfl) rfl ?_
  refine E_getR (pc := 3) (ci := 1) (f := 4) (r := (r0 + 4)) (zDk zD_26_ok 3 rfl) zc_26 (by decide +kernel) (by decide) hr0 (zg_1_4 hr0) (zh_1_4 hr0) ?_
  refine E_iload_n (pc := 6) (zDk zD_26_ok 4 rfl) rfl ?_
  obtain ⟨v7, e7, h⟩ := zS_bind h
  refine E_iaload (pc := 7) (zDk zD_26_ok 5 rfl) e7 ?_
  refine W_istore_n (pc := 8) (L' := [some (.inr (.inr r0)), some (.inl x1), some (.inl (0 : Int)), some (.inl v7), none, none]) (zDk zD_26_ok 6 rfl) zm_26 (by decide) rfl ?_
  refine E_iconst (pc := 9) (zDk zD_26_ok 7 rfl) (by decide +kernel) ?_
  refine W_istore (pc := 10) (L' := [some (.inr (.inr r0)), some (.inl x1), some (.inl (0 : Int)), some (.inl v7), some (.inl (0 : Int)), none]) (zDk zD_26_ok 8 rfl) zm_26 (by decide) rfl ?_
  exact ok_lD_inkDrunk_c12 hq r0 x1 hr0 M zN (0 : Int) v7 (0 : Int) none h
def zD_29 : List (Nat × Instr × Nat) := [(0, .iconst (0), 1), (1, .istore_n (2), 1), (2, .iload_n (2), 1), (3, .aload_n (0), 1), (4, .getfield (38), 3), (7, .getfield (78), 3), (10, .if_icmp .gt (21), 3), (13, .aload_n (0), 1), (14, .iload_n (1), 1), (15, .iload_n (2), 1), (16, .invokevirtual (142), 3), (19, .iconst (-1), 1), (20, .if_icmp .eq (5), 3), (23, .iload_n (2), 1), (24, .ireturn, 1), (25, .iinc (2) (1), 3), (28, .goto (-26), 3), (31, .iconst (-1), 1), (32, .ireturn, 1)]
set_option maxRecDepth 100000 in
theorem zD_29_ok : zDo 29 zD_29 = true := by decide +kernel
theorem zc_29 : zcls 29 = 1 := by decide +kernel
theorem zm_29 : zml 29 = 3 := by decide +kernel
theorem zt_29 : zrt 29 = (some (.int)) := by decide +kernel
theorem zk_29 : zkd 29 = 1 ∧ znp 29 + 1 = 2 := by decide +kernel
theorem zr_29 (as : List zV) : zrk 29 as = 1 := by unfold zrk; rw [if_neg (by decide)]; decide +kernel
def lD_firstTogether_c2 (r0 : Nat) (x1 : Int) (M : Nat → Nat → Int) : Nat → Int → Option Int
  | 0, _ => none
  | n + 1, y2 =>
    (if (M 3 1) < y2 then
    (some (-1 : Int))
    else
    ((lD_cornerOfAll r0 x1 y2 M).bind (fun v16 =>
    (if v16 = (-1 : Int) then
    ((lD_firstTogether_c2 r0 x1 M n) (w32 (y2 + 1)))
    else
    (some y2)))))
set_option maxRecDepth 100000 in
theorem ok_lD_firstTogether_c2 {sc : zSc} {q : Nat} {P : Option zV → (Nat → Nat → Int) → Prop} (hq : 1 ≤ q) (r0 : Nat) (x1 : Int) (hr0 : zis 1 r0 = true) (M : Nat → Nat → Int) : ∀ (n : Nat) (y2 : Int), zS (lD_firstTogether_c2 r0 x1 M n y2) (fun x => P (some (.inl x)) M) → zWp sc q 29 2 [some (.inr (.inr r0)), some (.inl x1), some (.inl y2)] [] M P := by
  intro n
  induction n with
  | zero => intro y2 h; exact (zS_none h).elim
  | succ n ih =>
    intro y2 h
    rw [lD_firstTogether_c2] at h
    refine E_iload_n (pc := 2) (zDk zD_29_ok 2 rfl) rfl ?_
    refine E_aload_n (pc := 3) (zDk zD_29_ok 3 rfl) rfl ?_
    refine E_getR (pc := 4) (ci := 1) (f := 0) (r := 3) (zDk zD_29_ok 4 rfl) zc_29 (by decide +kernel) (by decide) hr0 (zg_1_0 hr0) (by decide) ?_
    refine E_getI (pc := 7) (ci := 6) (f := 1) (zDk zD_29_ok 5 rfl) zc_29 (by decide +kernel) (by decide) zis_6_3 ?_
    refine E_icmp (pc := 10) (t := 31) (zDk zD_29_ok 6 rfl) rfl (fun hz => ?_) (fun hz => ?_)
    · have h := zS_t h (T_gt hz)
      refine E_iconst (pc := 31) (zDk zD_29_ok 17 rfl) (by decide +kernel) ?_
      have h := zS_some h
      exact E_ireturn (pc := 32) (zDk zD_29_ok 18 rfl) zt_29 h
    · have h := zS_f h (Int.not_lt.mpr (F_gt hz))
      refine E_aload_n (pc := 13) (zDk zD_29_ok 7 rfl) rfl ?_
      refine E_iload_n (pc := 14) (zDk zD_29_ok 8 rfl) rfl ?_
      refine E_iload_n (pc := 15) (zDk zD_29_ok 9 rfl) rfl ?_
      obtain ⟨v16, e16, h⟩ := zS_bind h
      refine E_virI (pc := 16) (c := 18) (r := r0) (as := [.inl x1, .inl y2]) (rest := []) (zDk zD_29_ok 10 rfl) zc_29 (by decide +kernel) zk_18 ⟨(Nat.le_of_ble_eq_true rfl), rfl, rfl⟩ (Nat.le_of_ble_eq_true rfl) (zr_18 _) (Nat.lt_of_lt_of_le (by decide) hq) (by rw [zm_18]; exact (Nat.le_of_ble_eq_true rfl)) ⟨zc_18, by decide⟩ hr0 (ok_lD_cornerOfAll ⟨v16, e16, ?_⟩)
      refine E_iconst (pc := 19) (zDk zD_29_ok 11 rfl) (by decide +kernel) ?_
      refine E_icmp (pc := 20) (t := 25) (zDk zD_29_ok 12 rfl) rfl (fun hz => ?_) (fun hz => ?_)
      · have h := zS_t h (T_eq hz)
        refine W_iinc (pc := 25) (L' := [some (.inr (.inr r0)), some (.inl x1), some (.inl (w32 (y2 + 1)))]) (zDk zD_29_ok 15 rfl) rfl zm_29 (by decide) rfl ?_
        refine E_goto (pc := 28) (t := 2) (zDk zD_29_ok 16 rfl) rfl ?_
        exact (ih) (w32 (y2 + 1)) h
      · have h := zS_f h (F_eq hz)
        refine E_iload_n (pc := 23) (zDk zD_29_ok 13 rfl) rfl ?_
        have h := zS_some h
        exact E_ireturn (pc := 24) (zDk zD_29_ok 14 rfl) zt_29 h
def lD_firstTogether (r0 : Nat) (x1 : Int) (M : Nat → Nat → Int) : Option Int :=
    (if zis 1 r0 = true then
    (lD_firstTogether_c2 r0 x1 M zN (0 : Int))
    else none)
set_option maxRecDepth 100000 in
theorem ok_lD_firstTogether {sc : zSc} {r0 : Nat} {x1 : Int} {M : Nat → Nat → Int} {P : Int → (Nat → Nat → Int) → Prop} (h : zS (lD_firstTogether r0 x1 M) (fun x => P x M)) : zCi sc 29 [.inr (.inr r0), .inl x1] M P := by
  have ea : zarg (zml 29) [.inr (.inr r0), .inl x1] = [some (.inr (.inr r0)), some (.inl x1), none] := by rw [zm_29]; rfl
  unfold zCi zCw
  rw [ea, zr_29]
  have hq : 1 ≤ 1 := Nat.le_refl _
  unfold lD_firstTogether at h
  have h := zS_mono h (fun x hx => (⟨x, rfl, hx⟩ : ∃ y, (some (.inl x) : Option zV) = some (.inl y) ∧ P y M))
  obtain ⟨hr0, h⟩ := zS_c h
  skip
  refine E_iconst (pc := 0) (zDk zD_29_ok 0 rfl) (by decide +kernel) ?_
  refine W_istore_n (pc := 1) (L' := [some (.inr (.inr r0)), some (.inl x1), some (.inl (0 : Int))]) (zDk zD_29_ok 1 rfl) zm_29 (by decide) rfl ?_
  exact ok_lD_firstTogether_c2 hq r0 x1 hr0 M zN (0 : Int) h
def zD_30 : List (Nat × Instr × Nat) := [(0, .iconst (0), 1), (1, .istore_n (2), 1), (2, .iconst (0), 1), (3, .istore_n (3), 1), (4, .iload_n (3), 1), (5, .aload_n (0), 1), (6, .getfield (38), 3), (9, .getfield (78), 3), (12, .if_icmp .gt (22), 3), (15, .aload_n (0), 1), (16, .iload_n (1), 1), (17, .iload_n (3), 1), (18, .invokevirtual (142), 3), (21, .iconst (-1), 1), (22, .if_icmp .eq (6), 3), (25, .iinc (2) (1), 3), (28, .iinc (3) (1), 3), (31, .goto (-27), 3), (34, .iload_n (2), 1), (35, .ireturn, 1)]
set_option maxRecDepth 100000 in
theorem zD_30_ok : zDo 30 zD_30 = true := by decide +kernel
theorem zc_30 : zcls 30 = 1 := by decide +kernel
theorem zm_30 : zml 30 = 4 := by decide +kernel
theorem zt_30 : zrt 30 = (some (.int)) := by decide +kernel
theorem zk_30 : zkd 30 = 1 ∧ znp 30 + 1 = 2 := by decide +kernel
theorem zr_30 (as : List zV) : zrk 30 as = 1 := by unfold zrk; rw [if_neg (by decide)]; decide +kernel
def lD_stepsTogether_c4 (r0 : Nat) (x1 : Int) (M : Nat → Nat → Int) : Nat → Int → Int → Option Int
  | 0, _, _ => none
  | n + 1, y2, y3 =>
    (if (M 3 1) < y3 then
    (some y2)
    else
    ((lD_cornerOfAll r0 x1 y3 M).bind (fun v18 =>
    (if v18 = (-1 : Int) then
    ((lD_stepsTogether_c4 r0 x1 M n) y2 (w32 (y3 + 1)))
    else
    ((lD_stepsTogether_c4 r0 x1 M n) (w32 (y2 + 1)) (w32 (y3 + 1)))))))
set_option maxRecDepth 100000 in
theorem ok_lD_stepsTogether_c4 {sc : zSc} {q : Nat} {P : Option zV → (Nat → Nat → Int) → Prop} (hq : 1 ≤ q) (r0 : Nat) (x1 : Int) (hr0 : zis 1 r0 = true) (M : Nat → Nat → Int) : ∀ (n : Nat) (y2 : Int) (y3 : Int), zS (lD_stepsTogether_c4 r0 x1 M n y2 y3) (fun x => P (some (.inl x)) M) → zWp sc q 30 4 [some (.inr (.inr r0)), some (.inl x1), some (.inl y2), some (.inl y3)] [] M P := by
  intro n
  induction n with
  | zero => intro y2 y3 h; exact (zS_none h).elim
  | succ n ih =>
    intro y2 y3 h
    rw [lD_stepsTogether_c4] at h
    refine E_iload_n (pc := 4) (zDk zD_30_ok 4 rfl) rfl ?_
    refine E_aload_n (pc := 5) (zDk zD_30_ok 5 rfl) rfl ?_
    refine E_getR (pc := 6) (ci := 1) (f := 0) (r := 3) (zDk zD_30_ok 6 rfl) zc_30 (by decide +kernel) (by decide) hr0 (zg_1_0 hr0) (by decide) ?_
    refine E_getI (pc := 9) (ci := 6) (f := 1) (zDk zD_30_ok 7 rfl) zc_30 (by decide +kernel) (by decide) zis_6_3 ?_
    refine E_icmp (pc := 12) (t := 34) (zDk zD_30_ok 8 rfl) rfl (fun hz => ?_) (fun hz => ?_)
    · have h := zS_t h (T_gt hz)
      refine E_iload_n (pc := 34) (zDk zD_30_ok 18 rfl) rfl ?_
      have h := zS_some h
      exact E_ireturn (pc := 35) (zDk zD_30_ok 19 rfl) zt_30 h
    · have h := zS_f h (Int.not_lt.mpr (F_gt hz))
      refine E_aload_n (pc := 15) (zDk zD_30_ok 9 rfl) rfl ?_
      refine E_iload_n (pc := 16) (zDk zD_30_ok 10 rfl) rfl ?_
      refine E_iload_n (pc := 17) (zDk zD_30_ok 11 rfl) rfl ?_
      obtain ⟨v18, e18, h⟩ := zS_bind h
      refine E_virI (pc := 18) (c := 18) (r := r0) (as := [.inl x1, .inl y3]) (rest := []) (zDk zD_30_ok 12 rfl) zc_30 (by decide +kernel) zk_18 ⟨(Nat.le_of_ble_eq_true rfl), rfl, rfl⟩ (Nat.le_of_ble_eq_true rfl) (zr_18 _) (Nat.lt_of_lt_of_le (by decide) hq) (by rw [zm_18]; exact (Nat.le_of_ble_eq_true rfl)) ⟨zc_18, by decide⟩ hr0 (ok_lD_cornerOfAll ⟨v18, e18, ?_⟩)
      refine E_iconst (pc := 21) (zDk zD_30_ok 13 rfl) (by decide +kernel) ?_
      refine E_icmp (pc := 22) (t := 28) (zDk zD_30_ok 14 rfl) rfl (fun hz => ?_) (fun hz => ?_)
      · have h := zS_t h (T_eq hz)
        refine W_iinc (pc := 28) (L' := [some (.inr (.inr r0)), some (.inl x1), some (.inl y2), some (.inl (w32 (y3 + 1)))]) (zDk zD_30_ok 16 rfl) rfl zm_30 (by decide) rfl ?_
        refine E_goto (pc := 31) (t := 4) (zDk zD_30_ok 17 rfl) rfl ?_
        exact (ih) y2 (w32 (y3 + 1)) h
      · have h := zS_f h (F_eq hz)
        refine W_iinc (pc := 25) (L' := [some (.inr (.inr r0)), some (.inl x1), some (.inl (w32 (y2 + 1))), some (.inl y3)]) (zDk zD_30_ok 15 rfl) rfl zm_30 (by decide) rfl ?_
        refine W_iinc (pc := 28) (L' := [some (.inr (.inr r0)), some (.inl x1), some (.inl (w32 (y2 + 1))), some (.inl (w32 (y3 + 1)))]) (zDk zD_30_ok 16 rfl) rfl zm_30 (by decide) rfl ?_
        refine E_goto (pc := 31) (t := 4) (zDk zD_30_ok 17 rfl) rfl ?_
        exact (ih) (w32 (y2 + 1)) (w32 (y3 + 1)) h
def lD_stepsTogether (r0 : Nat) (x1 : Int) (M : Nat → Nat → Int) : Option Int :=
    (if zis 1 r0 = true then
    (lD_stepsTogether_c4 r0 x1 M zN (0 : Int) (0 : Int))
    else none)
set_option maxRecDepth 100000 in
theorem ok_lD_stepsTogether {sc : zSc} {r0 : Nat} {x1 : Int} {M : Nat → Nat → Int} {P : Int → (Nat → Nat → Int) → Prop} (h : zS (lD_stepsTogether r0 x1 M) (fun x => P x M)) : zCi sc 30 [.inr (.inr r0), .inl x1] M P := by
  have ea : zarg (zml 30) [.inr (.inr r0), .inl x1] = [some (.inr (.inr r0)), some (.inl x1), none, none] := by rw [zm_30]; rfl
  unfold zCi zCw
  rw [ea, zr_30]
  have hq : 1 ≤ 1 := Nat.le_refl _
  unfold lD_stepsTogether at h
  have h := zS_mono h (fun x hx => (⟨x, rfl, hx⟩ : ∃ y, (some (.inl x) : Option zV) = some (.inl y) ∧ P y M))
  obtain ⟨hr0, h⟩ := zS_c h
  skip
  refine E_iconst (pc := 0) (zDk zD_30_ok 0 rfl) (by decide +kernel) ?_
  refine W_istore_n (pc := 1) (L' := [some (.inr (.inr r0)), some (.inl x1), some (.inl (0 : Int)), none]) (zDk zD_30_ok 1 rfl) zm_30 (by decide) rfl ?_
  refine E_iconst (pc := 2) (zDk zD_30_ok 2 rfl) (by decide +kernel) ?_
  refine W_istore_n (pc := 3) (L' := [some (.inr (.inr r0)), some (.inl x1), some (.inl (0 : Int)), some (.inl (0 : Int))]) (zDk zD_30_ok 3 rfl) zm_30 (by decide) rfl ?_
  exact ok_lD_stepsTogether_c4 hq r0 x1 hr0 M zN (0 : Int) (0 : Int) h
def zD_31 : List (Nat × Instr × Nat) := [(0, .iconst (0), 1), (1, .istore_n (1), 1), (2, .iconst (0), 1), (3, .istore_n (2), 1), (4, .iload_n (2), 1), (5, .aload_n (0), 1), (6, .getfield (38), 3), (9, .getfield (78), 3), (12, .if_icmp .gt (42), 3), (15, .iconst (0), 1), (16, .istore_n (3), 1), (17, .iload_n (3), 1), (18, .aload_n (0), 1), (19, .getfield (38), 3), (22, .getfield (159), 3), (25, .if_icmp .ge (23), 3), (28, .iload_n (1), 1), (29, .aload_n (0), 1), (30, .iload_n (3), 1), (31, .iload_n (2), 1), (32, .invokevirtual (148), 3), (35, .invokestatic (85), 3), (38, .invokestatic (113), 3), (41, .istore_n (1), 1), (42, .iinc (3) (1), 3), (45, .goto (-28), 3), (48, .iinc (2) (1), 3), (51, .goto (-47), 3), (54, .iload_n (1), 1), (55, .ireturn, 1)]
set_option maxRecDepth 100000 in
theorem zD_31_ok : zDo 31 zD_31 = true := by decide +kernel
theorem zc_31 : zcls 31 = 1 := by decide +kernel
theorem zm_31 : zml 31 = 4 := by decide +kernel
theorem zt_31 : zrt 31 = (some (.int)) := by decide +kernel
theorem zk_31 : zkd 31 = 1 ∧ znp 31 + 1 = 1 := by decide +kernel
theorem zr_31 (as : List zV) : zrk 31 as = 1 := by unfold zrk; rw [if_neg (by decide)]; decide +kernel
def lD_largestPack_c17 (r0 : Nat) (M : Nat → Nat → Int) (h4 : Int → Int → Option Int) : Nat → Int → Int → Int → Option Int
  | 0, _, _, _ => none
  | n + 1, y1, y2, y3 =>
    (if y3 < (M 3 0) then
    ((lD_namesAt r0 y3 y2 M).bind (fun v32 =>
    ((lJ_bitCount v32 M).bind (fun v35 =>
    ((lD_largestPack_c17 r0 M h4 n) (zmax y1 v35) y2 (w32 (y3 + 1)))))))
    else
    (h4 y1 (w32 (y2 + 1))))
set_option maxRecDepth 100000 in
theorem ok_lD_largestPack_c17 {sc : zSc} {q : Nat} {P : Option zV → (Nat → Nat → Int) → Prop} (hq : 1 ≤ q) (r0 : Nat) (hr0 : zis 1 r0 = true) (M : Nat → Nat → Int) (h4 : Int → Int → Option Int) (H4 : ∀ (y1 : Int) (y2 : Int) (d3 : Option zV), zS (h4 y1 y2) (fun x => P (some (.inl x)) M) → zWp sc q 31 4 [some (.inr (.inr r0)), some (.inl y1), some (.inl y2), d3] [] M P) : ∀ (n : Nat) (y1 : Int) (y2 : Int) (y3 : Int), zS (lD_largestPack_c17 r0 M h4 n y1 y2 y3) (fun x => P (some (.inl x)) M) → zWp sc q 31 17 [some (.inr (.inr r0)), some (.inl y1), some (.inl y2), some (.inl y3)] [] M P := by
  intro n
  induction n with
  | zero => intro y1 y2 y3 h; exact (zS_none h).elim
  | succ n ih =>
    intro y1 y2 y3 h
    rw [lD_largestPack_c17] at h
    refine E_iload_n (pc := 17) (zDk zD_31_ok 11 rfl) rfl ?_
    refine E_aload_n (pc := 18) (zDk zD_31_ok 12 rfl) rfl ?_
    refine E_getR (pc := 19) (ci := 1) (f := 0) (r := 3) (zDk zD_31_ok 13 rfl) zc_31 (by decide +kernel) (by decide) hr0 (zg_1_0 hr0) (by decide) ?_
    refine E_getI (pc := 22) (ci := 6) (f := 0) (zDk zD_31_ok 14 rfl) zc_31 (by decide +kernel) (by decide) zis_6_3 ?_
    refine E_icmp (pc := 25) (t := 48) (zDk zD_31_ok 15 rfl) rfl (fun hz => ?_) (fun hz => ?_)
    · have h := zS_f h (Int.not_lt.mpr (T_ge hz))
      refine W_iinc (pc := 48) (L' := [some (.inr (.inr r0)), some (.inl y1), some (.inl (w32 (y2 + 1))), some (.inl y3)]) (zDk zD_31_ok 26 rfl) rfl zm_31 (by decide) rfl ?_
      refine E_goto (pc := 51) (t := 4) (zDk zD_31_ok 27 rfl) rfl ?_
      exact H4 y1 (w32 (y2 + 1)) (some (.inl y3)) h
    · have h := zS_t h (F_ge hz)
      refine E_iload_n (pc := 28) (zDk zD_31_ok 16 rfl) rfl ?_
      refine E_aload_n (pc := 29) (zDk zD_31_ok 17 rfl) rfl ?_
      refine E_iload_n (pc := 30) (zDk zD_31_ok 18 rfl) rfl ?_
      refine E_iload_n (pc := 31) (zDk zD_31_ok 19 rfl) rfl ?_
      obtain ⟨v32, e32, h⟩ := zS_bind h
      refine E_virI (pc := 32) (c := 20) (r := r0) (as := [.inl y3, .inl y2]) (rest := [.inl y1]) (zDk zD_31_ok 20 rfl) zc_31 (by decide +kernel) zk_20 ⟨(Nat.le_of_ble_eq_true rfl), rfl, rfl⟩ (Nat.le_of_ble_eq_true rfl) (zr_20 _) (Nat.lt_of_lt_of_le (by decide) hq) (by rw [zm_20]; exact (Nat.le_of_ble_eq_true rfl)) ⟨zc_20, by decide⟩ hr0 (ok_lD_namesAt ⟨v32, e32, ?_⟩)
      obtain ⟨v35, e35, h⟩ := zS_bind h
      refine E_staI (pc := 35) (c := 321) (as := [.inl v32]) (rest := [.inl y1]) (zDk zD_31_ok 21 rfl) zc_31 (by decide +kernel) (by decide +kernel) zk_321 ⟨(Nat.le_of_ble_eq_true rfl), rfl, rfl⟩ (Nat.le_of_ble_eq_true rfl) (zr_321 _) (Nat.lt_of_lt_of_le (by decide) hq) (by rw [zm_321]; exact (Nat.le_of_ble_eq_true rfl)) (ok_lJ_bitCount ⟨v35, e35, ?_⟩)
      refine W_max (pc := 38) (zDk zD_31_ok 22 rfl) zc_31 (by decide +kernel) (Nat.le_of_ble_eq_true rfl) (Nat.lt_of_lt_of_le (by decide) hq) ?_
      refine W_istore_n (pc := 41) (L' := [some (.inr (.inr r0)), some (.inl (zmax y1 v35)), some (.inl y2), some (.inl y3)]) (zDk zD_31_ok 23 rfl) zm_31 (by decide) rfl ?_
      refine W_iinc (pc := 42) (L' := [some (.inr (.inr r0)), some (.inl (zmax y1 v35)), some (.inl y2), some (.inl (w32 (y3 + 1)))]) (zDk zD_31_ok 24 rfl) rfl zm_31 (by decide) rfl ?_
      refine E_goto (pc := 45) (t := 17) (zDk zD_31_ok 25 rfl) rfl ?_
      exact (ih) (zmax y1 v35) y2 (w32 (y3 + 1)) h
def lD_largestPack_c4 (r0 : Nat) (M : Nat → Nat → Int) : Nat → Int → Int → Option Int
  | 0, _, _ => none
  | n + 1, y1, y2 =>
    (if (M 3 1) < y2 then
    (some y1)
    else
    (lD_largestPack_c17 r0 M (lD_largestPack_c4 r0 M n) zN y1 y2 (0 : Int)))
set_option maxRecDepth 100000 in
theorem ok_lD_largestPack_c4 {sc : zSc} {q : Nat} {P : Option zV → (Nat → Nat → Int) → Prop} (hq : 1 ≤ q) (r0 : Nat) (hr0 : zis 1 r0 = true) (M : Nat → Nat → Int) : ∀ (n : Nat) (y1 : Int) (y2 : Int) (d3 : Option zV), zS (lD_largestPack_c4 r0 M n y1 y2) (fun x => P (some (.inl x)) M) → zWp sc q 31 4 [some (.inr (.inr r0)), some (.inl y1), some (.inl y2), d3] [] M P := by
  intro n
  induction n with
  | zero => intro y1 y2 d3 h; exact (zS_none h).elim
  | succ n ih =>
    intro y1 y2 d3 h
    rw [lD_largestPack_c4] at h
    refine E_iload_n (pc := 4) (zDk zD_31_ok 4 rfl) rfl ?_
    refine E_aload_n (pc := 5) (zDk zD_31_ok 5 rfl) rfl ?_
    refine E_getR (pc := 6) (ci := 1) (f := 0) (r := 3) (zDk zD_31_ok 6 rfl) zc_31 (by decide +kernel) (by decide) hr0 (zg_1_0 hr0) (by decide) ?_
    refine E_getI (pc := 9) (ci := 6) (f := 1) (zDk zD_31_ok 7 rfl) zc_31 (by decide +kernel) (by decide) zis_6_3 ?_
    refine E_icmp (pc := 12) (t := 54) (zDk zD_31_ok 8 rfl) rfl (fun hz => ?_) (fun hz => ?_)
    · have h := zS_t h (T_gt hz)
      refine E_iload_n (pc := 54) (zDk zD_31_ok 28 rfl) rfl ?_
      have h := zS_some h
      exact E_ireturn (pc := 55) (zDk zD_31_ok 29 rfl) zt_31 h
    · have h := zS_f h (Int.not_lt.mpr (F_gt hz))
      refine E_iconst (pc := 15) (zDk zD_31_ok 9 rfl) (by decide +kernel) ?_
      refine W_istore_n (pc := 16) (L' := [some (.inr (.inr r0)), some (.inl y1), some (.inl y2), some (.inl (0 : Int))]) (zDk zD_31_ok 10 rfl) zm_31 (by decide) rfl ?_
      exact ok_lD_largestPack_c17 hq r0 hr0 M (lD_largestPack_c4 r0 M n) (ih) zN y1 y2 (0 : Int) h
def lD_largestPack (r0 : Nat) (M : Nat → Nat → Int) : Option Int :=
    (if zis 1 r0 = true then
    (lD_largestPack_c4 r0 M zN (0 : Int) (0 : Int))
    else none)
set_option maxRecDepth 100000 in
theorem ok_lD_largestPack {sc : zSc} {r0 : Nat} {M : Nat → Nat → Int} {P : Int → (Nat → Nat → Int) → Prop} (h : zS (lD_largestPack r0 M) (fun x => P x M)) : zCi sc 31 [.inr (.inr r0)] M P := by
  have ea : zarg (zml 31) [.inr (.inr r0)] = [some (.inr (.inr r0)), none, none, none] := by rw [zm_31]; rfl
  unfold zCi zCw
  rw [ea, zr_31]
  have hq : 1 ≤ 1 := Nat.le_refl _
  unfold lD_largestPack at h
  have h := zS_mono h (fun x hx => (⟨x, rfl, hx⟩ : ∃ y, (some (.inl x) : Option zV) = some (.inl y) ∧ P y M))
  obtain ⟨hr0, h⟩ := zS_c h
  skip
  refine E_iconst (pc := 0) (zDk zD_31_ok 0 rfl) (by decide +kernel) ?_
  refine W_istore_n (pc := 1) (L' := [some (.inr (.inr r0)), some (.inl (0 : Int)), none, none]) (zDk zD_31_ok 1 rfl) zm_31 (by decide) rfl ?_
  refine E_iconst (pc := 2) (zDk zD_31_ok 2 rfl) (by decide +kernel) ?_
  refine W_istore_n (pc := 3) (L' := [some (.inr (.inr r0)), some (.inl (0 : Int)), some (.inl (0 : Int)), none]) (zDk zD_31_ok 3 rfl) zm_31 (by decide) rfl ?_
  exact ok_lD_largestPack_c4 hq r0 hr0 M zN (0 : Int) (0 : Int) none h
def zD_32 : List (Nat × Instr × Nat) := [(0, .iconst (0), 1), (1, .istore_n (1), 1), (2, .iconst (-1), 1), (3, .istore_n (2), 1), (4, .iconst (0), 1), (5, .istore_n (3), 1), (6, .iload_n (3), 1), (7, .aload_n (0), 1), (8, .getfield (38), 3), (11, .getfield (159), 3), (14, .if_icmp .ge (59), 3), (17, .iconst (0), 1), (18, .istore (4), 2), (20, .iconst (0), 1), (21, .istore (5), 2), (23, .iload (5), 2), (25, .aload_n (0), 1), (26, .getfield (38), 3), (29, .getfield (78), 3), (32, .if_icmp .gt (24), 3), (35, .iload (4), 2), (37, .aload_n (0), 1), (38, .iload_n (3), 1), (39, .iload (5), 2), (41, .invokevirtual (148), 3), (44, .invokestatic (85), 3), (47, .iadd, 1), (48, .istore (4), 2), (50, .iinc (5) (1), 3), (53, .goto (-30), 3), (56, .iload (4), 2), (58, .iload_n (2), 1), (59, .if_icmp .le (8), 3), (62, .iload_n (3), 1), (63, .istore_n (1), 1), (64, .iload (4), 2), (66, .istore_n (2), 1), (67, .iinc (3) (1), 3), (70, .goto (-64), 3), (73, .iload_n (1), 1), (74, .ireturn, 1)]
set_option maxRecDepth 100000 in
theorem zD_32_ok : zDo 32 zD_32 = true := by decide +kernel
theorem zc_32 : zcls 32 = 1 := by decide +kernel
theorem zm_32 : zml 32 = 6 := by decide +kernel
theorem zt_32 : zrt 32 = (some (.int)) := by decide +kernel
theorem zk_32 : zkd 32 = 1 ∧ znp 32 + 1 = 1 := by decide +kernel
theorem zr_32 (as : List zV) : zrk 32 as = 1 := by unfold zrk; rw [if_neg (by decide)]; decide +kernel
def lD_busiestCorner_c23 (r0 : Nat) (M : Nat → Nat → Int) (h6 : Int → Int → Int → Option Int) : Nat → Int → Int → Int → Int → Int → Option Int
  | 0, _, _, _, _, _ => none
  | n + 1, y1, y2, y3, y4, y5 =>
    (if (M 3 1) < y5 then
    (if y2 < y4 then
    (h6 y3 y4 (w32 (y3 + 1)))
    else
    (h6 y1 y2 (w32 (y3 + 1))))
    else
    ((lD_namesAt r0 y3 y5 M).bind (fun v41 =>
    ((lJ_bitCount v41 M).bind (fun v44 =>
    ((lD_busiestCorner_c23 r0 M h6 n) y1 y2 y3 (w32 (y4 + v44)) (w32 (y5 + 1))))))))
set_option maxRecDepth 100000 in
theorem ok_lD_busiestCorner_c23 {sc : zSc} {q : Nat} {P : Option zV → (Nat → Nat → Int) → Prop} (hq : 1 ≤ q) (r0 : Nat) (hr0 : zis 1 r0 = true) (M : Nat → Nat → Int) (h6 : Int → Int → Int → Option Int) (H6 : ∀ (y1 : Int) (y2 : Int) (y3 : Int) (d4 d5 : Option zV), zS (h6 y1 y2 y3) (fun x => P (some (.inl x)) M) → zWp sc q 32 6 [some (.inr (.inr r0)), some (.inl y1), some (.inl y2), some (.inl y3), d4, d5] [] M P) : ∀ (n : Nat) (y1 : Int) (y2 : Int) (y3 : Int) (y4 : Int) (y5 : Int), zS (lD_busiestCorner_c23 r0 M h6 n y1 y2 y3 y4 y5) (fun x => P (some (.inl x)) M) → zWp sc q 32 23 [some (.inr (.inr r0)), some (.inl y1), some (.inl y2), some (.inl y3), some (.inl y4), some (.inl y5)] [] M P := by
  intro n
  induction n with
  | zero => intro y1 y2 y3 y4 y5 h; exact (zS_none h).elim
  | succ n ih =>
    intro y1 y2 y3 y4 y5 h
    rw [lD_busiestCorner_c23] at h
    refine E_iload (pc := 23) (zDk zD_32_ok 15 rfl) rfl ?_
    refine E_aload_n (pc := 25) (zDk zD_32_ok 16 rfl) rfl ?_
    refine E_getR (pc := 26) (ci := 1) (f := 0) (r := 3) (zDk zD_32_ok 17 rfl) zc_32 (by decide +kernel) (by decide) hr0 (zg_1_0 hr0) (by decide) ?_
    refine E_getI (pc := 29) (ci := 6) (f := 1) (zDk zD_32_ok 18 rfl) zc_32 (by decide +kernel) (by decide) zis_6_3 ?_
    refine E_icmp (pc := 32) (t := 56) (zDk zD_32_ok 19 rfl) rfl (fun hz => ?_) (fun hz => ?_)
    · have h := zS_t h (T_gt hz)
      refine E_iload (pc := 56) (zDk zD_32_ok 30 rfl) rfl ?_
      refine E_iload_n (pc := 58) (zDk zD_32_ok 31 rfl) rfl ?_
      refine E_icmp (pc := 59) (t := 67) (zDk zD_32_ok 32 rfl) rfl (fun hz => ?_) (fun hz => ?_)
      · have h := zS_f h (Int.not_lt.mpr (T_le hz))
        refine W_iinc (pc := 67) (L' := [some (.inr (.inr r0)), some (.inl y1), some (.inl y2), some (.inl (w32 (y3 + 1))), some (.inl y4), some (.inl y5)]) (zDk zD_32_ok 37 rfl) rfl zm_32 (by decide) rfl ?_
        refine E_goto (pc := 70) (t := 6) (zDk zD_32_ok 38 rfl) rfl ?_
        exact H6 y1 y2 (w32 (y3 + 1)) (some (.inl y4)) (some (.inl y5)) h
      · have h := zS_t h (F_le hz)
        refine E_iload_n (pc := 62) (zDk zD_32_ok 33 rfl) rfl ?_
        refine W_istore_n (pc := 63) (L' := [some (.inr (.inr r0)), some (.inl y3), some (.inl y2), some (.inl y3), some (.inl y4), some (.inl y5)]) (zDk zD_32_ok 34 rfl) zm_32 (by decide) rfl ?_
        refine E_iload (pc := 64) (zDk zD_32_ok 35 rfl) rfl ?_
        refine W_istore_n (pc := 66) (L' := [some (.inr (.inr r0)), some (.inl y3), some (.inl y4), some (.inl y3), some (.inl y4), some (.inl y5)]) (zDk zD_32_ok 36 rfl) zm_32 (by decide) rfl ?_
        refine W_iinc (pc := 67) (L' := [some (.inr (.inr r0)), some (.inl y3), some (.inl y4), some (.inl (w32 (y3 + 1))), some (.inl y4), some (.inl y5)]) (zDk zD_32_ok 37 rfl) rfl zm_32 (by decide) rfl ?_
        refine E_goto (pc := 70) (t := 6) (zDk zD_32_ok 38 rfl) rfl ?_
        exact H6 y3 y4 (w32 (y3 + 1)) (some (.inl y4)) (some (.inl y5)) h
    · have h := zS_f h (Int.not_lt.mpr (F_gt hz))
      refine E_iload (pc := 35) (zDk zD_32_ok 20 rfl) rfl ?_
      refine E_aload_n (pc := 37) (zDk zD_32_ok 21 rfl) rfl ?_
      refine E_iload_n (pc := 38) (zDk zD_32_ok 22 rfl) rfl ?_
      refine E_iload (pc := 39) (zDk zD_32_ok 23 rfl) rfl ?_
      obtain ⟨v41, e41, h⟩ := zS_bind h
      refine E_virI (pc := 41) (c := 20) (r := r0) (as := [.inl y3, .inl y5]) (rest := [.inl y4]) (zDk zD_32_ok 24 rfl) zc_32 (by decide +kernel) zk_20 ⟨(Nat.le_of_ble_eq_true rfl), rfl, rfl⟩ (Nat.le_of_ble_eq_true rfl) (zr_20 _) (Nat.lt_of_lt_of_le (by decide) hq) (by rw [zm_20]; exact (Nat.le_of_ble_eq_true rfl)) ⟨zc_20, by decide⟩ hr0 (ok_lD_namesAt ⟨v41, e41, ?_⟩)
      obtain ⟨v44, e44, h⟩ := zS_bind h
      refine E_staI (pc := 44) (c := 321) (as := [.inl v41]) (rest := [.inl y4]) (zDk zD_32_ok 25 rfl) zc_32 (by decide +kernel) (by decide +kernel) zk_321 ⟨(Nat.le_of_ble_eq_true rfl), rfl, rfl⟩ (Nat.le_of_ble_eq_true rfl) (zr_321 _) (Nat.lt_of_lt_of_le (by decide) hq) (by rw [zm_321]; exact (Nat.le_of_ble_eq_true rfl)) (ok_lJ_bitCount ⟨v44, e44, ?_⟩)
      refine W_iadd (pc := 47) (zDk zD_32_ok 26 rfl) ?_
      refine W_istore (pc := 48) (L' := [some (.inr (.inr r0)), some (.inl y1), some (.inl y2), some (.inl y3), some (.inl (w32 (y4 + v44))), some (.inl y5)]) (zDk zD_32_ok 27 rfl) zm_32 (by decide) rfl ?_
      refine W_iinc (pc := 50) (L' := [some (.inr (.inr r0)), some (.inl y1), some (.inl y2), some (.inl y3), some (.inl (w32 (y4 + v44))), some (.inl (w32 (y5 + 1)))]) (zDk zD_32_ok 28 rfl) rfl zm_32 (by decide) rfl ?_
      refine E_goto (pc := 53) (t := 23) (zDk zD_32_ok 29 rfl) rfl ?_
      exact (ih) y1 y2 y3 (w32 (y4 + v44)) (w32 (y5 + 1)) h
def lD_busiestCorner_c6 (r0 : Nat) (M : Nat → Nat → Int) : Nat → Int → Int → Int → Option Int
  | 0, _, _, _ => none
  | n + 1, y1, y2, y3 =>
    (if y3 < (M 3 0) then
    (lD_busiestCorner_c23 r0 M (lD_busiestCorner_c6 r0 M n) zN y1 y2 y3 (0 : Int) (0 : Int))
    else
    (some y1))
set_option maxRecDepth 100000 in
theorem ok_lD_busiestCorner_c6 {sc : zSc} {q : Nat} {P : Option zV → (Nat → Nat → Int) → Prop} (hq : 1 ≤ q) (r0 : Nat) (hr0 : zis 1 r0 = true) (M : Nat → Nat → Int) : ∀ (n : Nat) (y1 : Int) (y2 : Int) (y3 : Int) (d4 d5 : Option zV), zS (lD_busiestCorner_c6 r0 M n y1 y2 y3) (fun x => P (some (.inl x)) M) → zWp sc q 32 6 [some (.inr (.inr r0)), some (.inl y1), some (.inl y2), some (.inl y3), d4, d5] [] M P := by
  intro n
  induction n with
  | zero => intro y1 y2 y3 d4 d5 h; exact (zS_none h).elim
  | succ n ih =>
    intro y1 y2 y3 d4 d5 h
    rw [lD_busiestCorner_c6] at h
    refine E_iload_n (pc := 6) (zDk zD_32_ok 6 rfl) rfl ?_
    refine E_aload_n (pc := 7) (zDk zD_32_ok 7 rfl) rfl ?_
    refine E_getR (pc := 8) (ci := 1) (f := 0) (r := 3) (zDk zD_32_ok 8 rfl) zc_32 (by decide +kernel) (by decide) hr0 (zg_1_0 hr0) (by decide) ?_
    refine E_getI (pc := 11) (ci := 6) (f := 0) (zDk zD_32_ok 9 rfl) zc_32 (by decide +kernel) (by decide) zis_6_3 ?_
    refine E_icmp (pc := 14) (t := 73) (zDk zD_32_ok 10 rfl) rfl (fun hz => ?_) (fun hz => ?_)
    · have h := zS_f h (Int.not_lt.mpr (T_ge hz))
      refine E_iload_n (pc := 73) (zDk zD_32_ok 39 rfl) rfl ?_
      have h := zS_some h
      exact E_ireturn (pc := 74) (zDk zD_32_ok 40 rfl) zt_32 h
    · have h := zS_t h (F_ge hz)
      refine E_iconst (pc := 17) (zDk zD_32_ok 11 rfl) (by decide +kernel) ?_
      refine W_istore (pc := 18) (L' := [some (.inr (.inr r0)), some (.inl y1), some (.inl y2), some (.inl y3), some (.inl (0 : Int)), d5]) (zDk zD_32_ok 12 rfl) zm_32 (by decide) rfl ?_
      refine E_iconst (pc := 20) (zDk zD_32_ok 13 rfl) (by decide +kernel) ?_
      refine W_istore (pc := 21) (L' := [some (.inr (.inr r0)), some (.inl y1), some (.inl y2), some (.inl y3), some (.inl (0 : Int)), some (.inl (0 : Int))]) (zDk zD_32_ok 14 rfl) zm_32 (by decide) rfl ?_
      exact ok_lD_busiestCorner_c23 hq r0 hr0 M (lD_busiestCorner_c6 r0 M n) (ih) zN y1 y2 y3 (0 : Int) (0 : Int) h
def lD_busiestCorner (r0 : Nat) (M : Nat → Nat → Int) : Option Int :=
    (if zis 1 r0 = true then
    (lD_busiestCorner_c6 r0 M zN (0 : Int) (-1 : Int) (0 : Int))
    else none)
set_option maxRecDepth 100000 in
theorem ok_lD_busiestCorner {sc : zSc} {r0 : Nat} {M : Nat → Nat → Int} {P : Int → (Nat → Nat → Int) → Prop} (h : zS (lD_busiestCorner r0 M) (fun x => P x M)) : zCi sc 32 [.inr (.inr r0)] M P := by
  have ea : zarg (zml 32) [.inr (.inr r0)] = [some (.inr (.inr r0)), none, none, none, none, none] := by rw [zm_32]; rfl
  unfold zCi zCw
  rw [ea, zr_32]
  have hq : 1 ≤ 1 := Nat.le_refl _
  unfold lD_busiestCorner at h
  have h := zS_mono h (fun x hx => (⟨x, rfl, hx⟩ : ∃ y, (some (.inl x) : Option zV) = some (.inl y) ∧ P y M))
  obtain ⟨hr0, h⟩ := zS_c h
  skip
  refine E_iconst (pc := 0) (zDk zD_32_ok 0 rfl) (by decide +kernel) ?_
  refine W_istore_n (pc := 1) (L' := [some (.inr (.inr r0)), some (.inl (0 : Int)), none, none, none, none]) (zDk zD_32_ok 1 rfl) zm_32 (by decide) rfl ?_
  refine E_iconst (pc := 2) (zDk zD_32_ok 2 rfl) (by decide +kernel) ?_
  refine W_istore_n (pc := 3) (L' := [some (.inr (.inr r0)), some (.inl (0 : Int)), some (.inl (-1 : Int)), none, none, none]) (zDk zD_32_ok 3 rfl) zm_32 (by decide) rfl ?_
  refine E_iconst (pc := 4) (zDk zD_32_ok 4 rfl) (by decide +kernel) ?_
  refine W_istore_n (pc := 5) (L' := [some (.inr (.inr r0)), some (.inl (0 : Int)), some (.inl (-1 : Int)), some (.inl (0 : Int)), none, none]) (zDk zD_32_ok 5 rfl) zm_32 (by decide) rfl ?_
  exact ok_lD_busiestCorner_c6 hq r0 hr0 M zN (0 : Int) (-1 : Int) (0 : Int) none none h
def zD_33 : List (Nat × Instr × Nat) := [(0, .iconst (0), 1), (1, .istore_n (2), 1), (2, .iconst (0), 1), (3, .istore_n (3), 1), (4, .iload_n (3), 1), (5, .aload_n (0), 1), (6, .getfield (38), 3), (9, .getfield (95), 3), (12, .if_icmp .ge (36), 3), (15, .aload_n (0), 1), (16, .aload_n (0), 1), (17, .getfield (25), 3), (20, .iload_n (1), 1), (21, .iconst (5), 1), (22, .imul, 1), (23, .iload_n (3), 1), (24, .iadd, 1), (25, .iaload, 1), (26, .iload_n (1), 1), (27, .invokevirtual (148), 3), (30, .iconst (1), 1), (31, .iload_n (3), 1), (32, .ishl, 1), (33, .if_icmp .ne (9), 3), (36, .iload_n (2), 1), (37, .iconst (1), 1), (38, .iload_n (3), 1), (39, .ishl, 1), (40, .ior, 1), (41, .istore_n (2), 1), (42, .iinc (3) (1), 3), (45, .goto (-41), 3), (48, .iload_n (2), 1), (49, .ireturn, 1)]
set_option maxRecDepth 100000 in
theorem zD_33_ok : zDo 33 zD_33 = true := by decide +kernel
theorem zc_33 : zcls 33 = 1 := by decide +kernel
theorem zm_33 : zml 33 = 4 := by decide +kernel
theorem zt_33 : zrt 33 = (some (.int)) := by decide +kernel
theorem zk_33 : zkd 33 = 1 ∧ znp 33 + 1 = 2 := by decide +kernel
theorem zr_33 (as : List zV) : zrk 33 as = 1 := by unfold zrk; rw [if_neg (by decide)]; decide +kernel
def lD_namesAlone_c4 (r0 : Nat) (x1 : Int) (M : Nat → Nat → Int) : Nat → Int → Int → Option Int
  | 0, _, _ => none
  | n + 1, y2, y3 =>
    (if y3 < (M 3 7) then
    ((rdI (r0 + 5) (w32 ((w32 (x1 * (5 : Int))) + y3)) M).bind (fun v25 =>
    ((lD_namesAt r0 v25 x1 M).bind (fun v27 =>
    (if v27 = (zshl (1 : Int) y3) then
    ((lD_namesAlone_c4 r0 x1 M n) (zor y2 (zshl (1 : Int) y3)) (w32 (y3 + 1)))
    else
    ((lD_namesAlone_c4 r0 x1 M n) y2 (w32 (y3 + 1))))))))
    else
    (some y2))
set_option maxRecDepth 100000 in
theorem ok_lD_namesAlone_c4 {sc : zSc} {q : Nat} {P : Option zV → (Nat → Nat → Int) → Prop} (hq : 1 ≤ q) (r0 : Nat) (x1 : Int) (hr0 : zis 1 r0 = true) (M : Nat → Nat → Int) : ∀ (n : Nat) (y2 : Int) (y3 : Int), zS (lD_namesAlone_c4 r0 x1 M n y2 y3) (fun x => P (some (.inl x)) M) → zWp sc q 33 4 [some (.inr (.inr r0)), some (.inl x1), some (.inl y2), some (.inl y3)] [] M P := by
  intro n
  induction n with
  | zero => intro y2 y3 h; exact (zS_none h).elim
  | succ n ih =>
    intro y2 y3 h
    rw [lD_namesAlone_c4] at h
    refine E_iload_n (pc := 4) (zDk zD_33_ok 4 rfl) rfl ?_
    refine E_aload_n (pc := 5) (zDk zD_33_ok 5 rfl) rfl ?_
    refine E_getR (pc := 6) (ci := 1) (f := 0) (r := 3) (zDk zD_33_ok 6 rfl) zc_33 (by decide +kernel) (by decide) hr0 (zg_1_0 hr0) (by decide) ?_
    refine E_getI (pc := 9) (ci := 6) (f := 7) (zDk zD_33_ok 7 rfl) zc_33 (by decide +kernel) (by decide) zis_6_3 ?_
    refine E_icmp (pc := 12) (t := 48) (zDk zD_33_ok 8 rfl) rfl (fun hz => ?_) (fun hz => ?_)
    · have h := zS_f h (Int.not_lt.mpr (T_ge hz))
      refine E_iload_n (pc := 48) (zDk zD_33_ok 32 rfl) rfl ?_
      have h := zS_some h
      exact E_ireturn (pc := 49) (zDk zD_33_ok 33 rfl) zt_33 h
    · have h := zS_t h (F_ge hz)
      refine E_aload_n (pc := 15) (zDk zD_33_ok 9 rfl) rfl ?_
      refine E_aload_n (pc := 16) (zDk zD_33_ok 10 rfl) rfl ?_
      refine E_getR (pc := 17) (ci := 1) (f := 5) (r := (r0 + 5)) (zDk zD_33_ok 11 rfl) zc_33 (by decide +kernel) (by decide) hr0 (zg_1_5 hr0) (zh_1_5 hr0) ?_
      refine E_iload_n (pc := 20) (zDk zD_33_ok 12 rfl) rfl ?_
      refine E_iconst (pc := 21) (zDk zD_33_ok 13 rfl) (by decide +kernel) ?_
      refine W_imul (pc := 22) (zDk zD_33_ok 14 rfl) ?_
      refine E_iload_n (pc := 23) (zDk zD_33_ok 15 rfl) rfl ?_
      refine W_iadd (pc := 24) (zDk zD_33_ok 16 rfl) ?_
      obtain ⟨v25, e25, h⟩ := zS_bind h
      refine E_iaload (pc := 25) (zDk zD_33_ok 17 rfl) e25 ?_
      refine E_iload_n (pc := 26) (zDk zD_33_ok 18 rfl) rfl ?_
      obtain ⟨v27, e27, h⟩ := zS_bind h
      refine E_virI (pc := 27) (c := 20) (r := r0) (as := [.inl v25, .inl x1]) (rest := []) (zDk zD_33_ok 19 rfl) zc_33 (by decide +kernel) zk_20 ⟨(Nat.le_of_ble_eq_true rfl), rfl, rfl⟩ (Nat.le_of_ble_eq_true rfl) (zr_20 _) (Nat.lt_of_lt_of_le (by decide) hq) (by rw [zm_20]; exact (Nat.le_of_ble_eq_true rfl)) ⟨zc_20, by decide⟩ hr0 (ok_lD_namesAt ⟨v27, e27, ?_⟩)
      refine E_iconst (pc := 30) (zDk zD_33_ok 20 rfl) (by decide +kernel) ?_
      refine E_iload_n (pc := 31) (zDk zD_33_ok 21 rfl) rfl ?_
      refine E_ishl (pc := 32) (zDk zD_33_ok 22 rfl) ?_
      refine E_icmp (pc := 33) (t := 42) (zDk zD_33_ok 23 rfl) rfl (fun hz => ?_) (fun hz => ?_)
      · have h := zS_f h (T_ne hz)
        refine W_iinc (pc := 42) (L' := [some (.inr (.inr r0)), some (.inl x1), some (.inl y2), some (.inl (w32 (y3 + 1)))]) (zDk zD_33_ok 30 rfl) rfl zm_33 (by decide) rfl ?_
        refine E_goto (pc := 45) (t := 4) (zDk zD_33_ok 31 rfl) rfl ?_
        exact (ih) y2 (w32 (y3 + 1)) h
      · have h := zS_t h (F_ne hz)
        refine E_iload_n (pc := 36) (zDk zD_33_ok 24 rfl) rfl ?_
        refine E_iconst (pc := 37) (zDk zD_33_ok 25 rfl) (by decide +kernel) ?_
        refine E_iload_n (pc := 38) (zDk zD_33_ok 26 rfl) rfl ?_
        refine E_ishl (pc := 39) (zDk zD_33_ok 27 rfl) ?_
        refine E_ior (pc := 40) (zDk zD_33_ok 28 rfl) ?_
        refine W_istore_n (pc := 41) (L' := [some (.inr (.inr r0)), some (.inl x1), some (.inl (zor y2 (zshl (1 : Int) y3))), some (.inl y3)]) (zDk zD_33_ok 29 rfl) zm_33 (by decide) rfl ?_
        refine W_iinc (pc := 42) (L' := [some (.inr (.inr r0)), some (.inl x1), some (.inl (zor y2 (zshl (1 : Int) y3))), some (.inl (w32 (y3 + 1)))]) (zDk zD_33_ok 30 rfl) rfl zm_33 (by decide) rfl ?_
        refine E_goto (pc := 45) (t := 4) (zDk zD_33_ok 31 rfl) rfl ?_
        exact (ih) (zor y2 (zshl (1 : Int) y3)) (w32 (y3 + 1)) h
def lD_namesAlone (r0 : Nat) (x1 : Int) (M : Nat → Nat → Int) : Option Int :=
    (if zis 1 r0 = true then
    (lD_namesAlone_c4 r0 x1 M zN (0 : Int) (0 : Int))
    else none)
set_option maxRecDepth 100000 in
theorem ok_lD_namesAlone {sc : zSc} {r0 : Nat} {x1 : Int} {M : Nat → Nat → Int} {P : Int → (Nat → Nat → Int) → Prop} (h : zS (lD_namesAlone r0 x1 M) (fun x => P x M)) : zCi sc 33 [.inr (.inr r0), .inl x1] M P := by
  have ea : zarg (zml 33) [.inr (.inr r0), .inl x1] = [some (.inr (.inr r0)), some (.inl x1), none, none] := by rw [zm_33]; rfl
  unfold zCi zCw
  rw [ea, zr_33]
  have hq : 1 ≤ 1 := Nat.le_refl _
  unfold lD_namesAlone at h
  have h := zS_mono h (fun x hx => (⟨x, rfl, hx⟩ : ∃ y, (some (.inl x) : Option zV) = some (.inl y) ∧ P y M))
  obtain ⟨hr0, h⟩ := zS_c h
  skip
  refine E_iconst (pc := 0) (zDk zD_33_ok 0 rfl) (by decide +kernel) ?_
  refine W_istore_n (pc := 1) (L' := [some (.inr (.inr r0)), some (.inl x1), some (.inl (0 : Int)), none]) (zDk zD_33_ok 1 rfl) zm_33 (by decide) rfl ?_
  refine E_iconst (pc := 2) (zDk zD_33_ok 2 rfl) (by decide +kernel) ?_
  refine W_istore_n (pc := 3) (L' := [some (.inr (.inr r0)), some (.inl x1), some (.inl (0 : Int)), some (.inl (0 : Int))]) (zDk zD_33_ok 3 rfl) zm_33 (by decide) rfl ?_
  exact ok_lD_namesAlone_c4 hq r0 x1 hr0 M zN (0 : Int) (0 : Int) h
def zD_36 : List (Nat × Instr × Nat) := [(0, .aload_n (0), 1), (1, .getfield (9), 3), (4, .iconst (0), 1), (5, .invokestatic (15), 3), (8, .iconst (0), 1), (9, .istore_n (3), 1), (10, .iload_n (3), 1), (11, .aload_n (1), 1), (12, .getfield (21), 3), (15, .if_icmp .ge (61), 3), (18, .iload_n (2), 1), (19, .iload_n (3), 1), (20, .ishr, 1), (21, .iconst (1), 1), (22, .iand, 1), (23, .ifCond .ne (47), 3), (26, .aload_n (0), 1), (27, .getfield (9), 3), (30, .aload_n (1), 1), (31, .getfield (27), 3), (34, .iload_n (3), 1), (35, .iaload, 1), (36, .dup2, 1), (37, .iaload, 1), (38, .iconst (1), 1), (39, .aload_n (1), 1), (40, .getfield (30), 3), (43, .iload_n (3), 1), (44, .iaload, 1), (45, .ishl, 1), (46, .ior, 1), (47, .iastore, 1), (48, .aload_n (0), 1), (49, .getfield (9), 3), (52, .aload_n (1), 1), (53, .getfield (30), 3), (56, .iload_n (3), 1), (57, .iaload, 1), (58, .dup2, 1), (59, .iaload, 1), (60, .iconst (1), 1), (61, .aload_n (1), 1), (62, .getfield (27), 3), (65, .iload_n (3), 1), (66, .iaload, 1), (67, .ishl, 1), (68, .ior, 1), (69, .iastore, 1), (70, .iinc (3) (1), 3), (73, .goto (-63), 3), (76, .return_, 1)]
set_option maxRecDepth 100000 in
theorem zD_36_ok : zDo 36 zD_36 = true := by decide +kernel
theorem zc_36 : zcls 36 = 3 := by decide +kernel
theorem zm_36 : zml 36 = 4 := by decide +kernel
theorem zt_36 : zrt 36 = none := by decide +kernel
theorem zk_36 : zkd 36 = 1 ∧ znp 36 + 1 = 3 := by decide +kernel
theorem zr_36 (as : List zV) : zrk 36 as = 1 := by unfold zrk; rw [if_neg (by decide)]; decide +kernel
def lN_build_c10 (r0 : Nat) (r1 : Nat) (x2 : Int) : Nat → Int → (Nat → Nat → Int) → Option (Nat → Nat → Int)
  | 0, _, _ => none
  | n + 1, y3, M =>
    (if y3 < (M r1 5) then
    (if (zand (zshr x2 y3) (1 : Int)) = 0 then
    ((rdI (r1 + 1) y3 M).bind (fun v35 =>
    ((rdI (r0 + 1) v35 M).bind (fun v37 =>
    ((rdI (r1 + 2) y3 M).bind (fun v44 =>
    ((wrI (r0 + 1) v35 (zor v37 (zshl (1 : Int) v44)) M).bind (fun M47 =>
    ((rdI (r1 + 2) y3 M47).bind (fun v57 =>
    ((rdI (r0 + 1) v57 M47).bind (fun v59 =>
    ((rdI (r1 + 1) y3 M47).bind (fun v66 =>
    ((wrI (r0 + 1) v57 (zor v59 (zshl (1 : Int) v66)) M47).bind (fun M69 =>
    ((lN_build_c10 r0 r1 x2 n) (w32 (y3 + 1)) M69)))))))))))))))))
    else
    ((lN_build_c10 r0 r1 x2 n) (w32 (y3 + 1)) M))
    else
    (some M))
set_option maxRecDepth 100000 in
theorem ok_lN_build_c10 {sc : zSc} {q : Nat} {P : Option zV → (Nat → Nat → Int) → Prop} (hq : 1 ≤ q) (r0 : Nat) (r1 : Nat) (x2 : Int) (hr0 : zis 3 r0 = true) (hr1 : zis 6 r1 = true) : ∀ (n : Nat) (y3 : Int) (M : Nat → Nat → Int), zS (lN_build_c10 r0 r1 x2 n y3 M) (fun M0 => P none M0) → zWp sc q 36 10 [some (.inr (.inr r0)), some (.inr (.inr r1)), some (.inl x2), some (.inl y3)] [] M P := by
  intro n
  induction n with
  | zero => intro y3 M h; exact (zS_none h).elim
  | succ n ih =>
    intro y3 M h
    rw [lN_build_c10] at h
    refine E_iload_n (pc := 10) (zDk zD_36_ok 6 rfl) rfl ?_
    refine E_aload_n (pc := 11) (zDk zD_36_ok 7 rfl) rfl ?_
    refine E_getI (pc := 12) (ci := 6) (f := 5) (zDk zD_36_ok 8 rfl) zc_36 (by decide +kernel) (by decide) hr1 ?_
    refine E_icmp (pc := 15) (t := 76) (zDk zD_36_ok 9 rfl) rfl (fun hz => ?_) (fun hz => ?_)
    · have h := zS_f h (Int.not_lt.mpr (T_ge hz))
      have h := zS_some h
      exact E_return (x := ()) (pc := 76) (zDk zD_36_ok 50 rfl) zt_36 h
    · have h := zS_t h (F_ge hz)
      refine E_iload_n (pc := 18) (zDk zD_36_ok 10 rfl) rfl ?_
      refine E_iload_n (pc := 19) (zDk zD_36_ok 11 rfl) rfl ?_
      refine E_ishr (pc := 20) (zDk zD_36_ok 12 rfl) ?_
      refine E_iconst (pc := 21) (zDk zD_36_ok 13 rfl) (by decide +kernel) ?_
      refine E_iand (pc := 22) (zDk zD_36_ok 14 rfl) ?_
      refine E_if (pc := 23) (t := 70) (zDk zD_36_ok 15 rfl) rfl (fun hz => ?_) (fun hz => ?_)
      · have h := zS_f h (T_ne hz)
        refine W_iinc (pc := 70) (L' := [some (.inr (.inr r0)), some (.inr (.inr r1)), some (.inl x2), some (.inl (w32 (y3 + 1)))]) (zDk zD_36_ok 48 rfl) rfl zm_36 (by decide) rfl ?_
        refine E_goto (pc := 73) (t := 10) (zDk zD_36_ok 49 rfl) rfl ?_
        exact (ih) (w32 (y3 + 1)) M h
      · have h := zS_t h (F_ne hz)
        refine E_aload_n (pc := 26) (zDk zD_36_ok 16 rfl) rfl ?_
        refine E_getR (pc := 27) (ci := 3) (f := 0) (r := (r0 + 1)) (zDk zD_36_ok 17 rfl) zc_36 (by decide +kernel) (by decide) hr0 (zg_3_0 hr0) (zh_3_0 hr0) ?_
        refine E_aload_n (pc := 30) (zDk zD_36_ok 18 rfl) rfl ?_
        refine E_getR (pc := 31) (ci := 6) (f := 9) (r := (r1 + 1)) (zDk zD_36_ok 19 rfl) zc_36 (by decide +kernel) (by decide) hr1 (zg_6_9 hr1) (zh_6_9 hr1) ?_
        refine E_iload_n (pc := 34) (zDk zD_36_ok 20 rfl) rfl ?_
        obtain ⟨v35, e35, h⟩ := zS_bind h
        refine E_iaload (pc := 35) (zDk zD_36_ok 21 rfl) e35 ?_
        refine E_dup2 (pc := 36) (zDk zD_36_ok 22 rfl) rfl rfl ?_
        obtain ⟨v37, e37, h⟩ := zS_bind h
        refine E_iaload (pc := 37) (zDk zD_36_ok 23 rfl) e37 ?_
        refine E_iconst (pc := 38) (zDk zD_36_ok 24 rfl) (by decide +kernel) ?_
        refine E_aload_n (pc := 39) (zDk zD_36_ok 25 rfl) rfl ?_
        refine E_getR (pc := 40) (ci := 6) (f := 10) (r := (r1 + 2)) (zDk zD_36_ok 26 rfl) zc_36 (by decide +kernel) (by decide) hr1 (zg_6_10 hr1) (zh_6_10 hr1) ?_
        refine E_iload_n (pc := 43) (zDk zD_36_ok 27 rfl) rfl ?_
        obtain ⟨v44, e44, h⟩ := zS_bind h
        refine E_iaload (pc := 44) (zDk zD_36_ok 28 rfl) e44 ?_
        refine E_ishl (pc := 45) (zDk zD_36_ok 29 rfl) ?_
        refine E_ior (pc := 46) (zDk zD_36_ok 30 rfl) ?_
        obtain ⟨M47, e47, h⟩ := zS_bind h
        refine E_iastore (pc := 47) (zDk zD_36_ok 31 rfl) e47 ?_
        refine E_aload_n (pc := 48) (zDk zD_36_ok 32 rfl) rfl ?_
        refine E_getR (pc := 49) (ci := 3) (f := 0) (r := (r0 + 1)) (zDk zD_36_ok 33 rfl) zc_36 (by decide +kernel) (by decide) hr0 (zg_3_0 hr0) (zh_3_0 hr0) ?_
        refine E_aload_n (pc := 52) (zDk zD_36_ok 34 rfl) rfl ?_
        refine E_getR (pc := 53) (ci := 6) (f := 10) (r := (r1 + 2)) (zDk zD_36_ok 35 rfl) zc_36 (by decide +kernel) (by decide) hr1 (zg_6_10 hr1) (zh_6_10 hr1) ?_
        refine E_iload_n (pc := 56) (zDk zD_36_ok 36 rfl) rfl ?_
        obtain ⟨v57, e57, h⟩ := zS_bind h
        refine E_iaload (pc := 57) (zDk zD_36_ok 37 rfl) e57 ?_
        refine E_dup2 (pc := 58) (zDk zD_36_ok 38 rfl) rfl rfl ?_
        obtain ⟨v59, e59, h⟩ := zS_bind h
        refine E_iaload (pc := 59) (zDk zD_36_ok 39 rfl) e59 ?_
        refine E_iconst (pc := 60) (zDk zD_36_ok 40 rfl) (by decide +kernel) ?_
        refine E_aload_n (pc := 61) (zDk zD_36_ok 41 rfl) rfl ?_
        refine E_getR (pc := 62) (ci := 6) (f := 9) (r := (r1 + 1)) (zDk zD_36_ok 42 rfl) zc_36 (by decide +kernel) (by decide) hr1 (zg_6_9 hr1) (zh_6_9 hr1) ?_
        refine E_iload_n (pc := 65) (zDk zD_36_ok 43 rfl) rfl ?_
        obtain ⟨v66, e66, h⟩ := zS_bind h
        refine E_iaload (pc := 66) (zDk zD_36_ok 44 rfl) e66 ?_
        refine E_ishl (pc := 67) (zDk zD_36_ok 45 rfl) ?_
        refine E_ior (pc := 68) (zDk zD_36_ok 46 rfl) ?_
        obtain ⟨M69, e69, h⟩ := zS_bind h
        refine E_iastore (pc := 69) (zDk zD_36_ok 47 rfl) e69 ?_
        refine W_iinc (pc := 70) (L' := [some (.inr (.inr r0)), some (.inr (.inr r1)), some (.inl x2), some (.inl (w32 (y3 + 1)))]) (zDk zD_36_ok 48 rfl) rfl zm_36 (by decide) rfl ?_
        refine E_goto (pc := 73) (t := 10) (zDk zD_36_ok 49 rfl) rfl ?_
        exact (ih) (w32 (y3 + 1)) M69 h
def lN_build (r0 : Nat) (r1 : Nat) (x2 : Int) (M : Nat → Nat → Int) : Option (Nat → Nat → Int) :=
    (if zis 3 r0 = true then
    (if zis 6 r1 = true then
    ((lY_fill_329 (r0 + 1) (0 : Int) M).bind (fun M5 =>
    (lN_build_c10 r0 r1 x2 zN (0 : Int) M5)))
    else none)
    else none)
set_option maxRecDepth 100000 in
theorem ok_lN_build {sc : zSc} {r0 : Nat} {r1 : Nat} {x2 : Int} {M : Nat → Nat → Int} {P : (Nat → Nat → Int) → Prop} (h : zS (lN_build r0 r1 x2 M) P) : zCv sc 36 [.inr (.inr r0), .inr (.inr r1), .inl x2] M P := by
  have ea : zarg (zml 36) [.inr (.inr r0), .inr (.inr r1), .inl x2] = [some (.inr (.inr r0)), some (.inr (.inr r1)), some (.inl x2), none] := by rw [zm_36]; rfl
  unfold zCv zCw
  rw [ea, zr_36]
  have hq : 1 ≤ 1 := Nat.le_refl _
  unfold lN_build at h
  have h := zS_mono h (fun x hx => (⟨rfl, hx⟩ : (none : Option zV) = none ∧ P x))
  obtain ⟨hr0, h⟩ := zS_c h
  obtain ⟨hr1, h⟩ := zS_c h
  skip
  refine E_aload_n (pc := 0) (zDk zD_36_ok 0 rfl) rfl ?_
  refine E_getR (pc := 1) (ci := 3) (f := 0) (r := (r0 + 1)) (zDk zD_36_ok 1 rfl) zc_36 (by decide +kernel) (by decide) hr0 (zg_3_0 hr0) (zh_3_0 hr0) ?_
  refine E_iconst (pc := 4) (zDk zD_36_ok 2 rfl) (by decide +kernel) ?_
  obtain ⟨M5, e5, h⟩ := zS_bind h
  refine E_staV (pc := 5) (c := 329) (as := [.inr (.inr (r0 + 1)), .inl (0 : Int)]) (rest := []) (zDk zD_36_ok 3 rfl) zc_36 (by decide +kernel) (by decide +kernel) zk_329 ⟨(Nat.le_of_ble_eq_true rfl), rfl, rfl⟩ (Nat.le_of_ble_eq_true rfl) (zr_329 _) (Nat.lt_of_lt_of_le (by decide) hq) (by rw [zm_329]; exact (Nat.le_of_ble_eq_true rfl)) (ok_lY_fill_329 ⟨M5, e5, ?_⟩)
  refine E_iconst (pc := 8) (zDk zD_36_ok 4 rfl) (by decide +kernel) ?_
  refine W_istore_n (pc := 9) (L' := [some (.inr (.inr r0)), some (.inr (.inr r1)), some (.inl x2), some (.inl (0 : Int))]) (zDk zD_36_ok 5 rfl) zm_36 (by decide) rfl ?_
  exact ok_lN_build_c10 hq r0 r1 x2 hr0 hr1 zN (0 : Int) M5 h
