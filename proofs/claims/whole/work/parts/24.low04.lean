/-! Lifted methods 4 (written by wip/whole/lift.py): decode rows, functions, proofs. -/
def zD_286 : List (Nat × Instr × Nat) := [(0, .aload_n (0), 1), (1, .iload_n (1), 1), (2, .invokestatic (332), 3), (5, .putfield (385), 3), (8, .iconst (-1), 1), (9, .istore_n (2), 1), (10, .iconst (0), 1), (11, .istore_n (3), 1), (12, .iload_n (3), 1), (13, .aload_n (0), 1), (14, .invokevirtual (99), 3), (17, .if_icmp .gt (121), 3), (20, .iconst (0), 1), (21, .istore (4), 2), (23, .iconst (0), 1), (24, .istore (5), 2), (26, .iload (5), 2), (28, .aload_n (0), 1), (29, .getfield (9), 3), (32, .iconst (0), 1), (33, .iaload, 1), (34, .if_icmp .ge (78), 3), (37, .iconst (0), 1), (38, .istore (6), 2), (40, .iconst (0), 1), (41, .istore (7), 2), (43, .iload (7), 2), (45, .aload_n (0), 1), (46, .getfield (9), 3), (49, .iconst (0), 1), (50, .iaload, 1), (51, .if_icmp .ge (46), 3), (54, .iload (6), 2), (56, .iload_n (1), 1), (57, .iload (7), 2), (59, .invokestatic (202), 3), (62, .iconst (1), 1), (63, .if_icmp .ne (24), 3), (66, .aload_n (0), 1), (67, .getfield (70), 3), (70, .bipush (21), 2), (72, .iload (7), 2), (74, .imul, 1), (75, .iload_n (3), 1), (76, .iadd, 1), (77, .iaload, 1), (78, .iload (5), 2), (80, .if_icmp .ne (7), 3), (83, .iconst (1), 1), (84, .goto (4), 3), (87, .iconst (0), 1), (88, .iadd, 1), (89, .istore (6), 2), (91, .iinc (7) (1), 3), (94, .goto (-51), 3), (97, .iload (4), 2), (99, .iload (6), 2), (101, .invokestatic (338), 3), (104, .istore (4), 2), (106, .iinc (5) (1), 3), (109, .goto (-83), 3), (112, .iload (4), 2), (114, .aload_n (0), 1), (115, .getfield (385), 3), (118, .if_icmp .lt (6), 3), (121, .goto (11), 3), (124, .aload_n (0), 1), (125, .iload (4), 2), (127, .putfield (385), 3), (130, .iload_n (3), 1), (131, .istore_n (2), 1), (132, .iinc (3) (1), 3), (135, .goto (-123), 3), (138, .iload_n (2), 1), (139, .ireturn, 1)]
set_option maxRecDepth 100000 in
theorem zD_286_ok : zDo 286 zD_286 = true := by decide +kernel
theorem zc_286 : zcls 286 = 8 := by decide +kernel
theorem zm_286 : zml 286 = 8 := by decide +kernel
theorem zt_286 : zrt 286 = (some (.int)) := by decide +kernel
theorem zk_286 : zkd 286 = 1 ∧ znp 286 + 1 = 2 := by decide +kernel
theorem zr_286 (as : List zV) : zrk 286 as = 1 := by unfold zrk; rw [if_neg (by decide)]; decide +kernel
def lm_askOf_c43 (x1 : Int) (h12 : Int → Int → (Nat → Nat → Int) → Option (Int × (Nat → Nat → Int))) (h26 : Int → Int → Int → Int → (Nat → Nat → Int) → Option (Int × (Nat → Nat → Int))) : Nat → Int → Int → Int → Int → Int → Int → (Nat → Nat → Int) → Option (Int × (Nat → Nat → Int))
  | 0, _, _, _, _, _, _, _ => none
  | n + 1, y2, y3, y4, y5, y6, y7, M =>
    ((rdI 107 (0 : Int) M).bind (fun v50 =>
    (if y7 < v50 then
    ((lm_bit x1 y7 M).bind (fun v59 =>
    (if v59 = (1 : Int) then
    ((rdI 125 (w32 ((w32 ((21 : Int) * y7)) + y3)) M).bind (fun v77 =>
    (if v77 = y5 then
    ((lm_askOf_c43 x1 h12 h26 n) y2 y3 y4 y5 (w32 (y6 + (1 : Int))) (w32 (y7 + 1)) M)
    else
    ((lm_askOf_c43 x1 h12 h26 n) y2 y3 y4 y5 (w32 (y6 + (0 : Int))) (w32 (y7 + 1)) M))))
    else
    ((lm_askOf_c43 x1 h12 h26 n) y2 y3 y4 y5 (w32 (y6 + (0 : Int))) (w32 (y7 + 1)) M))))
    else
    (h26 y2 y3 (zmax y4 y6) (w32 (y5 + 1)) M))))
set_option maxRecDepth 100000 in
theorem ok_lm_askOf_c43 {sc : zSc} {q : Nat} {P : Option zV → (Nat → Nat → Int) → Prop} (hq : 1 ≤ q) (x1 : Int) (h12 : Int → Int → (Nat → Nat → Int) → Option (Int × (Nat → Nat → Int))) (H12 : ∀ (y2 : Int) (y3 : Int) (M : Nat → Nat → Int) (d4 d5 d6 d7 : Option zV), zS (h12 y2 y3 M) (fun r => P (some (.inl r.1)) r.2) → zWp sc q 286 12 [some (.inr (.inr 106)), some (.inl x1), some (.inl y2), some (.inl y3), d4, d5, d6, d7] [] M P) (h26 : Int → Int → Int → Int → (Nat → Nat → Int) → Option (Int × (Nat → Nat → Int))) (H26 : ∀ (y2 : Int) (y3 : Int) (y4 : Int) (y5 : Int) (M : Nat → Nat → Int) (d6 d7 : Option zV), zS (h26 y2 y3 y4 y5 M) (fun r => P (some (.inl r.1)) r.2) → zWp sc q 286 26 [some (.inr (.inr 106)), some (.inl x1), some (.inl y2), some (.inl y3), some (.inl y4), some (.inl y5), d6, d7] [] M P) : ∀ (n : Nat) (y2 : Int) (y3 : Int) (y4 : Int) (y5 : Int) (y6 : Int) (y7 : Int) (M : Nat → Nat → Int), zS (lm_askOf_c43 x1 h12 h26 n y2 y3 y4 y5 y6 y7 M) (fun r => P (some (.inl r.1)) r.2) → zWp sc q 286 43 [some (.inr (.inr 106)), some (.inl x1), some (.inl y2), some (.inl y3), some (.inl y4), some (.inl y5), some (.inl y6), some (.inl y7)] [] M P := by
  intro n
  induction n with
  | zero => intro y2 y3 y4 y5 y6 y7 M h; exact (zS_none h).elim
  | succ n ih =>
    intro y2 y3 y4 y5 y6 y7 M h
    rw [lm_askOf_c43] at h
    refine E_iload (pc := 43) (zDk zD_286_ok 26 rfl) rfl ?_
    refine E_aload_n (pc := 45) (zDk zD_286_ok 27 rfl) rfl ?_
    refine E_getR (pc := 46) (ci := 8) (f := 1) (r := 107) (zDk zD_286_ok 28 rfl) zc_286 (by decide +kernel) (by decide) zis_8_106 (by decide +kernel) (by decide) ?_
    refine E_iconst (pc := 49) (zDk zD_286_ok 29 rfl) (by decide +kernel) ?_
    obtain ⟨v50, e50, h⟩ := zS_bind h
    refine E_iaload (pc := 50) (zDk zD_286_ok 30 rfl) e50 ?_
    refine E_icmp (pc := 51) (t := 97) (zDk zD_286_ok 31 rfl) rfl (fun hz => ?_) (fun hz => ?_)
    · have h := zS_f h (Int.not_lt.mpr (T_ge hz))
      refine E_iload (pc := 97) (zDk zD_286_ok 55 rfl) rfl ?_
      refine E_iload (pc := 99) (zDk zD_286_ok 56 rfl) rfl ?_
      refine W_max (pc := 101) (zDk zD_286_ok 57 rfl) zc_286 (by decide +kernel) (Nat.le_of_ble_eq_true rfl) (Nat.lt_of_lt_of_le (by decide) hq) ?_
      refine W_istore (pc := 104) (L' := [some (.inr (.inr 106)), some (.inl x1), some (.inl y2), some (.inl y3), some (.inl (zmax y4 y6)), some (.inl y5), some (.inl y6), some (.inl y7)]) (zDk zD_286_ok 58 rfl) zm_286 (by decide) rfl ?_
      refine W_iinc (pc := 106) (L' := [some (.inr (.inr 106)), some (.inl x1), some (.inl y2), some (.inl y3), some (.inl (zmax y4 y6)), some (.inl (w32 (y5 + 1))), some (.inl y6), some (.inl y7)]) (zDk zD_286_ok 59 rfl) rfl zm_286 (by decide) rfl ?_
      refine E_goto (pc := 109) (t := 26) (zDk zD_286_ok 60 rfl) rfl ?_
      exact H26 y2 y3 (zmax y4 y6) (w32 (y5 + 1)) M (some (.inl y6)) (some (.inl y7)) h
    · have h := zS_t h (F_ge hz)
      refine E_iload (pc := 54) (zDk zD_286_ok 32 rfl) rfl ?_
      refine E_iload_n (pc := 56) (zDk zD_286_ok 33 rfl) rfl ?_
      refine E_iload (pc := 57) (zDk zD_286_ok 34 rfl) rfl ?_
      obtain ⟨v59, e59, h⟩ := zS_bind h
      refine E_staI (pc := 59) (c := 178) (as := [.inl x1, .inl y7]) (rest := [.inl y6]) (zDk zD_286_ok 35 rfl) zc_286 (by decide +kernel) (by decide +kernel) zk_178 ⟨(Nat.le_of_ble_eq_true rfl), rfl, rfl⟩ (Nat.le_of_ble_eq_true rfl) (zr_178 _) (Nat.lt_of_lt_of_le (by decide) hq) (by rw [zm_178]; exact (Nat.le_of_ble_eq_true rfl)) (ok_lm_bit ⟨v59, e59, ?_⟩)
      refine E_iconst (pc := 62) (zDk zD_286_ok 36 rfl) (by decide +kernel) ?_
      refine E_icmp (pc := 63) (t := 87) (zDk zD_286_ok 37 rfl) rfl (fun hz => ?_) (fun hz => ?_)
      · have h := zS_f h (T_ne hz)
        refine E_iconst (pc := 87) (zDk zD_286_ok 50 rfl) (by decide +kernel) ?_
        refine W_iadd (pc := 88) (zDk zD_286_ok 51 rfl) ?_
        refine W_istore (pc := 89) (L' := [some (.inr (.inr 106)), some (.inl x1), some (.inl y2), some (.inl y3), some (.inl y4), some (.inl y5), some (.inl (w32 (y6 + (0 : Int)))), some (.inl y7)]) (zDk zD_286_ok 52 rfl) zm_286 (by decide) rfl ?_
        refine W_iinc (pc := 91) (L' := [some (.inr (.inr 106)), some (.inl x1), some (.inl y2), some (.inl y3), some (.inl y4), some (.inl y5), some (.inl (w32 (y6 + (0 : Int)))), some (.inl (w32 (y7 + 1)))]) (zDk zD_286_ok 53 rfl) rfl zm_286 (by decide) rfl ?_
        refine E_goto (pc := 94) (t := 43) (zDk zD_286_ok 54 rfl) rfl ?_
        exact (ih) y2 y3 y4 y5 (w32 (y6 + (0 : Int))) (w32 (y7 + 1)) M h
      · have h := zS_t h (F_ne hz)
        refine E_aload_n (pc := 66) (zDk zD_286_ok 38 rfl) rfl ?_
        refine E_getR (pc := 67) (ci := 8) (f := 31) (r := 125) (zDk zD_286_ok 39 rfl) zc_286 (by decide +kernel) (by decide) zis_8_106 (by decide +kernel) (by decide) ?_
        refine E_bipush (pc := 70) (zDk zD_286_ok 40 rfl) (by decide +kernel) ?_
        refine E_iload (pc := 72) (zDk zD_286_ok 41 rfl) rfl ?_
        refine W_imul (pc := 74) (zDk zD_286_ok 42 rfl) ?_
        refine E_iload_n (pc := 75) (zDk zD_286_ok 43 rfl) rfl ?_
        refine W_iadd (pc := 76) (zDk zD_286_ok 44 rfl) ?_
        obtain ⟨v77, e77, h⟩ := zS_bind h
        refine E_iaload (pc := 77) (zDk zD_286_ok 45 rfl) e77 ?_
        refine E_iload (pc := 78) (zDk zD_286_ok 46 rfl) rfl ?_
        refine E_icmp (pc := 80) (t := 87) (zDk zD_286_ok 47 rfl) rfl (fun hz => ?_) (fun hz => ?_)
        · have h := zS_f h (T_ne hz)
          refine E_iconst (pc := 87) (zDk zD_286_ok 50 rfl) (by decide +kernel) ?_
          refine W_iadd (pc := 88) (zDk zD_286_ok 51 rfl) ?_
          refine W_istore (pc := 89) (L' := [some (.inr (.inr 106)), some (.inl x1), some (.inl y2), some (.inl y3), some (.inl y4), some (.inl y5), some (.inl (w32 (y6 + (0 : Int)))), some (.inl y7)]) (zDk zD_286_ok 52 rfl) zm_286 (by decide) rfl ?_
          refine W_iinc (pc := 91) (L' := [some (.inr (.inr 106)), some (.inl x1), some (.inl y2), some (.inl y3), some (.inl y4), some (.inl y5), some (.inl (w32 (y6 + (0 : Int)))), some (.inl (w32 (y7 + 1)))]) (zDk zD_286_ok 53 rfl) rfl zm_286 (by decide) rfl ?_
          refine E_goto (pc := 94) (t := 43) (zDk zD_286_ok 54 rfl) rfl ?_
          exact (ih) y2 y3 y4 y5 (w32 (y6 + (0 : Int))) (w32 (y7 + 1)) M h
        · have h := zS_t h (F_ne hz)
          refine E_iconst (pc := 83) (zDk zD_286_ok 48 rfl) (by decide +kernel) ?_
          refine E_goto (pc := 84) (t := 88) (zDk zD_286_ok 49 rfl) rfl ?_
          refine W_iadd (pc := 88) (zDk zD_286_ok 51 rfl) ?_
          refine W_istore (pc := 89) (L' := [some (.inr (.inr 106)), some (.inl x1), some (.inl y2), some (.inl y3), some (.inl y4), some (.inl y5), some (.inl (w32 (y6 + (1 : Int)))), some (.inl y7)]) (zDk zD_286_ok 52 rfl) zm_286 (by decide) rfl ?_
          refine W_iinc (pc := 91) (L' := [some (.inr (.inr 106)), some (.inl x1), some (.inl y2), some (.inl y3), some (.inl y4), some (.inl y5), some (.inl (w32 (y6 + (1 : Int)))), some (.inl (w32 (y7 + 1)))]) (zDk zD_286_ok 53 rfl) rfl zm_286 (by decide) rfl ?_
          refine E_goto (pc := 94) (t := 43) (zDk zD_286_ok 54 rfl) rfl ?_
          exact (ih) y2 y3 y4 y5 (w32 (y6 + (1 : Int))) (w32 (y7 + 1)) M h
def lm_askOf_c26 (x1 : Int) (h12 : Int → Int → (Nat → Nat → Int) → Option (Int × (Nat → Nat → Int))) : Nat → Int → Int → Int → Int → (Nat → Nat → Int) → Option (Int × (Nat → Nat → Int))
  | 0, _, _, _, _, _ => none
  | n + 1, y2, y3, y4, y5, M =>
    ((rdI 107 (0 : Int) M).bind (fun v33 =>
    (if y5 < v33 then
    (lm_askOf_c43 x1 h12 (lm_askOf_c26 x1 h12 n) zN y2 y3 y4 y5 (0 : Int) (0 : Int) M)
    else
    (if y4 < (M 106 32) then
    ((some (zup M 106 32 y4)).bind (fun M127 =>
    (h12 y3 (w32 (y3 + 1)) M127)))
    else
    (h12 y2 (w32 (y3 + 1)) M)))))
set_option maxRecDepth 100000 in
theorem ok_lm_askOf_c26 {sc : zSc} {q : Nat} {P : Option zV → (Nat → Nat → Int) → Prop} (hq : 1 ≤ q) (x1 : Int) (h12 : Int → Int → (Nat → Nat → Int) → Option (Int × (Nat → Nat → Int))) (H12 : ∀ (y2 : Int) (y3 : Int) (M : Nat → Nat → Int) (d4 d5 d6 d7 : Option zV), zS (h12 y2 y3 M) (fun r => P (some (.inl r.1)) r.2) → zWp sc q 286 12 [some (.inr (.inr 106)), some (.inl x1), some (.inl y2), some (.inl y3), d4, d5, d6, d7] [] M P) : ∀ (n : Nat) (y2 : Int) (y3 : Int) (y4 : Int) (y5 : Int) (M : Nat → Nat → Int) (d6 d7 : Option zV), zS (lm_askOf_c26 x1 h12 n y2 y3 y4 y5 M) (fun r => P (some (.inl r.1)) r.2) → zWp sc q 286 26 [some (.inr (.inr 106)), some (.inl x1), some (.inl y2), some (.inl y3), some (.inl y4), some (.inl y5), d6, d7] [] M P := by
  intro n
  induction n with
  | zero => intro y2 y3 y4 y5 M d6 d7 h; exact (zS_none h).elim
  | succ n ih =>
    intro y2 y3 y4 y5 M d6 d7 h
    rw [lm_askOf_c26] at h
    refine E_iload (pc := 26) (zDk zD_286_ok 16 rfl) rfl ?_
    refine E_aload_n (pc := 28) (zDk zD_286_ok 17 rfl) rfl ?_
    refine E_getR (pc := 29) (ci := 8) (f := 1) (r := 107) (zDk zD_286_ok 18 rfl) zc_286 (by decide +kernel) (by decide) zis_8_106 (by decide +kernel) (by decide) ?_
    refine E_iconst (pc := 32) (zDk zD_286_ok 19 rfl) (by decide +kernel) ?_
    obtain ⟨v33, e33, h⟩ := zS_bind h
    refine E_iaload (pc := 33) (zDk zD_286_ok 20 rfl) e33 ?_
    refine E_icmp (pc := 34) (t := 112) (zDk zD_286_ok 21 rfl) rfl (fun hz => ?_) (fun hz => ?_)
    · have h := zS_f h (Int.not_lt.mpr (T_ge hz))
      refine E_iload (pc := 112) (zDk zD_286_ok 61 rfl) rfl ?_
      refine E_aload_n (pc := 114) (zDk zD_286_ok 62 rfl) rfl ?_
      refine E_getI (pc := 115) (ci := 8) (f := 32) (zDk zD_286_ok 63 rfl) zc_286 (by decide +kernel) (by decide) zis_8_106 ?_
      refine E_icmp (pc := 118) (t := 124) (zDk zD_286_ok 64 rfl) rfl (fun hz => ?_) (fun hz => ?_)
      · have h := zS_t h (T_lt hz)
        refine E_aload_n (pc := 124) (zDk zD_286_ok 66 rfl) rfl ?_
        refine E_iload (pc := 125) (zDk zD_286_ok 67 rfl) rfl ?_
        obtain ⟨M127, e127, h⟩ := zS_bind h
        refine W_putI (pc := 127) (ci := 8) (f := 32) (zDk zD_286_ok 68 rfl) zc_286 (by decide +kernel) (by decide) zis_8_106 (Option.some.inj e127) ?_
        refine E_iload_n (pc := 130) (zDk zD_286_ok 69 rfl) rfl ?_
        refine W_istore_n (pc := 131) (L' := [some (.inr (.inr 106)), some (.inl x1), some (.inl y3), some (.inl y3), some (.inl y4), some (.inl y5), d6, d7]) (zDk zD_286_ok 70 rfl) zm_286 (by decide) rfl ?_
        refine W_iinc (pc := 132) (L' := [some (.inr (.inr 106)), some (.inl x1), some (.inl y3), some (.inl (w32 (y3 + 1))), some (.inl y4), some (.inl y5), d6, d7]) (zDk zD_286_ok 71 rfl) rfl zm_286 (by decide) rfl ?_
        refine E_goto (pc := 135) (t := 12) (zDk zD_286_ok 72 rfl) rfl ?_
        exact H12 y3 (w32 (y3 + 1)) M127 (some (.inl y4)) (some (.inl y5)) d6 d7 h
      · have h := zS_f h (Int.not_lt.mpr (F_lt hz))
        refine E_goto (pc := 121) (t := 132) (zDk zD_286_ok 65 rfl) rfl ?_
        refine W_iinc (pc := 132) (L' := [some (.inr (.inr 106)), some (.inl x1), some (.inl y2), some (.inl (w32 (y3 + 1))), some (.inl y4), some (.inl y5), d6, d7]) (zDk zD_286_ok 71 rfl) rfl zm_286 (by decide) rfl ?_
        refine E_goto (pc := 135) (t := 12) (zDk zD_286_ok 72 rfl) rfl ?_
        exact H12 y2 (w32 (y3 + 1)) M (some (.inl y4)) (some (.inl y5)) d6 d7 h
    · have h := zS_t h (F_ge hz)
      refine E_iconst (pc := 37) (zDk zD_286_ok 22 rfl) (by decide +kernel) ?_
      refine W_istore (pc := 38) (L' := [some (.inr (.inr 106)), some (.inl x1), some (.inl y2), some (.inl y3), some (.inl y4), some (.inl y5), some (.inl (0 : Int)), d7]) (zDk zD_286_ok 23 rfl) zm_286 (by decide) rfl ?_
      refine E_iconst (pc := 40) (zDk zD_286_ok 24 rfl) (by decide +kernel) ?_
      refine W_istore (pc := 41) (L' := [some (.inr (.inr 106)), some (.inl x1), some (.inl y2), some (.inl y3), some (.inl y4), some (.inl y5), some (.inl (0 : Int)), some (.inl (0 : Int))]) (zDk zD_286_ok 25 rfl) zm_286 (by decide) rfl ?_
      exact ok_lm_askOf_c43 hq x1 h12 H12 (lm_askOf_c26 x1 h12 n) (ih) zN y2 y3 y4 y5 (0 : Int) (0 : Int) M h
def lm_askOf_c12 (x1 : Int) : Nat → Int → Int → (Nat → Nat → Int) → Option (Int × (Nat → Nat → Int))
  | 0, _, _, _ => none
  | n + 1, y2, y3, M =>
    ((lm_last M).bind (fun v14 =>
    (if v14 < y3 then
    (some (y2, M))
    else
    (lm_askOf_c26 x1 (lm_askOf_c12 x1 n) zN y2 y3 (0 : Int) (0 : Int) M))))
set_option maxRecDepth 100000 in
theorem ok_lm_askOf_c12 {sc : zSc} {q : Nat} {P : Option zV → (Nat → Nat → Int) → Prop} (hq : 1 ≤ q) (x1 : Int) : ∀ (n : Nat) (y2 : Int) (y3 : Int) (M : Nat → Nat → Int) (d4 d5 d6 d7 : Option zV), zS (lm_askOf_c12 x1 n y2 y3 M) (fun r => P (some (.inl r.1)) r.2) → zWp sc q 286 12 [some (.inr (.inr 106)), some (.inl x1), some (.inl y2), some (.inl y3), d4, d5, d6, d7] [] M P := by
  intro n
  induction n with
  | zero => intro y2 y3 M d4 d5 d6 d7 h; exact (zS_none h).elim
  | succ n ih =>
    intro y2 y3 M d4 d5 d6 d7 h
    rw [lm_askOf_c12] at h
    refine E_iload_n (pc := 12) (zDk zD_286_ok 8 rfl) rfl ?_
    refine E_aload_n (pc := 13) (zDk zD_286_ok 9 rfl) rfl ?_
    obtain ⟨v14, e14, h⟩ := zS_bind h
    refine E_virI (pc := 14) (c := 182) (r := 106) (as := []) (rest := [.inl y3]) (zDk zD_286_ok 10 rfl) zc_286 (by decide +kernel) zk_182 ⟨(Nat.le_of_ble_eq_true rfl), rfl, rfl⟩ (Nat.le_of_ble_eq_true rfl) (zr_182 _) (Nat.lt_of_lt_of_le (by decide) hq) (by rw [zm_182]; exact (Nat.le_of_ble_eq_true rfl)) ⟨zc_182, by decide⟩ zis_8_106 (ok_lm_last ⟨v14, e14, ?_⟩)
    refine E_icmp (pc := 17) (t := 138) (zDk zD_286_ok 11 rfl) rfl (fun hz => ?_) (fun hz => ?_)
    · have h := zS_t h (T_gt hz)
      refine E_iload_n (pc := 138) (zDk zD_286_ok 73 rfl) rfl ?_
      have h := zS_some h
      exact E_ireturn (pc := 139) (zDk zD_286_ok 74 rfl) zt_286 h
    · have h := zS_f h (Int.not_lt.mpr (F_gt hz))
      refine E_iconst (pc := 20) (zDk zD_286_ok 12 rfl) (by decide +kernel) ?_
      refine W_istore (pc := 21) (L' := [some (.inr (.inr 106)), some (.inl x1), some (.inl y2), some (.inl y3), some (.inl (0 : Int)), d5, d6, d7]) (zDk zD_286_ok 13 rfl) zm_286 (by decide) rfl ?_
      refine E_iconst (pc := 23) (zDk zD_286_ok 14 rfl) (by decide +kernel) ?_
      refine W_istore (pc := 24) (L' := [some (.inr (.inr 106)), some (.inl x1), some (.inl y2), some (.inl y3), some (.inl (0 : Int)), some (.inl (0 : Int)), d6, d7]) (zDk zD_286_ok 15 rfl) zm_286 (by decide) rfl ?_
      exact ok_lm_askOf_c26 hq x1 (lm_askOf_c12 x1 n) (ih) zN y2 y3 (0 : Int) (0 : Int) M d6 d7 h
def lm_askOf (x1 : Int) (M : Nat → Nat → Int) : Option (Int × (Nat → Nat → Int)) :=
    ((lm_bits x1 M).bind (fun v2 =>
    ((some (zup M 106 32 v2)).bind (fun M5 =>
    (lm_askOf_c12 x1 zN (-1 : Int) (0 : Int) M5)))))
set_option maxRecDepth 100000 in
theorem ok_lm_askOf {sc : zSc} {x1 : Int} {M : Nat → Nat → Int} {P : Int → (Nat → Nat → Int) → Prop} (h : zS (lm_askOf x1 M) (fun r => P r.1 r.2)) : zCi sc 286 [.inr (.inr 106), .inl x1] M P := by
  have ea : zarg (zml 286) [.inr (.inr 106), .inl x1] = [some (.inr (.inr 106)), some (.inl x1), none, none, none, none, none, none] := by rw [zm_286]; rfl
  unfold zCi zCw
  rw [ea, zr_286]
  have hq : 1 ≤ 1 := Nat.le_refl _
  unfold lm_askOf at h
  have h := zS_mono h (fun x hx => (⟨x.1, rfl, hx⟩ : ∃ y, (some (.inl x.1) : Option zV) = some (.inl y) ∧ P y x.2))
  skip
  refine E_aload_n (pc := 0) (zDk zD_286_ok 0 rfl) rfl ?_
  refine E_iload_n (pc := 1) (zDk zD_286_ok 1 rfl) rfl ?_
  obtain ⟨v2, e2, h⟩ := zS_bind h
  refine E_staI (pc := 2) (c := 177) (as := [.inl x1]) (rest := [.inr (.inr 106)]) (zDk zD_286_ok 2 rfl) zc_286 (by decide +kernel) (by decide +kernel) zk_177 ⟨(Nat.le_of_ble_eq_true rfl), rfl, rfl⟩ (Nat.le_of_ble_eq_true rfl) (zr_177 _) (Nat.lt_of_lt_of_le (by decide) hq) (by rw [zm_177]; exact (Nat.le_of_ble_eq_true rfl)) (ok_lm_bits ⟨v2, e2, ?_⟩)
  obtain ⟨M5, e5, h⟩ := zS_bind h
  refine W_putI (pc := 5) (ci := 8) (f := 32) (zDk zD_286_ok 3 rfl) zc_286 (by decide +kernel) (by decide) zis_8_106 (Option.some.inj e5) ?_
  refine E_iconst (pc := 8) (zDk zD_286_ok 4 rfl) (by decide +kernel) ?_
  refine W_istore_n (pc := 9) (L' := [some (.inr (.inr 106)), some (.inl x1), some (.inl (-1 : Int)), none, none, none, none, none]) (zDk zD_286_ok 5 rfl) zm_286 (by decide) rfl ?_
  refine E_iconst (pc := 10) (zDk zD_286_ok 6 rfl) (by decide +kernel) ?_
  refine W_istore_n (pc := 11) (L' := [some (.inr (.inr 106)), some (.inl x1), some (.inl (-1 : Int)), some (.inl (0 : Int)), none, none, none, none]) (zDk zD_286_ok 7 rfl) zm_286 (by decide) rfl ?_
  exact ok_lm_askOf_c12 hq x1 zN (-1 : Int) (0 : Int) M5 none none none none h
def zD_291 : List (Nat × Instr × Nat) := [(0, .aload_n (0), 1), (1, .invokevirtual (95), 3), (4, .ifCond .eq (25), 3), (7, .iload_n (1), 1), (8, .i2l, 1), (9, .lconst (0), 1), (10, .iconst (1), 1), (11, .aload_n (0), 1), (12, .invokevirtual (279), 3), (15, .ishl, 1), (16, .iconst (1), 1), (17, .isub, 1), (18, .i2l, 1), (19, .invokestatic (91), 3), (22, .ifCond .eq (7), 3), (25, .iconst (1), 1), (26, .goto (4), 3), (29, .iconst (0), 1), (30, .ireturn, 1)]
set_option maxRecDepth 100000 in
theorem zD_291_ok : zDo 291 zD_291 = true := by decide +kernel
theorem zc_291 : zcls 291 = 8 := by decide +kernel
theorem zm_291 : zml 291 = 2 := by decide +kernel
theorem zt_291 : zrt 291 = (some (.boolean)) := by decide +kernel
theorem zk_291 : zkd 291 = 1 ∧ znp 291 + 1 = 2 := by decide +kernel
theorem zr_291 (as : List zV) : zrk 291 as = 1 := by unfold zrk; rw [if_neg (by decide)]; decide +kernel
def lm_isSet (x1 : Int) (M : Nat → Nat → Int) : Option Int :=
    ((lm_isState M).bind (fun v1 =>
    (if v1 = 0 then
    (some (0 : Int))
    else
    ((lm_names M).bind (fun v12 =>
    ((lm_in x1 (0 : Int) (w32 ((zshl (1 : Int) v12) - (1 : Int))) M).bind (fun v19 =>
    (if v19 = 0 then
    (some (0 : Int))
    else
    (some (1 : Int))))))))))
set_option maxRecDepth 100000 in
theorem ok_lm_isSet {sc : zSc} {x1 : Int} {M : Nat → Nat → Int} {P : Int → (Nat → Nat → Int) → Prop} (h : zS (lm_isSet x1 M) (fun x => P x M)) : zCi sc 291 [.inr (.inr 106), .inl x1] M P := by
  have ea : zarg (zml 291) [.inr (.inr 106), .inl x1] = [some (.inr (.inr 106)), some (.inl x1)] := by rw [zm_291]; rfl
  unfold zCi zCw
  rw [ea, zr_291]
  have hq : 1 ≤ 1 := Nat.le_refl _
  unfold lm_isSet at h
  have h := zS_mono h (fun x hx => (⟨x, rfl, hx⟩ : ∃ y, (some (.inl x) : Option zV) = some (.inl y) ∧ P y M))
  skip
  refine E_aload_n (pc := 0) (zDk zD_291_ok 0 rfl) rfl ?_
  obtain ⟨v1, e1, h⟩ := zS_bind h
  refine E_virI (pc := 1) (c := 181) (r := 106) (as := []) (rest := []) (zDk zD_291_ok 1 rfl) zc_291 (by decide +kernel) zk_181 ⟨(Nat.le_of_ble_eq_true rfl), rfl, rfl⟩ (Nat.le_of_ble_eq_true rfl) (zr_181 _) (Nat.lt_of_lt_of_le (by decide) hq) (by rw [zm_181]; exact (Nat.le_of_ble_eq_true rfl)) ⟨zc_181, by decide⟩ zis_8_106 (ok_lm_isState ⟨v1, e1, ?_⟩)
  refine E_if (pc := 4) (t := 29) (zDk zD_291_ok 2 rfl) rfl (fun hz => ?_) (fun hz => ?_)
  · have h := zS_t h (T_eq hz)
    refine E_iconst (pc := 29) (zDk zD_291_ok 17 rfl) (by decide +kernel) ?_
    have h := zS_some h
    exact E_ireturnZ (pc := 30) (zDk zD_291_ok 18 rfl) zt_291 (by decide) h
  · have h := zS_f h (F_eq hz)
    refine E_iload_n (pc := 7) (zDk zD_291_ok 3 rfl) rfl ?_
    refine E_i2l (pc := 8) (zDk zD_291_ok 4 rfl) ?_
    refine E_lconst (pc := 9) (v := 0) (zDk zD_291_ok 5 rfl) (by decide +kernel) ?_
    refine E_iconst (pc := 10) (zDk zD_291_ok 6 rfl) (by decide +kernel) ?_
    refine E_aload_n (pc := 11) (zDk zD_291_ok 7 rfl) rfl ?_
    obtain ⟨v12, e12, h⟩ := zS_bind h
    refine E_virI (pc := 12) (c := 189) (r := 106) (as := []) (rest := [.inl (1 : Int), .inr (.inl (0 : Int)), .inr (.inl x1)]) (zDk zD_291_ok 8 rfl) zc_291 (by decide +kernel) zk_189 ⟨(Nat.le_of_ble_eq_true rfl), rfl, rfl⟩ (Nat.le_of_ble_eq_true rfl) (zr_189 _) (Nat.lt_of_lt_of_le (by decide) hq) (by rw [zm_189]; exact (Nat.le_of_ble_eq_true rfl)) ⟨zc_189, by decide⟩ zis_8_106 (ok_lm_names ⟨v12, e12, ?_⟩)
    refine E_ishl (pc := 15) (zDk zD_291_ok 9 rfl) ?_
    refine E_iconst (pc := 16) (zDk zD_291_ok 10 rfl) (by decide +kernel) ?_
    refine W_isub (pc := 17) (zDk zD_291_ok 11 rfl) ?_
    refine E_i2l (pc := 18) (zDk zD_291_ok 12 rfl) ?_
    obtain ⟨v19, e19, h⟩ := zS_bind h
    refine E_staI (pc := 19) (c := 176) (as := [.inr (.inl x1), .inr (.inl (0 : Int)), .inr (.inl (w32 ((zshl (1 : Int) v12) - (1 : Int))))]) (rest := []) (zDk zD_291_ok 13 rfl) zc_291 (by decide +kernel) (by decide +kernel) zk_176 ⟨(Nat.le_of_ble_eq_true rfl), rfl, rfl⟩ (Nat.le_of_ble_eq_true rfl) (zr_176 _) (Nat.lt_of_lt_of_le (by decide) hq) (by rw [zm_176]; exact (Nat.le_of_ble_eq_true rfl)) (ok_lm_in ⟨v19, e19, ?_⟩)
    refine E_if (pc := 22) (t := 29) (zDk zD_291_ok 14 rfl) rfl (fun hz => ?_) (fun hz => ?_)
    · have h := zS_t h (T_eq hz)
      refine E_iconst (pc := 29) (zDk zD_291_ok 17 rfl) (by decide +kernel) ?_
      have h := zS_some h
      exact E_ireturnZ (pc := 30) (zDk zD_291_ok 18 rfl) zt_291 (by decide) h
    · have h := zS_f h (F_eq hz)
      refine E_iconst (pc := 25) (zDk zD_291_ok 15 rfl) (by decide +kernel) ?_
      refine E_goto (pc := 26) (t := 30) (zDk zD_291_ok 16 rfl) rfl ?_
      have h := zS_some h
      exact E_ireturnZ (pc := 30) (zDk zD_291_ok 18 rfl) zt_291 (by decide) h
def zD_292 : List (Nat × Instr × Nat) := [(0, .iconst (0), 1), (1, .istore_n (2), 1), (2, .iconst (0), 1), (3, .istore_n (3), 1), (4, .iload_n (3), 1), (5, .aload_n (0), 1), (6, .getfield (9), 3), (9, .bipush (7), 2), (11, .iaload, 1), (12, .if_icmp .ge (29), 3), (15, .iload_n (2), 1), (16, .aload_n (0), 1), (17, .iload_n (3), 1), (18, .invokevirtual (273), 3), (21, .iload_n (1), 1), (22, .iconst (-1), 1), (23, .ixor, 1), (24, .iand, 1), (25, .ifCond .ne (7), 3), (28, .iconst (1), 1), (29, .goto (4), 3), (32, .iconst (0), 1), (33, .iadd, 1), (34, .istore_n (2), 1), (35, .iinc (3) (1), 3), (38, .goto (-34), 3), (41, .iload_n (2), 1), (42, .ireturn, 1)]
set_option maxRecDepth 100000 in
theorem zD_292_ok : zDo 292 zD_292 = true := by decide +kernel
theorem zc_292 : zcls 292 = 8 := by decide +kernel
theorem zm_292 : zml 292 = 4 := by decide +kernel
theorem zt_292 : zrt 292 = (some (.int)) := by decide +kernel
theorem zk_292 : zkd 292 = 1 ∧ znp 292 + 1 = 2 := by decide +kernel
theorem zr_292 (as : List zV) : zrk 292 as = 1 := by unfold zrk; rw [if_neg (by decide)]; decide +kernel
def lm_worthOf_c4 (x1 : Int) (M : Nat → Nat → Int) : Nat → Int → Int → Option Int
  | 0, _, _ => none
  | n + 1, y2, y3 =>
    ((rdI 107 (7 : Int) M).bind (fun v11 =>
    (if y3 < v11 then
    ((lm_namesOf y3 M).bind (fun v18 =>
    (if (zand v18 (zxor x1 (-1 : Int))) = 0 then
    ((lm_worthOf_c4 x1 M n) (w32 (y2 + (1 : Int))) (w32 (y3 + 1)))
    else
    ((lm_worthOf_c4 x1 M n) (w32 (y2 + (0 : Int))) (w32 (y3 + 1))))))
    else
    (some y2))))
set_option maxRecDepth 100000 in
theorem ok_lm_worthOf_c4 {sc : zSc} {q : Nat} {P : Option zV → (Nat → Nat → Int) → Prop} (hq : 1 ≤ q) (x1 : Int) (M : Nat → Nat → Int) : ∀ (n : Nat) (y2 : Int) (y3 : Int), zS (lm_worthOf_c4 x1 M n y2 y3) (fun x => P (some (.inl x)) M) → zWp sc q 292 4 [some (.inr (.inr 106)), some (.inl x1), some (.inl y2), some (.inl y3)] [] M P := by
  intro n
  induction n with
  | zero => intro y2 y3 h; exact (zS_none h).elim
  | succ n ih =>
    intro y2 y3 h
    rw [lm_worthOf_c4] at h
    refine E_iload_n (pc := 4) (zDk zD_292_ok 4 rfl) rfl ?_
    refine E_aload_n (pc := 5) (zDk zD_292_ok 5 rfl) rfl ?_
    refine E_getR (pc := 6) (ci := 8) (f := 1) (r := 107) (zDk zD_292_ok 6 rfl) zc_292 (by decide +kernel) (by decide) zis_8_106 (by decide +kernel) (by decide) ?_
    refine E_bipush (pc := 9) (zDk zD_292_ok 7 rfl) (by decide +kernel) ?_
    obtain ⟨v11, e11, h⟩ := zS_bind h
    refine E_iaload (pc := 11) (zDk zD_292_ok 8 rfl) e11 ?_
    refine E_icmp (pc := 12) (t := 41) (zDk zD_292_ok 9 rfl) rfl (fun hz => ?_) (fun hz => ?_)
    · have h := zS_f h (Int.not_lt.mpr (T_ge hz))
      refine E_iload_n (pc := 41) (zDk zD_292_ok 26 rfl) rfl ?_
      have h := zS_some h
      exact E_ireturn (pc := 42) (zDk zD_292_ok 27 rfl) zt_292 h
    · have h := zS_t h (F_ge hz)
      refine E_iload_n (pc := 15) (zDk zD_292_ok 10 rfl) rfl ?_
      refine E_aload_n (pc := 16) (zDk zD_292_ok 11 rfl) rfl ?_
      refine E_iload_n (pc := 17) (zDk zD_292_ok 12 rfl) rfl ?_
      obtain ⟨v18, e18, h⟩ := zS_bind h
      refine E_virI (pc := 18) (c := 191) (r := 106) (as := [.inl y3]) (rest := [.inl y2]) (zDk zD_292_ok 13 rfl) zc_292 (by decide +kernel) zk_191 ⟨(Nat.le_of_ble_eq_true rfl), rfl, rfl⟩ (Nat.le_of_ble_eq_true rfl) (zr_191 _) (Nat.lt_of_lt_of_le (by decide) hq) (by rw [zm_191]; exact (Nat.le_of_ble_eq_true rfl)) ⟨zc_191, by decide⟩ zis_8_106 (ok_lm_namesOf ⟨v18, e18, ?_⟩)
      refine E_iload_n (pc := 21) (zDk zD_292_ok 14 rfl) rfl ?_
      refine E_iconst (pc := 22) (zDk zD_292_ok 15 rfl) (by decide +kernel) ?_
      refine E_ixor (pc := 23) (zDk zD_292_ok 16 rfl) ?_
      refine E_iand (pc := 24) (zDk zD_292_ok 17 rfl) ?_
      refine E_if (pc := 25) (t := 32) (zDk zD_292_ok 18 rfl) rfl (fun hz => ?_) (fun hz => ?_)
      · have h := zS_f h (T_ne hz)
        refine E_iconst (pc := 32) (zDk zD_292_ok 21 rfl) (by decide +kernel) ?_
        refine W_iadd (pc := 33) (zDk zD_292_ok 22 rfl) ?_
        refine W_istore_n (pc := 34) (L' := [some (.inr (.inr 106)), some (.inl x1), some (.inl (w32 (y2 + (0 : Int)))), some (.inl y3)]) (zDk zD_292_ok 23 rfl) zm_292 (by decide) rfl ?_
        refine W_iinc (pc := 35) (L' := [some (.inr (.inr 106)), some (.inl x1), some (.inl (w32 (y2 + (0 : Int)))), some (.inl (w32 (y3 + 1)))]) (zDk zD_292_ok 24 rfl) rfl zm_292 (by decide) rfl ?_
        refine E_goto (pc := 38) (t := 4) (zDk zD_292_ok 25 rfl) rfl ?_
        exact (ih) (w32 (y2 + (0 : Int))) (w32 (y3 + 1)) h
      · have h := zS_t h (F_ne hz)
        refine E_iconst (pc := 28) (zDk zD_292_ok 19 rfl) (by decide +kernel) ?_
        refine E_goto (pc := 29) (t := 33) (zDk zD_292_ok 20 rfl) rfl ?_
        refine W_iadd (pc := 33) (zDk zD_292_ok 22 rfl) ?_
        refine W_istore_n (pc := 34) (L' := [some (.inr (.inr 106)), some (.inl x1), some (.inl (w32 (y2 + (1 : Int)))), some (.inl y3)]) (zDk zD_292_ok 23 rfl) zm_292 (by decide) rfl ?_
        refine W_iinc (pc := 35) (L' := [some (.inr (.inr 106)), some (.inl x1), some (.inl (w32 (y2 + (1 : Int)))), some (.inl (w32 (y3 + 1)))]) (zDk zD_292_ok 24 rfl) rfl zm_292 (by decide) rfl ?_
        refine E_goto (pc := 38) (t := 4) (zDk zD_292_ok 25 rfl) rfl ?_
        exact (ih) (w32 (y2 + (1 : Int))) (w32 (y3 + 1)) h
def lm_worthOf (x1 : Int) (M : Nat → Nat → Int) : Option Int :=
    (lm_worthOf_c4 x1 M zN (0 : Int) (0 : Int))
set_option maxRecDepth 100000 in
theorem ok_lm_worthOf {sc : zSc} {x1 : Int} {M : Nat → Nat → Int} {P : Int → (Nat → Nat → Int) → Prop} (h : zS (lm_worthOf x1 M) (fun x => P x M)) : zCi sc 292 [.inr (.inr 106), .inl x1] M P := by
  have ea : zarg (zml 292) [.inr (.inr 106), .inl x1] = [some (.inr (.inr 106)), some (.inl x1), none, none] := by rw [zm_292]; rfl
  unfold zCi zCw
  rw [ea, zr_292]
  have hq : 1 ≤ 1 := Nat.le_refl _
  unfold lm_worthOf at h
  have h := zS_mono h (fun x hx => (⟨x, rfl, hx⟩ : ∃ y, (some (.inl x) : Option zV) = some (.inl y) ∧ P y M))
  skip
  refine E_iconst (pc := 0) (zDk zD_292_ok 0 rfl) (by decide +kernel) ?_
  refine W_istore_n (pc := 1) (L' := [some (.inr (.inr 106)), some (.inl x1), some (.inl (0 : Int)), none]) (zDk zD_292_ok 1 rfl) zm_292 (by decide) rfl ?_
  refine E_iconst (pc := 2) (zDk zD_292_ok 2 rfl) (by decide +kernel) ?_
  refine W_istore_n (pc := 3) (L' := [some (.inr (.inr 106)), some (.inl x1), some (.inl (0 : Int)), some (.inl (0 : Int))]) (zDk zD_292_ok 3 rfl) zm_292 (by decide) rfl ?_
  exact ok_lm_worthOf_c4 hq x1 M zN (0 : Int) (0 : Int) h
def zD_295 : List (Nat × Instr × Nat) := [(0, .lload_n (0), 1), (1, .invokestatic (404), 3), (4, .lstore (4), 2), (6, .lload_n (2), 1), (7, .lstore (6), 2), (9, .lload (6), 2), (11, .lconst (0), 1), (12, .lcmp, 1), (13, .ifCond .eq (21), 3), (16, .lload (4), 2), (18, .lload (6), 2), (20, .lrem, 1), (21, .lstore (8), 2), (23, .lload (6), 2), (25, .lstore (4), 2), (27, .lload (8), 2), (29, .lstore (6), 2), (31, .goto (-22), 3), (34, .lload (4), 2), (36, .lreturn, 1)]
set_option maxRecDepth 100000 in
theorem zD_295_ok : zDo 295 zD_295 = true := by decide +kernel
theorem zc_295 : zcls 295 = 8 := by decide +kernel
theorem zm_295 : zml 295 = 10 := by decide +kernel
theorem zt_295 : zrt 295 = (some (.long)) := by decide +kernel
theorem zk_295 : zkd 295 = 0 ∧ znp 295 = 2 := by decide +kernel
theorem zr_295 (as : List zV) : zrk 295 as = 1 := by unfold zrk; rw [if_neg (by decide)]; decide +kernel
def lm_divisor_c9 (x0 : Int) (x2 : Int) (M : Nat → Nat → Int) : Nat → Int → Int → Option Int
  | 0, _, _ => none
  | n + 1, y4, y6 =>
    (if y6 = (0 : Int) then
    (some y4)
    else
    (if y6 = 0 then none else ((lm_divisor_c9 x0 x2 M n) y6 (zremL y4 y6))))
set_option maxRecDepth 100000 in
theorem ok_lm_divisor_c9 {sc : zSc} {q : Nat} {P : Option zV → (Nat → Nat → Int) → Prop} (hq : 1 ≤ q) (x0 : Int) (x2 : Int) (M : Nat → Nat → Int) : ∀ (n : Nat) (y4 : Int) (y6 : Int) (d8 d9 : Option zV), zS (lm_divisor_c9 x0 x2 M n y4 y6) (fun x => P (some (.inr (.inl x))) M) → zWp sc q 295 9 [some (.inr (.inl x0)), none, some (.inr (.inl x2)), none, some (.inr (.inl y4)), none, some (.inr (.inl y6)), none, d8, d9] [] M P := by
  intro n
  induction n with
  | zero => intro y4 y6 d8 d9 h; exact (zS_none h).elim
  | succ n ih =>
    intro y4 y6 d8 d9 h
    rw [lm_divisor_c9] at h
    refine E_lload (pc := 9) (zDk zD_295_ok 5 rfl) rfl ?_
    refine E_lconst (pc := 11) (v := 0) (zDk zD_295_ok 6 rfl) (by decide +kernel) ?_
    refine W_lcmp (pc := 12) (zDk zD_295_ok 7 rfl) ?_
    refine E_if (pc := 13) (t := 34) (zDk zD_295_ok 8 rfl) rfl (fun hz => ?_) (fun hz => ?_)
    · have h := zS_t h (zlc_eq (T_eq hz))
      refine E_lload (pc := 34) (zDk zD_295_ok 18 rfl) rfl ?_
      have h := zS_some h
      exact E_lreturn (pc := 36) (zDk zD_295_ok 19 rfl) zt_295 h
    · have h := zS_f h (zlc_ne (F_eq hz))
      refine E_lload (pc := 16) (zDk zD_295_ok 9 rfl) rfl ?_
      refine E_lload (pc := 18) (zDk zD_295_ok 10 rfl) rfl ?_
      have hn20 : ¬ (y6 = 0) := fun e => by rw [if_pos e] at h; exact zS_none h
      have h := zS_f h hn20
      refine E_lrem (pc := 20) (zDk zD_295_ok 11 rfl) hn20 ?_
      refine W_lstore (pc := 21) (L' := [some (.inr (.inl x0)), none, some (.inr (.inl x2)), none, some (.inr (.inl y4)), none, some (.inr (.inl y6)), none, some (.inr (.inl (zremL y4 y6))), none]) (zDk zD_295_ok 12 rfl) zm_295 (by decide) rfl ?_
      refine E_lload (pc := 23) (zDk zD_295_ok 13 rfl) rfl ?_
      refine W_lstore (pc := 25) (L' := [some (.inr (.inl x0)), none, some (.inr (.inl x2)), none, some (.inr (.inl y6)), none, some (.inr (.inl y6)), none, some (.inr (.inl (zremL y4 y6))), none]) (zDk zD_295_ok 14 rfl) zm_295 (by decide) rfl ?_
      refine E_lload (pc := 27) (zDk zD_295_ok 15 rfl) rfl ?_
      refine W_lstore (pc := 29) (L' := [some (.inr (.inl x0)), none, some (.inr (.inl x2)), none, some (.inr (.inl y6)), none, some (.inr (.inl (zremL y4 y6))), none, some (.inr (.inl (zremL y4 y6))), none]) (zDk zD_295_ok 16 rfl) zm_295 (by decide) rfl ?_
      refine E_goto (pc := 31) (t := 9) (zDk zD_295_ok 17 rfl) rfl ?_
      exact (ih) y6 (zremL y4 y6) (some (.inr (.inl (zremL y4 y6)))) none h
def lm_divisor (x0 : Int) (x2 : Int) (M : Nat → Nat → Int) : Option Int :=
    (lm_divisor_c9 x0 x2 M zN (zabs x0) x2)
set_option maxRecDepth 100000 in
theorem ok_lm_divisor {sc : zSc} {x0 : Int} {x2 : Int} {M : Nat → Nat → Int} {P : Int → (Nat → Nat → Int) → Prop} (h : zS (lm_divisor x0 x2 M) (fun x => P x M)) : zCl sc 295 [.inr (.inl x0), .inr (.inl x2)] M P := by
  have ea : zarg (zml 295) [.inr (.inl x0), .inr (.inl x2)] = [some (.inr (.inl x0)), none, some (.inr (.inl x2)), none, none, none, none, none, none, none] := by rw [zm_295]; rfl
  unfold zCl zCw
  rw [ea, zr_295]
  have hq : 1 ≤ 1 := Nat.le_refl _
  unfold lm_divisor at h
  have h := zS_mono h (fun x hx => (⟨x, rfl, hx⟩ : ∃ y, (some (.inr (.inl x)) : Option zV) = some (.inr (.inl y)) ∧ P y M))
  skip
  refine E_lload_n (pc := 0) (zDk zD_295_ok 0 rfl) rfl ?_
  refine W_abs (pc := 1) (zDk zD_295_ok 1 rfl) zc_295 (by decide +kernel) (Nat.le_of_ble_eq_true rfl) (Nat.lt_of_lt_of_le (by decide) hq) ?_
  refine W_lstore (pc := 4) (L' := [some (.inr (.inl x0)), none, some (.inr (.inl x2)), none, some (.inr (.inl (zabs x0))), none, none, none, none, none]) (zDk zD_295_ok 2 rfl) zm_295 (by decide) rfl ?_
  refine E_lload_n (pc := 6) (zDk zD_295_ok 3 rfl) rfl ?_
  refine W_lstore (pc := 7) (L' := [some (.inr (.inl x0)), none, some (.inr (.inl x2)), none, some (.inr (.inl (zabs x0))), none, some (.inr (.inl x2)), none, none, none]) (zDk zD_295_ok 4 rfl) zm_295 (by decide) rfl ?_
  exact ok_lm_divisor_c9 hq x0 x2 M zN (zabs x0) x2 none none h
def zD_308 : List (Nat × Instr × Nat) := [(0, .aload_n (0), 1), (1, .invokevirtual (95), 3), (4, .ifCond .ne (6), 3), (7, .bipush (-2), 2), (9, .ireturn, 1), (10, .aload_n (0), 1), (11, .getfield (9), 3), (14, .bipush (8), 2), (16, .iaload, 1), (17, .ifCond .ne (6), 3), (20, .bipush (-5), 2), (22, .ireturn, 1), (23, .aload_n (0), 1), (24, .getfield (9), 3), (27, .bipush (8), 2), (29, .dup2, 1), (30, .iaload, 1), (31, .iconst (1), 1), (32, .isub, 1), (33, .iastore, 1), (34, .aload_n (0), 1), (35, .getfield (9), 3), (38, .bipush (8), 2), (40, .iaload, 1), (41, .ireturn, 1)]
set_option maxRecDepth 100000 in
theorem zD_308_ok : zDo 308 zD_308 = true := by decide +kernel
theorem zc_308 : zcls 308 = 8 := by decide +kernel
theorem zm_308 : zml 308 = 1 := by decide +kernel
theorem zt_308 : zrt 308 = (some (.int)) := by decide +kernel
theorem zk_308 : zkd 308 = 1 ∧ znp 308 + 1 = 1 := by decide +kernel
theorem zr_308 (as : List zV) : zrk 308 as = 1 := by unfold zrk; rw [if_neg (by decide)]; decide +kernel
def lm_undo (M : Nat → Nat → Int) : Option (Int × (Nat → Nat → Int)) :=
    ((lm_isState M).bind (fun v1 =>
    (if v1 = 0 then
    (some ((-2 : Int), M))
    else
    ((rdI 107 (8 : Int) M).bind (fun v16 =>
    (if v16 = 0 then
    (some ((-5 : Int), M))
    else
    ((rdI 107 (8 : Int) M).bind (fun v30 =>
    ((wrI 107 (8 : Int) (w32 (v30 - (1 : Int))) M).bind (fun M33 =>
    ((rdI 107 (8 : Int) M33).bind (fun v40 =>
    (some (v40, M33))))))))))))))
set_option maxRecDepth 100000 in
theorem ok_lm_undo {sc : zSc} {M : Nat → Nat → Int} {P : Int → (Nat → Nat → Int) → Prop} (h : zS (lm_undo M) (fun r => P r.1 r.2)) : zCi sc 308 [.inr (.inr 106)] M P := by
  have ea : zarg (zml 308) [.inr (.inr 106)] = [some (.inr (.inr 106))] := by rw [zm_308]; rfl
  unfold zCi zCw
  rw [ea, zr_308]
  have hq : 1 ≤ 1 := Nat.le_refl _
  unfold lm_undo at h
  have h := zS_mono h (fun x hx => (⟨x.1, rfl, hx⟩ : ∃ y, (some (.inl x.1) : Option zV) = some (.inl y) ∧ P y x.2))
  skip
  refine E_aload_n (pc := 0) (zDk zD_308_ok 0 rfl) rfl ?_
  obtain ⟨v1, e1, h⟩ := zS_bind h
  refine E_virI (pc := 1) (c := 181) (r := 106) (as := []) (rest := []) (zDk zD_308_ok 1 rfl) zc_308 (by decide +kernel) zk_181 ⟨(Nat.le_of_ble_eq_true rfl), rfl, rfl⟩ (Nat.le_of_ble_eq_true rfl) (zr_181 _) (Nat.lt_of_lt_of_le (by decide) hq) (by rw [zm_181]; exact (Nat.le_of_ble_eq_true rfl)) ⟨zc_181, by decide⟩ zis_8_106 (ok_lm_isState ⟨v1, e1, ?_⟩)
  refine E_if (pc := 4) (t := 10) (zDk zD_308_ok 2 rfl) rfl (fun hz => ?_) (fun hz => ?_)
  · have h := zS_f h (T_ne hz)
    refine E_aload_n (pc := 10) (zDk zD_308_ok 5 rfl) rfl ?_
    refine E_getR (pc := 11) (ci := 8) (f := 1) (r := 107) (zDk zD_308_ok 6 rfl) zc_308 (by decide +kernel) (by decide) zis_8_106 (by decide +kernel) (by decide) ?_
    refine E_bipush (pc := 14) (zDk zD_308_ok 7 rfl) (by decide +kernel) ?_
    obtain ⟨v16, e16, h⟩ := zS_bind h
    refine E_iaload (pc := 16) (zDk zD_308_ok 8 rfl) e16 ?_
    refine E_if (pc := 17) (t := 23) (zDk zD_308_ok 9 rfl) rfl (fun hz => ?_) (fun hz => ?_)
    · have h := zS_f h (T_ne hz)
      refine E_aload_n (pc := 23) (zDk zD_308_ok 12 rfl) rfl ?_
      refine E_getR (pc := 24) (ci := 8) (f := 1) (r := 107) (zDk zD_308_ok 13 rfl) zc_308 (by decide +kernel) (by decide) zis_8_106 (by decide +kernel) (by decide) ?_
      refine E_bipush (pc := 27) (zDk zD_308_ok 14 rfl) (by decide +kernel) ?_
      refine E_dup2 (pc := 29) (zDk zD_308_ok 15 rfl) rfl rfl ?_
      obtain ⟨v30, e30, h⟩ := zS_bind h
      refine E_iaload (pc := 30) (zDk zD_308_ok 16 rfl) e30 ?_
      refine E_iconst (pc := 31) (zDk zD_308_ok 17 rfl) (by decide +kernel) ?_
      refine W_isub (pc := 32) (zDk zD_308_ok 18 rfl) ?_
      obtain ⟨M33, e33, h⟩ := zS_bind h
      refine E_iastore (pc := 33) (zDk zD_308_ok 19 rfl) e33 ?_
      refine E_aload_n (pc := 34) (zDk zD_308_ok 20 rfl) rfl ?_
      refine E_getR (pc := 35) (ci := 8) (f := 1) (r := 107) (zDk zD_308_ok 21 rfl) zc_308 (by decide +kernel) (by decide) zis_8_106 (by decide +kernel) (by decide) ?_
      refine E_bipush (pc := 38) (zDk zD_308_ok 22 rfl) (by decide +kernel) ?_
      obtain ⟨v40, e40, h⟩ := zS_bind h
      refine E_iaload (pc := 40) (zDk zD_308_ok 23 rfl) e40 ?_
      have h := zS_some h
      exact E_ireturn (pc := 41) (zDk zD_308_ok 24 rfl) zt_308 h
    · have h := zS_t h (F_ne hz)
      refine E_bipush (pc := 20) (zDk zD_308_ok 10 rfl) (by decide +kernel) ?_
      have h := zS_some h
      exact E_ireturn (pc := 22) (zDk zD_308_ok 11 rfl) zt_308 h
  · have h := zS_t h (F_ne hz)
    refine E_bipush (pc := 7) (zDk zD_308_ok 3 rfl) (by decide +kernel) ?_
    have h := zS_some h
    exact E_ireturn (pc := 9) (zDk zD_308_ok 4 rfl) zt_308 h
def zD_309 : List (Nat × Instr × Nat) := [(0, .aload_n (0), 1), (1, .invokevirtual (95), 3), (4, .ifCond .ne (6), 3), (7, .bipush (-2), 2), (9, .ireturn, 1), (10, .aload_n (0), 1), (11, .getfield (9), 3), (14, .bipush (8), 2), (16, .iaload, 1), (17, .istore_n (1), 1), (18, .aload_n (0), 1), (19, .getfield (9), 3), (22, .bipush (8), 2), (24, .iconst (0), 1), (25, .iastore, 1), (26, .iload_n (1), 1), (27, .ireturn, 1)]
set_option maxRecDepth 100000 in
theorem zD_309_ok : zDo 309 zD_309 = true := by decide +kernel
theorem zc_309 : zcls 309 = 8 := by decide +kernel
theorem zm_309 : zml 309 = 2 := by decide +kernel
theorem zt_309 : zrt 309 = (some (.int)) := by decide +kernel
theorem zk_309 : zkd 309 = 1 ∧ znp 309 + 1 = 1 := by decide +kernel
theorem zr_309 (as : List zV) : zrk 309 as = 1 := by unfold zrk; rw [if_neg (by decide)]; decide +kernel
def lm_anew (M : Nat → Nat → Int) : Option (Int × (Nat → Nat → Int)) :=
    ((lm_isState M).bind (fun v1 =>
    (if v1 = 0 then
    (some ((-2 : Int), M))
    else
    ((rdI 107 (8 : Int) M).bind (fun v16 =>
    ((wrI 107 (8 : Int) (0 : Int) M).bind (fun M25 =>
    (some (v16, M25)))))))))
set_option maxRecDepth 100000 in
theorem ok_lm_anew {sc : zSc} {M : Nat → Nat → Int} {P : Int → (Nat → Nat → Int) → Prop} (h : zS (lm_anew M) (fun r => P r.1 r.2)) : zCi sc 309 [.inr (.inr 106)] M P := by
  have ea : zarg (zml 309) [.inr (.inr 106)] = [some (.inr (.inr 106)), none] := by rw [zm_309]; rfl
  unfold zCi zCw
  rw [ea, zr_309]
  have hq : 1 ≤ 1 := Nat.le_refl _
  unfold lm_anew at h
  have h := zS_mono h (fun x hx => (⟨x.1, rfl, hx⟩ : ∃ y, (some (.inl x.1) : Option zV) = some (.inl y) ∧ P y x.2))
  skip
  refine E_aload_n (pc := 0) (zDk zD_309_ok 0 rfl) rfl ?_
  obtain ⟨v1, e1, h⟩ := zS_bind h
  refine E_virI (pc := 1) (c := 181) (r := 106) (as := []) (rest := []) (zDk zD_309_ok 1 rfl) zc_309 (by decide +kernel) zk_181 ⟨(Nat.le_of_ble_eq_true rfl), rfl, rfl⟩ (Nat.le_of_ble_eq_true rfl) (zr_181 _) (Nat.lt_of_lt_of_le (by decide) hq) (by rw [zm_181]; exact (Nat.le_of_ble_eq_true rfl)) ⟨zc_181, by decide⟩ zis_8_106 (ok_lm_isState ⟨v1, e1, ?_⟩)
  refine E_if (pc := 4) (t := 10) (zDk zD_309_ok 2 rfl) rfl (fun hz => ?_) (fun hz => ?_)
  · have h := zS_f h (T_ne hz)
    refine E_aload_n (pc := 10) (zDk zD_309_ok 5 rfl) rfl ?_
    refine E_getR (pc := 11) (ci := 8) (f := 1) (r := 107) (zDk zD_309_ok 6 rfl) zc_309 (by decide +kernel) (by decide) zis_8_106 (by decide +kernel) (by decide) ?_
    refine E_bipush (pc := 14) (zDk zD_309_ok 7 rfl) (by decide +kernel) ?_
    obtain ⟨v16, e16, h⟩ := zS_bind h
    refine E_iaload (pc := 16) (zDk zD_309_ok 8 rfl) e16 ?_
    refine W_istore_n (pc := 17) (L' := [some (.inr (.inr 106)), some (.inl v16)]) (zDk zD_309_ok 9 rfl) zm_309 (by decide) rfl ?_
    refine E_aload_n (pc := 18) (zDk zD_309_ok 10 rfl) rfl ?_
    refine E_getR (pc := 19) (ci := 8) (f := 1) (r := 107) (zDk zD_309_ok 11 rfl) zc_309 (by decide +kernel) (by decide) zis_8_106 (by decide +kernel) (by decide) ?_
    refine E_bipush (pc := 22) (zDk zD_309_ok 12 rfl) (by decide +kernel) ?_
    refine E_iconst (pc := 24) (zDk zD_309_ok 13 rfl) (by decide +kernel) ?_
    obtain ⟨M25, e25, h⟩ := zS_bind h
    refine E_iastore (pc := 25) (zDk zD_309_ok 14 rfl) e25 ?_
    refine E_iload_n (pc := 26) (zDk zD_309_ok 15 rfl) rfl ?_
    have h := zS_some h
    exact E_ireturn (pc := 27) (zDk zD_309_ok 16 rfl) zt_309 h
  · have h := zS_t h (F_ne hz)
    refine E_bipush (pc := 7) (zDk zD_309_ok 3 rfl) (by decide +kernel) ?_
    have h := zS_some h
    exact E_ireturn (pc := 9) (zDk zD_309_ok 4 rfl) zt_309 h
def zD_311 : List (Nat × Instr × Nat) := [(0, .iload_n (0), 1), (1, .i2l, 1), (2, .lconst (0), 1), (3, .ldc2_w (460), 3), (6, .invokestatic (91), 3), (9, .ireturn, 1)]
set_option maxRecDepth 100000 in
theorem zD_311_ok : zDo 311 zD_311 = true := by decide +kernel
theorem zc_311 : zcls 311 = 8 := by decide +kernel
theorem zm_311 : zml 311 = 1 := by decide +kernel
theorem zt_311 : zrt 311 = (some (.boolean)) := by decide +kernel
theorem zk_311 : zkd 311 = 0 ∧ znp 311 = 1 := by decide +kernel
theorem zr_311 (as : List zV) : zrk 311 as = 1 := by unfold zrk; rw [if_neg (by decide)]; decide +kernel
def lm_isSeed (x0 : Int) (M : Nat → Nat → Int) : Option Int :=
    ((lm_in x0 (0 : Int) (2000000000 : Int) M).bind (fun v6 =>
    (if v6 = 0 ∨ v6 = 1 then some v6 else none)))
set_option maxRecDepth 100000 in
theorem ok_lm_isSeed {sc : zSc} {x0 : Int} {M : Nat → Nat → Int} {P : Int → (Nat → Nat → Int) → Prop} (h : zS (lm_isSeed x0 M) (fun x => P x M)) : zCi sc 311 [.inl x0] M P := by
  have ea : zarg (zml 311) [.inl x0] = [some (.inl x0)] := by rw [zm_311]; rfl
  unfold zCi zCw
  rw [ea, zr_311]
  have hq : 1 ≤ 1 := Nat.le_refl _
  unfold lm_isSeed at h
  have h := zS_mono h (fun x hx => (⟨x, rfl, hx⟩ : ∃ y, (some (.inl x) : Option zV) = some (.inl y) ∧ P y M))
  skip
  refine E_iload_n (pc := 0) (zDk zD_311_ok 0 rfl) rfl ?_
  refine E_i2l (pc := 1) (zDk zD_311_ok 1 rfl) ?_
  refine E_lconst (pc := 2) (v := 0) (zDk zD_311_ok 2 rfl) (by decide +kernel) ?_
  refine E_ldc2_w (pc := 3) (v := .inr (.inl (2000000000 : Int))) (zDk zD_311_ok 3 rfl) zc_311 (by decide +kernel) ?_
  obtain ⟨v6, e6, h⟩ := zS_bind h
  refine E_staI (pc := 6) (c := 176) (as := [.inr (.inl x0), .inr (.inl (0 : Int)), .inr (.inl (2000000000 : Int))]) (rest := []) (zDk zD_311_ok 4 rfl) zc_311 (by decide +kernel) (by decide +kernel) zk_176 ⟨(Nat.le_of_ble_eq_true rfl), rfl, rfl⟩ (Nat.le_of_ble_eq_true rfl) (zr_176 _) (Nat.lt_of_lt_of_le (by decide) hq) (by rw [zm_176]; exact (Nat.le_of_ble_eq_true rfl)) (ok_lm_in ⟨v6, e6, ?_⟩)
  obtain ⟨hx, h⟩ := zS_c h
  have h := zS_some h
  exact E_ireturnZ (pc := 9) (zDk zD_311_ok 5 rfl) zt_311 hx h
def zD_315 : List (Nat × Instr × Nat) := [(0, .iload_n (1), 1), (1, .i2l, 1), (2, .lconst (0), 1), (3, .ldc2_w (391), 3), (6, .invokestatic (91), 3), (9, .ifCond .eq (10), 3), (12, .aload_n (0), 1), (13, .getfield (9), 3), (16, .iload_n (1), 1), (17, .iaload, 1), (18, .ireturn, 1), (19, .iload_n (1), 1), (20, .bipush (10), 2), (22, .if_icmp .ne (8), 3), (25, .aload_n (0), 1), (26, .getfield (103), 3), (29, .ireturn, 1), (30, .iload_n (1), 1), (31, .bipush (11), 2), (33, .if_icmp .eq (5), 3), (36, .iconst (-1), 1), (37, .ireturn, 1), (38, .iconst (0), 1), (39, .istore_n (2), 1), (40, .iconst (0), 1), (41, .istore_n (3), 1), (42, .iload_n (3), 1), (43, .iconst (4), 1), (44, .if_icmp .ge (27), 3), (47, .iload_n (2), 1), (48, .aload_n (0), 1), (49, .getfield (73), 3), (52, .iload_n (3), 1), (53, .iaload, 1), (54, .iconst (-1), 1), (55, .if_icmp .ne (7), 3), (58, .iconst (0), 1), (59, .goto (4), 3), (62, .iconst (1), 1), (63, .iadd, 1), (64, .istore_n (2), 1), (65, .iinc (3) (1), 3), (68, .goto (-26), 3), (71, .iload_n (2), 1), (72, .ireturn, 1)]
set_option maxRecDepth 100000 in
theorem zD_315_ok : zDo 315 zD_315 = true := by decide +kernel
theorem zc_315 : zcls 315 = 8 := by decide +kernel
theorem zm_315 : zml 315 = 4 := by decide +kernel
theorem zt_315 : zrt 315 = (some (.int)) := by decide +kernel
theorem zk_315 : zkd 315 = 1 ∧ znp 315 + 1 = 2 := by decide +kernel
theorem zr_315 (as : List zV) : zrk 315 as = 1 := by unfold zrk; rw [if_neg (by decide)]; decide +kernel
def lm_count_c42 (x1 : Int) (M : Nat → Nat → Int) : Nat → Int → Int → Option Int
  | 0, _, _ => none
  | n + 1, y2, y3 =>
    (if y3 < (4 : Int) then
    ((rdI 126 y3 M).bind (fun v53 =>
    (if v53 = (-1 : Int) then
    ((lm_count_c42 x1 M n) (w32 (y2 + (0 : Int))) (w32 (y3 + 1)))
    else
    ((lm_count_c42 x1 M n) (w32 (y2 + (1 : Int))) (w32 (y3 + 1))))))
    else
    (some y2))
set_option maxRecDepth 100000 in
theorem ok_lm_count_c42 {sc : zSc} {q : Nat} {P : Option zV → (Nat → Nat → Int) → Prop} (hq : 1 ≤ q) (x1 : Int) (M : Nat → Nat → Int) : ∀ (n : Nat) (y2 : Int) (y3 : Int), zS (lm_count_c42 x1 M n y2 y3) (fun x => P (some (.inl x)) M) → zWp sc q 315 42 [some (.inr (.inr 106)), some (.inl x1), some (.inl y2), some (.inl y3)] [] M P := by
  intro n
  induction n with
  | zero => intro y2 y3 h; exact (zS_none h).elim
  | succ n ih =>
    intro y2 y3 h
    rw [lm_count_c42] at h
    refine E_iload_n (pc := 42) (zDk zD_315_ok 26 rfl) rfl ?_
    refine E_iconst (pc := 43) (zDk zD_315_ok 27 rfl) (by decide +kernel) ?_
    refine E_icmp (pc := 44) (t := 71) (zDk zD_315_ok 28 rfl) rfl (fun hz => ?_) (fun hz => ?_)
    · have h := zS_f h (Int.not_lt.mpr (T_ge hz))
      refine E_iload_n (pc := 71) (zDk zD_315_ok 43 rfl) rfl ?_
      have h := zS_some h
      exact E_ireturn (pc := 72) (zDk zD_315_ok 44 rfl) zt_315 h
    · have h := zS_t h (F_ge hz)
      refine E_iload_n (pc := 47) (zDk zD_315_ok 29 rfl) rfl ?_
      refine E_aload_n (pc := 48) (zDk zD_315_ok 30 rfl) rfl ?_
      refine E_getR (pc := 49) (ci := 8) (f := 36) (r := 126) (zDk zD_315_ok 31 rfl) zc_315 (by decide +kernel) (by decide) zis_8_106 (by decide +kernel) (by decide) ?_
      refine E_iload_n (pc := 52) (zDk zD_315_ok 32 rfl) rfl ?_
      obtain ⟨v53, e53, h⟩ := zS_bind h
      refine E_iaload (pc := 53) (zDk zD_315_ok 33 rfl) e53 ?_
      refine E_iconst (pc := 54) (zDk zD_315_ok 34 rfl) (by decide +kernel) ?_
      refine E_icmp (pc := 55) (t := 62) (zDk zD_315_ok 35 rfl) rfl (fun hz => ?_) (fun hz => ?_)
      · have h := zS_f h (T_ne hz)
        refine E_iconst (pc := 62) (zDk zD_315_ok 38 rfl) (by decide +kernel) ?_
        refine W_iadd (pc := 63) (zDk zD_315_ok 39 rfl) ?_
        refine W_istore_n (pc := 64) (L' := [some (.inr (.inr 106)), some (.inl x1), some (.inl (w32 (y2 + (1 : Int)))), some (.inl y3)]) (zDk zD_315_ok 40 rfl) zm_315 (by decide) rfl ?_
        refine W_iinc (pc := 65) (L' := [some (.inr (.inr 106)), some (.inl x1), some (.inl (w32 (y2 + (1 : Int)))), some (.inl (w32 (y3 + 1)))]) (zDk zD_315_ok 41 rfl) rfl zm_315 (by decide) rfl ?_
        refine E_goto (pc := 68) (t := 42) (zDk zD_315_ok 42 rfl) rfl ?_
        exact (ih) (w32 (y2 + (1 : Int))) (w32 (y3 + 1)) h
      · have h := zS_t h (F_ne hz)
        refine E_iconst (pc := 58) (zDk zD_315_ok 36 rfl) (by decide +kernel) ?_
        refine E_goto (pc := 59) (t := 63) (zDk zD_315_ok 37 rfl) rfl ?_
        refine W_iadd (pc := 63) (zDk zD_315_ok 39 rfl) ?_
        refine W_istore_n (pc := 64) (L' := [some (.inr (.inr 106)), some (.inl x1), some (.inl (w32 (y2 + (0 : Int)))), some (.inl y3)]) (zDk zD_315_ok 40 rfl) zm_315 (by decide) rfl ?_
        refine W_iinc (pc := 65) (L' := [some (.inr (.inr 106)), some (.inl x1), some (.inl (w32 (y2 + (0 : Int)))), some (.inl (w32 (y3 + 1)))]) (zDk zD_315_ok 41 rfl) rfl zm_315 (by decide) rfl ?_
        refine E_goto (pc := 68) (t := 42) (zDk zD_315_ok 42 rfl) rfl ?_
        exact (ih) (w32 (y2 + (0 : Int))) (w32 (y3 + 1)) h
def lm_count (x1 : Int) (M : Nat → Nat → Int) : Option Int :=
    ((lm_in x1 (0 : Int) (9 : Int) M).bind (fun v6 =>
    (if v6 = 0 then
    (if x1 = (10 : Int) then
    (some (M 106 5))
    else
    (if x1 = (11 : Int) then
    (lm_count_c42 x1 M zN (0 : Int) (0 : Int))
    else
    (some (-1 : Int))))
    else
    ((rdI 107 x1 M).bind (fun v17 =>
    (some v17))))))
set_option maxRecDepth 100000 in
theorem ok_lm_count {sc : zSc} {x1 : Int} {M : Nat → Nat → Int} {P : Int → (Nat → Nat → Int) → Prop} (h : zS (lm_count x1 M) (fun x => P x M)) : zCi sc 315 [.inr (.inr 106), .inl x1] M P := by
  have ea : zarg (zml 315) [.inr (.inr 106), .inl x1] = [some (.inr (.inr 106)), some (.inl x1), none, none] := by rw [zm_315]; rfl
  unfold zCi zCw
  rw [ea, zr_315]
  have hq : 1 ≤ 1 := Nat.le_refl _
  unfold lm_count at h
  have h := zS_mono h (fun x hx => (⟨x, rfl, hx⟩ : ∃ y, (some (.inl x) : Option zV) = some (.inl y) ∧ P y M))
  skip
  refine E_iload_n (pc := 0) (zDk zD_315_ok 0 rfl) rfl ?_
  refine E_i2l (pc := 1) (zDk zD_315_ok 1 rfl) ?_
  refine E_lconst (pc := 2) (v := 0) (zDk zD_315_ok 2 rfl) (by decide +kernel) ?_
  refine E_ldc2_w (pc := 3) (v := .inr (.inl (9 : Int))) (zDk zD_315_ok 3 rfl) zc_315 (by decide +kernel) ?_
  obtain ⟨v6, e6, h⟩ := zS_bind h
  refine E_staI (pc := 6) (c := 176) (as := [.inr (.inl x1), .inr (.inl (0 : Int)), .inr (.inl (9 : Int))]) (rest := []) (zDk zD_315_ok 4 rfl) zc_315 (by decide +kernel) (by decide +kernel) zk_176 ⟨(Nat.le_of_ble_eq_true rfl), rfl, rfl⟩ (Nat.le_of_ble_eq_true rfl) (zr_176 _) (Nat.lt_of_lt_of_le (by decide) hq) (by rw [zm_176]; exact (Nat.le_of_ble_eq_true rfl)) (ok_lm_in ⟨v6, e6, ?_⟩)
  refine E_if (pc := 9) (t := 19) (zDk zD_315_ok 5 rfl) rfl (fun hz => ?_) (fun hz => ?_)
  · have h := zS_t h (T_eq hz)
    refine E_iload_n (pc := 19) (zDk zD_315_ok 11 rfl) rfl ?_
    refine E_bipush (pc := 20) (zDk zD_315_ok 12 rfl) (by decide +kernel) ?_
    refine E_icmp (pc := 22) (t := 30) (zDk zD_315_ok 13 rfl) rfl (fun hz => ?_) (fun hz => ?_)
    · have h := zS_f h (T_ne hz)
      refine E_iload_n (pc := 30) (zDk zD_315_ok 17 rfl) rfl ?_
      refine E_bipush (pc := 31) (zDk zD_315_ok 18 rfl) (by decide +kernel) ?_
      refine E_icmp (pc := 33) (t := 38) (zDk zD_315_ok 19 rfl) rfl (fun hz => ?_) (fun hz => ?_)
      · have h := zS_t h (T_eq hz)
        refine E_iconst (pc := 38) (zDk zD_315_ok 22 rfl) (by decide +kernel) ?_
        refine W_istore_n (pc := 39) (L' := [some (.inr (.inr 106)), some (.inl x1), some (.inl (0 : Int)), none]) (zDk zD_315_ok 23 rfl) zm_315 (by decide) rfl ?_
        refine E_iconst (pc := 40) (zDk zD_315_ok 24 rfl) (by decide +kernel) ?_
        refine W_istore_n (pc := 41) (L' := [some (.inr (.inr 106)), some (.inl x1), some (.inl (0 : Int)), some (.inl (0 : Int))]) (zDk zD_315_ok 25 rfl) zm_315 (by decide) rfl ?_
        exact ok_lm_count_c42 hq x1 M zN (0 : Int) (0 : Int) h
      · have h := zS_f h (F_eq hz)
        refine E_iconst (pc := 36) (zDk zD_315_ok 20 rfl) (by decide +kernel) ?_
        have h := zS_some h
        exact E_ireturn (pc := 37) (zDk zD_315_ok 21 rfl) zt_315 h
    · have h := zS_t h (F_ne hz)
      refine E_aload_n (pc := 25) (zDk zD_315_ok 14 rfl) rfl ?_
      refine E_getI (pc := 26) (ci := 8) (f := 5) (zDk zD_315_ok 15 rfl) zc_315 (by decide +kernel) (by decide) zis_8_106 ?_
      have h := zS_some h
      exact E_ireturn (pc := 29) (zDk zD_315_ok 16 rfl) zt_315 h
  · have h := zS_f h (F_eq hz)
    refine E_aload_n (pc := 12) (zDk zD_315_ok 6 rfl) rfl ?_
    refine E_getR (pc := 13) (ci := 8) (f := 1) (r := 107) (zDk zD_315_ok 7 rfl) zc_315 (by decide +kernel) (by decide) zis_8_106 (by decide +kernel) (by decide) ?_
    refine E_iload_n (pc := 16) (zDk zD_315_ok 8 rfl) rfl ?_
    obtain ⟨v17, e17, h⟩ := zS_bind h
    refine E_iaload (pc := 17) (zDk zD_315_ok 9 rfl) e17 ?_
    have h := zS_some h
    exact E_ireturn (pc := 18) (zDk zD_315_ok 10 rfl) zt_315 h
def zD_316 : List (Nat × Instr × Nat) := [(0, .iload_n (0), 1), (1, .i2l, 1), (2, .lconst (0), 1), (3, .ldc2_w (268), 3), (6, .invokestatic (91), 3), (9, .ireturn, 1)]
set_option maxRecDepth 100000 in
theorem zD_316_ok : zDo 316 zD_316 = true := by decide +kernel
theorem zc_316 : zcls 316 = 8 := by decide +kernel
theorem zm_316 : zml 316 = 1 := by decide +kernel
theorem zt_316 : zrt 316 = (some (.boolean)) := by decide +kernel
theorem zk_316 : zkd 316 = 0 ∧ znp 316 = 1 := by decide +kernel
theorem zr_316 (as : List zV) : zrk 316 as = 1 := by unfold zrk; rw [if_neg (by decide)]; decide +kernel
def lm_isSlot (x0 : Int) (M : Nat → Nat → Int) : Option Int :=
    ((lm_in x0 (0 : Int) (3 : Int) M).bind (fun v6 =>
    (if v6 = 0 ∨ v6 = 1 then some v6 else none)))
set_option maxRecDepth 100000 in
theorem ok_lm_isSlot {sc : zSc} {x0 : Int} {M : Nat → Nat → Int} {P : Int → (Nat → Nat → Int) → Prop} (h : zS (lm_isSlot x0 M) (fun x => P x M)) : zCi sc 316 [.inl x0] M P := by
  have ea : zarg (zml 316) [.inl x0] = [some (.inl x0)] := by rw [zm_316]; rfl
  unfold zCi zCw
  rw [ea, zr_316]
  have hq : 1 ≤ 1 := Nat.le_refl _
  unfold lm_isSlot at h
  have h := zS_mono h (fun x hx => (⟨x, rfl, hx⟩ : ∃ y, (some (.inl x) : Option zV) = some (.inl y) ∧ P y M))
  skip
  refine E_iload_n (pc := 0) (zDk zD_316_ok 0 rfl) rfl ?_
  refine E_i2l (pc := 1) (zDk zD_316_ok 1 rfl) ?_
  refine E_lconst (pc := 2) (v := 0) (zDk zD_316_ok 2 rfl) (by decide +kernel) ?_
  refine E_ldc2_w (pc := 3) (v := .inr (.inl (3 : Int))) (zDk zD_316_ok 3 rfl) zc_316 (by decide +kernel) ?_
  obtain ⟨v6, e6, h⟩ := zS_bind h
  refine E_staI (pc := 6) (c := 176) (as := [.inr (.inl x0), .inr (.inl (0 : Int)), .inr (.inl (3 : Int))]) (rest := []) (zDk zD_316_ok 4 rfl) zc_316 (by decide +kernel) (by decide +kernel) zk_176 ⟨(Nat.le_of_ble_eq_true rfl), rfl, rfl⟩ (Nat.le_of_ble_eq_true rfl) (zr_176 _) (Nat.lt_of_lt_of_le (by decide) hq) (by rw [zm_176]; exact (Nat.le_of_ble_eq_true rfl)) (ok_lm_in ⟨v6, e6, ?_⟩)
  obtain ⟨hx, h⟩ := zS_c h
  have h := zS_some h
  exact E_ireturnZ (pc := 9) (zDk zD_316_ok 5 rfl) zt_316 hx h
def zD_322 : List (Nat × Instr × Nat) := [(0, .aload_n (0), 1), (1, .getfield (9), 3), (4, .arraylength, 1), (5, .aload_n (0), 1), (6, .invokevirtual (335), 3), (9, .ishr, 1), (10, .ireturn, 1)]
set_option maxRecDepth 100000 in
theorem zD_322_ok : zDo 322 zD_322 = true := by decide +kernel
theorem zc_322 : zcls 322 = 11 := by decide +kernel
theorem zm_322 : zml 322 = 1 := by decide +kernel
theorem zt_322 : zrt 322 = (some (.int)) := by decide +kernel
theorem zk_322 : zkd 322 = 1 ∧ znp 322 + 1 = 1 := by decide +kernel
theorem zr_322 (as : List zV) : zrk 322 as = 1 := by unfold zrk; rw [if_neg (by decide)]; decide +kernel
def lS_length (w0 : Nat) (M : Nat → Nat → Int) : Option Int :=
    (if 5003 ≤ w0 ∧ w0 < 5033 then
    ((lnA (w0 + 37)).bind (fun v4 =>
    ((lS_coder w0 M).bind (fun v6 =>
    (some (zshr v4 v6))))))
    else none)
set_option maxRecDepth 100000 in
theorem ok_lS_length {sc : zSc} {w0 : Nat} {M : Nat → Nat → Int} {P : Int → (Nat → Nat → Int) → Prop} (h : zS (lS_length w0 M) (fun x => P x M)) : zCi sc 322 [.inr (.inr w0)] M P := by
  have ea : zarg (zml 322) [.inr (.inr w0)] = [some (.inr (.inr w0))] := by rw [zm_322]; rfl
  unfold zCi zCw
  rw [ea, zr_322]
  have hq : 1 ≤ 1 := Nat.le_refl _
  unfold lS_length at h
  have h := zS_mono h (fun x hx => (⟨x, rfl, hx⟩ : ∃ y, (some (.inl x) : Option zV) = some (.inl y) ∧ P y M))
  obtain ⟨hw0, h⟩ := zS_c h
  skip
  refine E_aload_n (pc := 0) (zDk zD_322_ok 0 rfl) rfl ?_
  refine E_getS (pc := 1) (v := .inr (.inr (w0 + 37))) (zDk zD_322_ok 1 rfl) zc_322 (by decide +kernel) (w := 0) (by decide +kernel) rfl hw0 ?_
  obtain ⟨v4, e4, h⟩ := zS_bind h
  refine E_arraylength (pc := 4) (zDk zD_322_ok 2 rfl) e4 ?_
  refine E_aload_n (pc := 5) (zDk zD_322_ok 3 rfl) rfl ?_
  obtain ⟨v6, e6, h⟩ := zS_bind h
  refine E_strI (pc := 6) (c := 324) (r := w0) (as := []) (rest := [.inl v4]) (zDk zD_322_ok 4 rfl) zc_322 (by decide +kernel) zk_324 ⟨(Nat.le_of_ble_eq_true rfl), rfl, rfl⟩ (Nat.le_of_ble_eq_true rfl) (zr_324 _) (Nat.lt_of_lt_of_le (by decide) hq) (by rw [zm_324]; exact (Nat.le_of_ble_eq_true rfl)) zc_324 hw0 (ok_lS_coder ⟨v6, e6, ?_⟩)
  refine E_ishr (pc := 9) (zDk zD_322_ok 5 rfl) ?_
  have h := zS_some h
  exact E_ireturn (pc := 10) (zDk zD_322_ok 6 rfl) zt_322 h
def zD_326 : List (Nat × Instr × Nat) := [(0, .iload_n (0), 1), (1, .iload_n (1), 1), (2, .getstatic (1053), 3), (5, .invokestatic (1059), 3), (8, .pop, 1), (9, .return_, 1)]
set_option maxRecDepth 100000 in
theorem zD_326_ok : zDo 326 zD_326 = true := by decide +kernel
theorem zc_326 : zcls 326 = 11 := by decide +kernel
theorem zm_326 : zml 326 = 2 := by decide +kernel
theorem zt_326 : zrt 326 = none := by decide +kernel
theorem zk_326 : zkd 326 = 0 ∧ znp 326 = 2 := by decide +kernel
theorem zr_326 (as : List zV) : zrk 326 as = 1 := by unfold zrk; rw [if_neg (by decide)]; decide +kernel
def lS_checkIndex (x0 : Int) (x1 : Int) (M : Nat → Nat → Int) : Option Unit :=
    ((lP_checkIndex x0 x1 5002 M).bind (fun v5 =>
    (some ())))
set_option maxRecDepth 100000 in
theorem ok_lS_checkIndex {sc : zSc} {x0 : Int} {x1 : Int} {M : Nat → Nat → Int} {P : (Nat → Nat → Int) → Prop} (h : zS (lS_checkIndex x0 x1 M) (fun _ => P M)) : zCv sc 326 [.inl x0, .inl x1] M P := by
  have ea : zarg (zml 326) [.inl x0, .inl x1] = [some (.inl x0), some (.inl x1)] := by rw [zm_326]; rfl
  unfold zCv zCw
  rw [ea, zr_326]
  have hq : 1 ≤ 1 := Nat.le_refl _
  unfold lS_checkIndex at h
  have h := zS_mono h (fun x hx => (⟨rfl, hx⟩ : (none : Option zV) = none ∧ P M))
  skip
  refine E_iload_n (pc := 0) (zDk zD_326_ok 0 rfl) rfl ?_
  refine E_iload_n (pc := 1) (zDk zD_326_ok 1 rfl) rfl ?_
  refine E_getstatic (pc := 2) (v := .inr (.inr 5002)) (zDk zD_326_ok 2 rfl) zc_326 (by decide +kernel) ?_
  obtain ⟨v5, e5, h⟩ := zS_bind h
  refine E_staI (pc := 5) (c := 330) (as := [.inl x0, .inl x1, .inr (.inr 5002)]) (rest := []) (zDk zD_326_ok 3 rfl) zc_326 (by decide +kernel) (by decide +kernel) zk_330 ⟨(Nat.le_of_ble_eq_true rfl), rfl, rfl⟩ (Nat.le_of_ble_eq_true rfl) (zr_330 _) (Nat.lt_of_lt_of_le (by decide) hq) (by rw [zm_330]; exact (Nat.le_of_ble_eq_true rfl)) (ok_lP_checkIndex ⟨v5, e5, ?_⟩)
  refine E_pop (pc := 8) (zDk zD_326_ok 4 rfl) rfl ?_
  have h := zS_some h
  exact E_return (x := ()) (pc := 9) (zDk zD_326_ok 5 rfl) zt_326 h
def zD_2 : List (Nat × Instr × Nat) := [(0, .aload_n (0), 1), (1, .getfield (33), 3), (4, .ifCond .le (13), 3), (7, .aload_n (0), 1), (8, .dup, 1), (9, .getfield (33), 3), (12, .iconst (1), 1), (13, .isub, 1), (14, .putfield (33), 3), (17, .aload_n (0), 1), (18, .invokevirtual (41), 3), (21, .return_, 1)]
set_option maxRecDepth 100000 in
theorem zD_2_ok : zDo 2 zD_2 = true := by decide +kernel
theorem zc_2 : zcls 2 = 0 := by decide +kernel
theorem zm_2 : zml 2 = 1 := by decide +kernel
theorem zt_2 : zrt 2 = none := by decide +kernel
theorem zk_2 : zkd 2 = 1 ∧ znp 2 + 1 = 1 := by decide +kernel
theorem zr_2 (as : List zV) : zrk 2 as = 2 := by unfold zrk; rw [if_neg (by decide)]; decide +kernel
def lA_removeLast (r0 : Nat) (M : Nat → Nat → Int) : Option (Nat → Nat → Int) :=
    (if zis 0 r0 = true then
    (if 0 < (M r0 0) then
    ((some (zup M r0 0 (w32 ((M r0 0) - (1 : Int))))).bind (fun M14 =>
    ((lA_playAgain r0 M14).bind (fun M18 =>
    (some M18)))))
    else
    ((lA_playAgain r0 M).bind (fun M18 =>
    (some M18))))
    else none)
set_option maxRecDepth 100000 in
theorem ok_lA_removeLast {sc : zSc} {r0 : Nat} {M : Nat → Nat → Int} {P : (Nat → Nat → Int) → Prop} (h : zS (lA_removeLast r0 M) P) : zCv sc 2 [.inr (.inr r0)] M P := by
  have ea : zarg (zml 2) [.inr (.inr r0)] = [some (.inr (.inr r0))] := by rw [zm_2]; rfl
  unfold zCv zCw
  rw [ea, zr_2]
  have hq : 2 ≤ 2 := Nat.le_refl _
  unfold lA_removeLast at h
  have h := zS_mono h (fun x hx => (⟨rfl, hx⟩ : (none : Option zV) = none ∧ P x))
  obtain ⟨hr0, h⟩ := zS_c h
  skip
  refine E_aload_n (pc := 0) (zDk zD_2_ok 0 rfl) rfl ?_
  refine E_getI (pc := 1) (ci := 0) (f := 0) (zDk zD_2_ok 1 rfl) zc_2 (by decide +kernel) (by decide) hr0 ?_
  refine E_if (pc := 4) (t := 17) (zDk zD_2_ok 2 rfl) rfl (fun hz => ?_) (fun hz => ?_)
  · have h := zS_f h (Int.not_lt.mpr (T_le hz))
    refine E_aload_n (pc := 17) (zDk zD_2_ok 9 rfl) rfl ?_
    obtain ⟨M18, e18, h⟩ := zS_bind h
    refine E_virV (pc := 18) (c := 4) (r := r0) (as := []) (rest := []) (zDk zD_2_ok 10 rfl) zc_2 (by decide +kernel) zk_4 ⟨(Nat.le_of_ble_eq_true rfl), rfl, rfl⟩ (Nat.le_of_ble_eq_true rfl) (zr_4 _) (Nat.lt_of_lt_of_le (by decide) hq) (by rw [zm_4]; exact (Nat.le_of_ble_eq_true rfl)) ⟨zc_4, by decide⟩ hr0 (ok_lA_playAgain ⟨M18, e18, ?_⟩)
    have h := zS_some h
    exact E_return (x := ()) (pc := 21) (zDk zD_2_ok 11 rfl) zt_2 h
  · have h := zS_t h (F_le hz)
    refine E_aload_n (pc := 7) (zDk zD_2_ok 3 rfl) rfl ?_
    refine E_dup (pc := 8) (zDk zD_2_ok 4 rfl) rfl ?_
    refine E_getI (pc := 9) (ci := 0) (f := 0) (zDk zD_2_ok 5 rfl) zc_2 (by decide +kernel) (by decide) hr0 ?_
    refine E_iconst (pc := 12) (zDk zD_2_ok 6 rfl) (by decide +kernel) ?_
    refine W_isub (pc := 13) (zDk zD_2_ok 7 rfl) ?_
    obtain ⟨M14, e14, h⟩ := zS_bind h
    refine W_putI (pc := 14) (ci := 0) (f := 0) (zDk zD_2_ok 8 rfl) zc_2 (by decide +kernel) (by decide) hr0 (Option.some.inj e14) ?_
    refine E_aload_n (pc := 17) (zDk zD_2_ok 9 rfl) rfl ?_
    obtain ⟨M18, e18, h⟩ := zS_bind h
    refine E_virV (pc := 18) (c := 4) (r := r0) (as := []) (rest := []) (zDk zD_2_ok 10 rfl) zc_2 (by decide +kernel) zk_4 ⟨(Nat.le_of_ble_eq_true rfl), rfl, rfl⟩ (Nat.le_of_ble_eq_true rfl) (zr_4 _) (Nat.lt_of_lt_of_le (by decide) hq) (by rw [zm_4]; exact (Nat.le_of_ble_eq_true rfl)) ⟨zc_4, by decide⟩ hr0 (ok_lA_playAgain ⟨M18, e18, ?_⟩)
    have h := zS_some h
    exact E_return (x := ()) (pc := 21) (zDk zD_2_ok 11 rfl) zt_2 h
def zD_3 : List (Nat × Instr × Nat) := [(0, .aload_n (0), 1), (1, .iconst (0), 1), (2, .putfield (33), 3), (5, .aload_n (0), 1), (6, .invokevirtual (41), 3), (9, .return_, 1)]
set_option maxRecDepth 100000 in
theorem zD_3_ok : zDo 3 zD_3 = true := by decide +kernel
theorem zc_3 : zcls 3 = 0 := by decide +kernel
theorem zm_3 : zml 3 = 1 := by decide +kernel
theorem zt_3 : zrt 3 = none := by decide +kernel
theorem zk_3 : zkd 3 = 1 ∧ znp 3 + 1 = 1 := by decide +kernel
theorem zr_3 (as : List zV) : zrk 3 as = 2 := by unfold zrk; rw [if_neg (by decide)]; decide +kernel
def lA_removeAll (r0 : Nat) (M : Nat → Nat → Int) : Option (Nat → Nat → Int) :=
    (if zis 0 r0 = true then
    ((some (zup M r0 0 (0 : Int))).bind (fun M2 =>
    ((lA_playAgain r0 M2).bind (fun M6 =>
    (some M6)))))
    else none)
set_option maxRecDepth 100000 in
theorem ok_lA_removeAll {sc : zSc} {r0 : Nat} {M : Nat → Nat → Int} {P : (Nat → Nat → Int) → Prop} (h : zS (lA_removeAll r0 M) P) : zCv sc 3 [.inr (.inr r0)] M P := by
  have ea : zarg (zml 3) [.inr (.inr r0)] = [some (.inr (.inr r0))] := by rw [zm_3]; rfl
  unfold zCv zCw
  rw [ea, zr_3]
  have hq : 2 ≤ 2 := Nat.le_refl _
  unfold lA_removeAll at h
  have h := zS_mono h (fun x hx => (⟨rfl, hx⟩ : (none : Option zV) = none ∧ P x))
  obtain ⟨hr0, h⟩ := zS_c h
  skip
  refine E_aload_n (pc := 0) (zDk zD_3_ok 0 rfl) rfl ?_
  refine E_iconst (pc := 1) (zDk zD_3_ok 1 rfl) (by decide +kernel) ?_
  obtain ⟨M2, e2, h⟩ := zS_bind h
  refine W_putI (pc := 2) (ci := 0) (f := 0) (zDk zD_3_ok 2 rfl) zc_3 (by decide +kernel) (by decide) hr0 (Option.some.inj e2) ?_
  refine E_aload_n (pc := 5) (zDk zD_3_ok 3 rfl) rfl ?_
  obtain ⟨M6, e6, h⟩ := zS_bind h
  refine E_virV (pc := 6) (c := 4) (r := r0) (as := []) (rest := []) (zDk zD_3_ok 4 rfl) zc_3 (by decide +kernel) zk_4 ⟨(Nat.le_of_ble_eq_true rfl), rfl, rfl⟩ (Nat.le_of_ble_eq_true rfl) (zr_4 _) (Nat.lt_of_lt_of_le (by decide) hq) (by rw [zm_4]; exact (Nat.le_of_ble_eq_true rfl)) ⟨zc_4, by decide⟩ hr0 (ok_lA_playAgain ⟨M6, e6, ?_⟩)
  have h := zS_some h
  exact E_return (x := ()) (pc := 9) (zDk zD_3_ok 5 rfl) zt_3 h
def zD_6 : List (Nat × Instr × Nat) := [(0, .aload_n (0), 1), (1, .aload_n (1), 1), (2, .getfield (33), 3), (5, .putfield (33), 3), (8, .aload_n (1), 1), (9, .getfield (9), 3), (12, .iconst (0), 1), (13, .aload_n (0), 1), (14, .getfield (9), 3), (17, .iconst (0), 1), (18, .bipush (30), 2), (20, .invokestatic (47), 3), (23, .aload_n (1), 1), (24, .getfield (15), 3), (27, .iconst (0), 1), (28, .aload_n (0), 1), (29, .getfield (15), 3), (32, .iconst (0), 1), (33, .bipush (30), 2), (35, .invokestatic (47), 3), (38, .aload_n (1), 1), (39, .getfield (18), 3), (42, .iconst (0), 1), (43, .aload_n (0), 1), (44, .getfield (18), 3), (47, .iconst (0), 1), (48, .bipush (30), 2), (50, .invokestatic (47), 3), (53, .aload_n (1), 1), (54, .getfield (21), 3), (57, .iconst (0), 1), (58, .aload_n (0), 1), (59, .getfield (21), 3), (62, .iconst (0), 1), (63, .bipush (30), 2), (65, .invokestatic (47), 3), (68, .aload_n (0), 1), (69, .invokevirtual (41), 3), (72, .return_, 1)]
set_option maxRecDepth 100000 in
theorem zD_6_ok : zDo 6 zD_6 = true := by decide +kernel
theorem zc_6 : zcls 6 = 0 := by decide +kernel
theorem zm_6 : zml 6 = 2 := by decide +kernel
theorem zt_6 : zrt 6 = none := by decide +kernel
theorem zk_6 : zkd 6 = 1 ∧ znp 6 + 1 = 2 := by decide +kernel
theorem zr_6 (as : List zV) : zrk 6 as = 2 := by unfold zrk; rw [if_neg (by decide)]; decide +kernel
def lA_takeFrom (r0 : Nat) (r1 : Nat) (M : Nat → Nat → Int) : Option (Nat → Nat → Int) :=
    (if zis 0 r0 = true then
    (if zis 0 r1 = true then
    ((some (zup M r0 0 (M r1 0))).bind (fun M5 =>
    ((cpA (r1 + 1) (0 : Int) (r0 + 1) (0 : Int) (30 : Int) M5).bind (fun M20 =>
    ((cpA (r1 + 2) (0 : Int) (r0 + 2) (0 : Int) (30 : Int) M20).bind (fun M35 =>
    ((cpA (r1 + 3) (0 : Int) (r0 + 3) (0 : Int) (30 : Int) M35).bind (fun M50 =>
    ((cpA (r1 + 4) (0 : Int) (r0 + 4) (0 : Int) (30 : Int) M50).bind (fun M65 =>
    ((lA_playAgain r0 M65).bind (fun M69 =>
    (some M69)))))))))))))
    else none)
    else none)
set_option maxRecDepth 100000 in
theorem ok_lA_takeFrom {sc : zSc} {r0 : Nat} {r1 : Nat} {M : Nat → Nat → Int} {P : (Nat → Nat → Int) → Prop} (h : zS (lA_takeFrom r0 r1 M) P) : zCv sc 6 [.inr (.inr r0), .inr (.inr r1)] M P := by
  have ea : zarg (zml 6) [.inr (.inr r0), .inr (.inr r1)] = [some (.inr (.inr r0)), some (.inr (.inr r1))] := by rw [zm_6]; rfl
  unfold zCv zCw
  rw [ea, zr_6]
  have hq : 2 ≤ 2 := Nat.le_refl _
  unfold lA_takeFrom at h
  have h := zS_mono h (fun x hx => (⟨rfl, hx⟩ : (none : Option zV) = none ∧ P x))
  obtain ⟨hr0, h⟩ := zS_c h
  obtain ⟨hr1, h⟩ := zS_c h
  skip
  refine E_aload_n (pc := 0) (zDk zD_6_ok 0 rfl) rfl ?_
  refine E_aload_n (pc := 1) (zDk zD_6_ok 1 rfl) rfl ?_
  refine E_getI (pc := 2) (ci := 0) (f := 0) (zDk zD_6_ok 2 rfl) zc_6 (by decide +kernel) (by decide) hr1 ?_
  obtain ⟨M5, e5, h⟩ := zS_bind h
  refine W_putI (pc := 5) (ci := 0) (f := 0) (zDk zD_6_ok 3 rfl) zc_6 (by decide +kernel) (by decide) hr0 (Option.some.inj e5) ?_
  refine E_aload_n (pc := 8) (zDk zD_6_ok 4 rfl) rfl ?_
  refine E_getR (pc := 9) (ci := 0) (f := 2) (r := (r1 + 1)) (zDk zD_6_ok 5 rfl) zc_6 (by decide +kernel) (by decide) hr1 (zg_0_2 hr1) (zh_0_2 hr1) ?_
  refine E_iconst (pc := 12) (zDk zD_6_ok 6 rfl) (by decide +kernel) ?_
  refine E_aload_n (pc := 13) (zDk zD_6_ok 7 rfl) rfl ?_
  refine E_getR (pc := 14) (ci := 0) (f := 2) (r := (r0 + 1)) (zDk zD_6_ok 8 rfl) zc_6 (by decide +kernel) (by decide) hr0 (zg_0_2 hr0) (zh_0_2 hr0) ?_
  refine E_iconst (pc := 17) (zDk zD_6_ok 9 rfl) (by decide +kernel) ?_
  refine E_bipush (pc := 18) (zDk zD_6_ok 10 rfl) (by decide +kernel) ?_
  obtain ⟨M20, e20, h⟩ := zS_bind h
  refine E_copy (pc := 20) (zDk zD_6_ok 11 rfl) zc_6 (by decide +kernel) e20 (Nat.le_of_ble_eq_true rfl) (Nat.lt_of_lt_of_le (by decide) hq) ?_
  refine E_aload_n (pc := 23) (zDk zD_6_ok 12 rfl) rfl ?_
  refine E_getR (pc := 24) (ci := 0) (f := 3) (r := (r1 + 2)) (zDk zD_6_ok 13 rfl) zc_6 (by decide +kernel) (by decide) hr1 (zg_0_3 hr1) (zh_0_3 hr1) ?_
  refine E_iconst (pc := 27) (zDk zD_6_ok 14 rfl) (by decide +kernel) ?_
  refine E_aload_n (pc := 28) (zDk zD_6_ok 15 rfl) rfl ?_
  refine E_getR (pc := 29) (ci := 0) (f := 3) (r := (r0 + 2)) (zDk zD_6_ok 16 rfl) zc_6 (by decide +kernel) (by decide) hr0 (zg_0_3 hr0) (zh_0_3 hr0) ?_
  refine E_iconst (pc := 32) (zDk zD_6_ok 17 rfl) (by decide +kernel) ?_
  refine E_bipush (pc := 33) (zDk zD_6_ok 18 rfl) (by decide +kernel) ?_
  obtain ⟨M35, e35, h⟩ := zS_bind h
  refine E_copy (pc := 35) (zDk zD_6_ok 19 rfl) zc_6 (by decide +kernel) e35 (Nat.le_of_ble_eq_true rfl) (Nat.lt_of_lt_of_le (by decide) hq) ?_
  refine E_aload_n (pc := 38) (zDk zD_6_ok 20 rfl) rfl ?_
  refine E_getR (pc := 39) (ci := 0) (f := 4) (r := (r1 + 3)) (zDk zD_6_ok 21 rfl) zc_6 (by decide +kernel) (by decide) hr1 (zg_0_4 hr1) (zh_0_4 hr1) ?_
  refine E_iconst (pc := 42) (zDk zD_6_ok 22 rfl) (by decide +kernel) ?_
  refine E_aload_n (pc := 43) (zDk zD_6_ok 23 rfl) rfl ?_
  refine E_getR (pc := 44) (ci := 0) (f := 4) (r := (r0 + 3)) (zDk zD_6_ok 24 rfl) zc_6 (by decide +kernel) (by decide) hr0 (zg_0_4 hr0) (zh_0_4 hr0) ?_
  refine E_iconst (pc := 47) (zDk zD_6_ok 25 rfl) (by decide +kernel) ?_
  refine E_bipush (pc := 48) (zDk zD_6_ok 26 rfl) (by decide +kernel) ?_
  obtain ⟨M50, e50, h⟩ := zS_bind h
  refine E_copy (pc := 50) (zDk zD_6_ok 27 rfl) zc_6 (by decide +kernel) e50 (Nat.le_of_ble_eq_true rfl) (Nat.lt_of_lt_of_le (by decide) hq) ?_
  refine E_aload_n (pc := 53) (zDk zD_6_ok 28 rfl) rfl ?_
  refine E_getR (pc := 54) (ci := 0) (f := 5) (r := (r1 + 4)) (zDk zD_6_ok 29 rfl) zc_6 (by decide +kernel) (by decide) hr1 (zg_0_5 hr1) (zh_0_5 hr1) ?_
  refine E_iconst (pc := 57) (zDk zD_6_ok 30 rfl) (by decide +kernel) ?_
  refine E_aload_n (pc := 58) (zDk zD_6_ok 31 rfl) rfl ?_
  refine E_getR (pc := 59) (ci := 0) (f := 5) (r := (r0 + 4)) (zDk zD_6_ok 32 rfl) zc_6 (by decide +kernel) (by decide) hr0 (zg_0_5 hr0) (zh_0_5 hr0) ?_
  refine E_iconst (pc := 62) (zDk zD_6_ok 33 rfl) (by decide +kernel) ?_
  refine E_bipush (pc := 63) (zDk zD_6_ok 34 rfl) (by decide +kernel) ?_
  obtain ⟨M65, e65, h⟩ := zS_bind h
  refine E_copy (pc := 65) (zDk zD_6_ok 35 rfl) zc_6 (by decide +kernel) e65 (Nat.le_of_ble_eq_true rfl) (Nat.lt_of_lt_of_le (by decide) hq) ?_
  refine E_aload_n (pc := 68) (zDk zD_6_ok 36 rfl) rfl ?_
  obtain ⟨M69, e69, h⟩ := zS_bind h
  refine E_virV (pc := 69) (c := 4) (r := r0) (as := []) (rest := []) (zDk zD_6_ok 37 rfl) zc_6 (by decide +kernel) zk_4 ⟨(Nat.le_of_ble_eq_true rfl), rfl, rfl⟩ (Nat.le_of_ble_eq_true rfl) (zr_4 _) (Nat.lt_of_lt_of_le (by decide) hq) (by rw [zm_4]; exact (Nat.le_of_ble_eq_true rfl)) ⟨zc_4, by decide⟩ hr0 (ok_lA_playAgain ⟨M69, e69, ?_⟩)
  have h := zS_some h
  exact E_return (x := ()) (pc := 72) (zDk zD_6_ok 38 rfl) zt_6 h
def zD_10 : List (Nat × Instr × Nat) := [(0, .aload_n (0), 1), (1, .getfield (12), 3), (4, .aload_n (0), 1), (5, .getfield (38), 3), (8, .aload_n (0), 1), (9, .getfield (71), 3), (12, .invokevirtual (91), 3), (15, .iconst (0), 1), (16, .istore_n (1), 1), (17, .iload_n (1), 1), (18, .aload_n (0), 1), (19, .getfield (38), 3), (22, .getfield (95), 3), (25, .if_icmp .ge (33), 3), (28, .aload_n (0), 1), (29, .getfield (25), 3), (32, .iload_n (1), 1), (33, .aload_n (0), 1), (34, .getfield (18), 3), (37, .iload_n (1), 1), (38, .iaload, 1), (39, .iastore, 1), (40, .aload_n (0), 1), (41, .getfield (28), 3), (44, .iload_n (1), 1), (45, .aload_n (0), 1), (46, .getfield (22), 3), (49, .iload_n (1), 1), (50, .iaload, 1), (51, .iastore, 1), (52, .iinc (1) (1), 3), (55, .goto (-38), 3), (58, .aload_n (0), 1), (59, .getfield (31), 3), (62, .iconst (0), 1), (63, .iconst (0), 1), (64, .iastore, 1), (65, .aload_n (0), 1), (66, .iconst (0), 1), (67, .invokevirtual (98), 3), (70, .aload_n (0), 1), (71, .iconst (0), 1), (72, .invokevirtual (102), 3), (75, .return_, 1)]
set_option maxRecDepth 100000 in
theorem zD_10_ok : zDo 10 zD_10 = true := by decide +kernel
theorem zc_10 : zcls 10 = 1 := by decide +kernel
theorem zm_10 : zml 10 = 2 := by decide +kernel
theorem zt_10 : zrt 10 = none := by decide +kernel
theorem zk_10 : zkd 10 = 1 ∧ znp 10 + 1 = 1 := by decide +kernel
theorem zr_10 (as : List zV) : zrk 10 as = 2 := by unfold zrk; rw [if_neg (by decide)]; decide +kernel
def lD_begin_c17 (r0 : Nat) : Nat → Int → (Nat → Nat → Int) → Option (Nat → Nat → Int)
  | 0, _, _ => none
  | n + 1, y1, M =>
    (if y1 < (M 3 7) then
    ((rdI (r0 + 3) y1 M).bind (fun v38 =>
    ((wrI (r0 + 5) y1 v38 M).bind (fun M39 =>
    ((rdI (r0 + 4) y1 M39).bind (fun v50 =>
    ((wrI (r0 + 6) y1 v50 M39).bind (fun M51 =>
    ((lD_begin_c17 r0 n) (w32 (y1 + 1)) M51)))))))))
    else
    ((wrI (r0 + 7) (0 : Int) (0 : Int) M).bind (fun M64 =>
    ((lD_drinkAll r0 (0 : Int) M64).bind (fun M67 =>
    ((lD_signAll r0 (0 : Int) M67).bind (fun M72 =>
    (some M72))))))))
set_option maxRecDepth 100000 in
theorem ok_lD_begin_c17 {sc : zSc} {q : Nat} {P : Option zV → (Nat → Nat → Int) → Prop} (hq : 2 ≤ q) (r0 : Nat) (hr0 : zis 1 r0 = true) : ∀ (n : Nat) (y1 : Int) (M : Nat → Nat → Int), zS (lD_begin_c17 r0 n y1 M) (fun M0 => P none M0) → zWp sc q 10 17 [some (.inr (.inr r0)), some (.inl y1)] [] M P := by
  intro n
  induction n with
  | zero => intro y1 M h; exact (zS_none h).elim
  | succ n ih =>
    intro y1 M h
    rw [lD_begin_c17] at h
    refine E_iload_n (pc := 17) (zDk zD_10_ok 9 rfl) rfl ?_
    refine E_aload_n (pc := 18) (zDk zD_10_ok 10 rfl) rfl ?_
    refine E_getR (pc := 19) (ci := 1) (f := 0) (r := 3) (zDk zD_10_ok 11 rfl) zc_10 (by decide +kernel) (by decide) hr0 (zg_1_0 hr0) (by decide) ?_
    refine E_getI (pc := 22) (ci := 6) (f := 7) (zDk zD_10_ok 12 rfl) zc_10 (by decide +kernel) (by decide) zis_6_3 ?_
    refine E_icmp (pc := 25) (t := 58) (zDk zD_10_ok 13 rfl) rfl (fun hz => ?_) (fun hz => ?_)
    · have h := zS_f h (Int.not_lt.mpr (T_ge hz))
      refine E_aload_n (pc := 58) (zDk zD_10_ok 32 rfl) rfl ?_
      refine E_getR (pc := 59) (ci := 1) (f := 7) (r := (r0 + 7)) (zDk zD_10_ok 33 rfl) zc_10 (by decide +kernel) (by decide) hr0 (zg_1_7 hr0) (zh_1_7 hr0) ?_
      refine E_iconst (pc := 62) (zDk zD_10_ok 34 rfl) (by decide +kernel) ?_
      refine E_iconst (pc := 63) (zDk zD_10_ok 35 rfl) (by decide +kernel) ?_
      obtain ⟨M64, e64, h⟩ := zS_bind h
      refine E_iastore (pc := 64) (zDk zD_10_ok 36 rfl) e64 ?_
      refine E_aload_n (pc := 65) (zDk zD_10_ok 37 rfl) rfl ?_
      refine E_iconst (pc := 66) (zDk zD_10_ok 38 rfl) (by decide +kernel) ?_
      obtain ⟨M67, e67, h⟩ := zS_bind h
      refine E_virV (pc := 67) (c := 13) (r := r0) (as := [.inl (0 : Int)]) (rest := []) (zDk zD_10_ok 39 rfl) zc_10 (by decide +kernel) zk_13 ⟨(Nat.le_of_ble_eq_true rfl), rfl, rfl⟩ (Nat.le_of_ble_eq_true rfl) (zr_13 _) (Nat.lt_of_lt_of_le (by decide) hq) (by rw [zm_13]; exact (Nat.le_of_ble_eq_true rfl)) ⟨zc_13, by decide⟩ hr0 (ok_lD_drinkAll ⟨M67, e67, ?_⟩)
      refine E_aload_n (pc := 70) (zDk zD_10_ok 40 rfl) rfl ?_
      refine E_iconst (pc := 71) (zDk zD_10_ok 41 rfl) (by decide +kernel) ?_
      obtain ⟨M72, e72, h⟩ := zS_bind h
      refine E_virV (pc := 72) (c := 15) (r := r0) (as := [.inl (0 : Int)]) (rest := []) (zDk zD_10_ok 42 rfl) zc_10 (by decide +kernel) zk_15 ⟨(Nat.le_of_ble_eq_true rfl), rfl, rfl⟩ (Nat.le_of_ble_eq_true rfl) (zr_15 _) (Nat.lt_of_lt_of_le (by decide) hq) (by rw [zm_15]; exact (Nat.le_of_ble_eq_true rfl)) ⟨zc_15, by decide⟩ hr0 (ok_lD_signAll ⟨M72, e72, ?_⟩)
      have h := zS_some h
      exact E_return (x := ()) (pc := 75) (zDk zD_10_ok 43 rfl) zt_10 h
    · have h := zS_t h (F_ge hz)
      refine E_aload_n (pc := 28) (zDk zD_10_ok 14 rfl) rfl ?_
      refine E_getR (pc := 29) (ci := 1) (f := 5) (r := (r0 + 5)) (zDk zD_10_ok 15 rfl) zc_10 (by decide +kernel) (by decide) hr0 (zg_1_5 hr0) (zh_1_5 hr0) ?_
      refine E_iload_n (pc := 32) (zDk zD_10_ok 16 rfl) rfl ?_
      refine E_aload_n (pc := 33) (zDk zD_10_ok 17 rfl) rfl ?_
      refine E_getR (pc := 34) (ci := 1) (f := 3) (r := (r0 + 3)) (zDk zD_10_ok 18 rfl) zc_10 (by decide +kernel) (by decide) hr0 (zg_1_3 hr0) (zh_1_3 hr0) ?_
      refine E_iload_n (pc := 37) (zDk zD_10_ok 19 rfl) rfl ?_
      obtain ⟨v38, e38, h⟩ := zS_bind h
      refine E_iaload (pc := 38) (zDk zD_10_ok 20 rfl) e38 ?_
      obtain ⟨M39, e39, h⟩ := zS_bind h
      refine E_iastore (pc := 39) (zDk zD_10_ok 21 rfl) e39 ?_
      refine E_aload_n (pc := 40) (zDk zD_10_ok 22 rfl) rfl ?_
      refine E_getR (pc := 41) (ci := 1) (f := 6) (r := (r0 + 6)) (zDk zD_10_ok 23 rfl) zc_10 (by decide +kernel) (by decide) hr0 (zg_1_6 hr0) (zh_1_6 hr0) ?_
      refine E_iload_n (pc := 44) (zDk zD_10_ok 24 rfl) rfl ?_
      refine E_aload_n (pc := 45) (zDk zD_10_ok 25 rfl) rfl ?_
      refine E_getR (pc := 46) (ci := 1) (f := 4) (r := (r0 + 4)) (zDk zD_10_ok 26 rfl) zc_10 (by decide +kernel) (by decide) hr0 (zg_1_4 hr0) (zh_1_4 hr0) ?_
      refine E_iload_n (pc := 49) (zDk zD_10_ok 27 rfl) rfl ?_
      obtain ⟨v50, e50, h⟩ := zS_bind h
      refine E_iaload (pc := 50) (zDk zD_10_ok 28 rfl) e50 ?_
      obtain ⟨M51, e51, h⟩ := zS_bind h
      refine E_iastore (pc := 51) (zDk zD_10_ok 29 rfl) e51 ?_
      refine W_iinc (pc := 52) (L' := [some (.inr (.inr r0)), some (.inl (w32 (y1 + 1)))]) (zDk zD_10_ok 30 rfl) rfl zm_10 (by decide) rfl ?_
      refine E_goto (pc := 55) (t := 17) (zDk zD_10_ok 31 rfl) rfl ?_
      exact (ih) (w32 (y1 + 1)) M51 h
def lD_begin (r0 : Nat) (M : Nat → Nat → Int) : Option (Nat → Nat → Int) :=
    (if zis 1 r0 = true then
    ((lN_build (r0 + 1) 3 (M r0 9) M).bind (fun M12 =>
    (lD_begin_c17 r0 zN (0 : Int) M12)))
    else none)
set_option maxRecDepth 100000 in
theorem ok_lD_begin {sc : zSc} {r0 : Nat} {M : Nat → Nat → Int} {P : (Nat → Nat → Int) → Prop} (h : zS (lD_begin r0 M) P) : zCv sc 10 [.inr (.inr r0)] M P := by
  have ea : zarg (zml 10) [.inr (.inr r0)] = [some (.inr (.inr r0)), none] := by rw [zm_10]; rfl
  unfold zCv zCw
  rw [ea, zr_10]
  have hq : 2 ≤ 2 := Nat.le_refl _
  unfold lD_begin at h
  have h := zS_mono h (fun x hx => (⟨rfl, hx⟩ : (none : Option zV) = none ∧ P x))
  obtain ⟨hr0, h⟩ := zS_c h
  skip
  refine E_aload_n (pc := 0) (zDk zD_10_ok 0 rfl) rfl ?_
  refine E_getR (pc := 1) (ci := 1) (f := 2) (r := (r0 + 1)) (zDk zD_10_ok 1 rfl) zc_10 (by decide +kernel) (by decide) hr0 (zg_1_2 hr0) (zh_1_2 hr0) ?_
  refine E_aload_n (pc := 4) (zDk zD_10_ok 2 rfl) rfl ?_
  refine E_getR (pc := 5) (ci := 1) (f := 0) (r := 3) (zDk zD_10_ok 3 rfl) zc_10 (by decide +kernel) (by decide) hr0 (zg_1_0 hr0) (by decide) ?_
  refine E_aload_n (pc := 8) (zDk zD_10_ok 4 rfl) rfl ?_
  refine E_getI (pc := 9) (ci := 1) (f := 9) (zDk zD_10_ok 5 rfl) zc_10 (by decide +kernel) (by decide) hr0 ?_
  obtain ⟨M12, e12, h⟩ := zS_bind h
  refine E_virV (pc := 12) (c := 36) (r := (r0 + 1)) (as := [.inr (.inr 3), .inl (M r0 9)]) (rest := []) (zDk zD_10_ok 6 rfl) zc_10 (by decide +kernel) zk_36 ⟨(Nat.le_of_ble_eq_true rfl), rfl, rfl⟩ (Nat.le_of_ble_eq_true rfl) (zr_36 _) (Nat.lt_of_lt_of_le (by decide) hq) (by rw [zm_36]; exact (Nat.le_of_ble_eq_true rfl)) ⟨zc_36, by decide⟩ (zi_1_2 hr0) (ok_lN_build ⟨M12, e12, ?_⟩)
  refine E_iconst (pc := 15) (zDk zD_10_ok 7 rfl) (by decide +kernel) ?_
  refine W_istore_n (pc := 16) (L' := [some (.inr (.inr r0)), some (.inl (0 : Int))]) (zDk zD_10_ok 8 rfl) zm_10 (by decide) rfl ?_
  exact ok_lD_begin_c17 hq r0 hr0 zN (0 : Int) M12 h
def zD_11 : List (Nat × Instr × Nat) := [(0, .iconst (0), 1), (1, .istore_n (3), 1), (2, .iload_n (3), 1), (3, .aload_n (0), 1), (4, .getfield (38), 3), (7, .getfield (95), 3), (10, .if_icmp .ge (112), 3), (13, .iload_n (1), 1), (14, .iconst (5), 1), (15, .imul, 1), (16, .iload_n (3), 1), (17, .iadd, 1), (18, .istore (4), 2), (20, .aload_n (0), 1), (21, .iload_n (3), 1), (22, .iload_n (1), 1), (23, .invokevirtual (105), 3), (26, .istore (5), 2), (28, .iload_n (2), 1), (29, .ifCond .ne (36), 3), (32, .aload_n (0), 1), (33, .getfield (28), 3), (36, .iload (4), 2), (38, .iaload, 1), (39, .ifCond .le (26), 3), (42, .aload_n (0), 1), (43, .getfield (12), 3), (46, .aload_n (0), 1), (47, .getfield (25), 3), (50, .iload (4), 2), (52, .iaload, 1), (53, .iload (5), 2), (55, .invokevirtual (109), 3), (58, .ifCond .eq (7), 3), (61, .iconst (1), 1), (62, .goto (4), 3), (65, .iconst (0), 1), (66, .istore (6), 2), (68, .aload_n (0), 1), (69, .getfield (25), 3), (72, .iload (4), 2), (74, .iconst (5), 1), (75, .iadd, 1), (76, .iload (6), 2), (78, .ifCond .eq (8), 3), (81, .iload (5), 2), (83, .goto (10), 3), (86, .aload_n (0), 1), (87, .getfield (25), 3), (90, .iload (4), 2), (92, .iaload, 1), (93, .iastore, 1), (94, .aload_n (0), 1), (95, .getfield (28), 3), (98, .iload (4), 2), (100, .iconst (5), 1), (101, .iadd, 1), (102, .iconst (0), 1), (103, .aload_n (0), 1), (104, .getfield (28), 3), (107, .iload (4), 2), (109, .iaload, 1), (110, .iconst (1), 1), (111, .isub, 1), (112, .invokestatic (113), 3), (115, .iastore, 1), (116, .iinc (3) (1), 3), (119, .goto (-117), 3), (122, .aload_n (0), 1), (123, .getfield (31), 3), (126, .iload_n (1), 1), (127, .iconst (1), 1), (128, .iadd, 1), (129, .aload_n (0), 1), (130, .getfield (31), 3), (133, .iload_n (1), 1), (134, .iaload, 1), (135, .iastore, 1), (136, .aload_n (0), 1), (137, .iload_n (1), 1), (138, .iconst (1), 1), (139, .iadd, 1), (140, .invokevirtual (98), 3), (143, .aload_n (0), 1), (144, .iload_n (1), 1), (145, .iconst (1), 1), (146, .iadd, 1), (147, .invokevirtual (102), 3), (150, .return_, 1)]
set_option maxRecDepth 100000 in
theorem zD_11_ok : zDo 11 zD_11 = true := by decide +kernel
theorem zc_11 : zcls 11 = 1 := by decide +kernel
theorem zm_11 : zml 11 = 7 := by decide +kernel
theorem zt_11 : zrt 11 = none := by decide +kernel
theorem zk_11 : zkd 11 = 1 ∧ znp 11 + 1 = 3 := by decide +kernel
theorem zr_11 (as : List zV) : zrk 11 as = 2 := by unfold zrk; rw [if_neg (by decide)]; decide +kernel
def lD_goOn_c93 (r0 : Nat) (x1 : Int) (x2 : Int) (h2 : Int → (Nat → Nat → Int) → Option (Nat → Nat → Int)) (y3 : Int) (y4 : Int) (s0 : Nat) (s1 : Int) (s2 : Int) (M : Nat → Nat → Int) : Option (Nat → Nat → Int) :=
    ((wrI s0 s1 s2 M).bind (fun M93 =>
    ((rdI (r0 + 6) y4 M93).bind (fun v109 =>
    ((wrI (r0 + 6) (w32 (y4 + (5 : Int))) (zmax (0 : Int) (w32 (v109 - (1 : Int)))) M93).bind (fun M115 =>
    (h2 (w32 (y3 + 1)) M115)))))))
set_option maxRecDepth 100000 in
theorem ok_lD_goOn_c93 {sc : zSc} {q : Nat} {P : Option zV → (Nat → Nat → Int) → Prop} (hq : 2 ≤ q) (r0 : Nat) (x1 : Int) (x2 : Int) (hr0 : zis 1 r0 = true) (h2 : Int → (Nat → Nat → Int) → Option (Nat → Nat → Int)) (H2 : ∀ (y3 : Int) (M : Nat → Nat → Int) (d4 d5 d6 : Option zV), zS (h2 y3 M) (fun M0 => P none M0) → zWp sc q 11 2 [some (.inr (.inr r0)), some (.inl x1), some (.inl x2), some (.inl y3), d4, d5, d6] [] M P) : ∀ (y3 : Int) (y4 : Int) (s0 : Nat) (s1 : Int) (s2 : Int) (M : Nat → Nat → Int) (d5 d6 : Option zV), zS (lD_goOn_c93 r0 x1 x2 h2 y3 y4 s0 s1 s2 M) (fun M0 => P none M0) → zWp sc q 11 93 [some (.inr (.inr r0)), some (.inl x1), some (.inl x2), some (.inl y3), some (.inl y4), d5, d6] [(.inl s2 : zV), .inl s1, .inr (.inr s0)] M P := by
  intro y3 y4 s0 s1 s2 M d5 d6 h
  unfold lD_goOn_c93 at h
  obtain ⟨M93, e93, h⟩ := zS_bind h
  refine E_iastore (pc := 93) (zDk zD_11_ok 51 rfl) e93 ?_
  refine E_aload_n (pc := 94) (zDk zD_11_ok 52 rfl) rfl ?_
  refine E_getR (pc := 95) (ci := 1) (f := 6) (r := (r0 + 6)) (zDk zD_11_ok 53 rfl) zc_11 (by decide +kernel) (by decide) hr0 (zg_1_6 hr0) (zh_1_6 hr0) ?_
  refine E_iload (pc := 98) (zDk zD_11_ok 54 rfl) rfl ?_
  refine E_iconst (pc := 100) (zDk zD_11_ok 55 rfl) (by decide +kernel) ?_
  refine W_iadd (pc := 101) (zDk zD_11_ok 56 rfl) ?_
  refine E_iconst (pc := 102) (zDk zD_11_ok 57 rfl) (by decide +kernel) ?_
  refine E_aload_n (pc := 103) (zDk zD_11_ok 58 rfl) rfl ?_
  refine E_getR (pc := 104) (ci := 1) (f := 6) (r := (r0 + 6)) (zDk zD_11_ok 59 rfl) zc_11 (by decide +kernel) (by decide) hr0 (zg_1_6 hr0) (zh_1_6 hr0) ?_
  refine E_iload (pc := 107) (zDk zD_11_ok 60 rfl) rfl ?_
  obtain ⟨v109, e109, h⟩ := zS_bind h
  refine E_iaload (pc := 109) (zDk zD_11_ok 61 rfl) e109 ?_
  refine E_iconst (pc := 110) (zDk zD_11_ok 62 rfl) (by decide +kernel) ?_
  refine W_isub (pc := 111) (zDk zD_11_ok 63 rfl) ?_
  refine W_max (pc := 112) (zDk zD_11_ok 64 rfl) zc_11 (by decide +kernel) (Nat.le_of_ble_eq_true rfl) (Nat.lt_of_lt_of_le (by decide) hq) ?_
  obtain ⟨M115, e115, h⟩ := zS_bind h
  refine E_iastore (pc := 115) (zDk zD_11_ok 65 rfl) e115 ?_
  refine W_iinc (pc := 116) (L' := [some (.inr (.inr r0)), some (.inl x1), some (.inl x2), some (.inl (w32 (y3 + 1))), some (.inl y4), d5, d6]) (zDk zD_11_ok 66 rfl) rfl zm_11 (by decide) rfl ?_
  refine E_goto (pc := 119) (t := 2) (zDk zD_11_ok 67 rfl) rfl ?_
  exact H2 (w32 (y3 + 1)) M115 (some (.inl y4)) d5 d6 h
def lD_goOn_c66 (r0 : Nat) (x1 : Int) (x2 : Int) (h2 : Int → (Nat → Nat → Int) → Option (Nat → Nat → Int)) (y3 : Int) (y4 : Int) (y5 : Int) (s0 : Int) (M : Nat → Nat → Int) : Option (Nat → Nat → Int) :=
    (if s0 = 0 then
    ((rdI (r0 + 5) y4 M).bind (fun v92 =>
    (lD_goOn_c93 r0 x1 x2 h2 y3 y4 (r0 + 5) (w32 (y4 + (5 : Int))) v92 M)))
    else
    (lD_goOn_c93 r0 x1 x2 h2 y3 y4 (r0 + 5) (w32 (y4 + (5 : Int))) y5 M))
set_option maxRecDepth 100000 in
theorem ok_lD_goOn_c66 {sc : zSc} {q : Nat} {P : Option zV → (Nat → Nat → Int) → Prop} (hq : 2 ≤ q) (r0 : Nat) (x1 : Int) (x2 : Int) (hr0 : zis 1 r0 = true) (h2 : Int → (Nat → Nat → Int) → Option (Nat → Nat → Int)) (H2 : ∀ (y3 : Int) (M : Nat → Nat → Int) (d4 d5 d6 : Option zV), zS (h2 y3 M) (fun M0 => P none M0) → zWp sc q 11 2 [some (.inr (.inr r0)), some (.inl x1), some (.inl x2), some (.inl y3), d4, d5, d6] [] M P) : ∀ (y3 : Int) (y4 : Int) (y5 : Int) (s0 : Int) (M : Nat → Nat → Int) (d6 : Option zV), zS (lD_goOn_c66 r0 x1 x2 h2 y3 y4 y5 s0 M) (fun M0 => P none M0) → zWp sc q 11 66 [some (.inr (.inr r0)), some (.inl x1), some (.inl x2), some (.inl y3), some (.inl y4), some (.inl y5), d6] [(.inl s0 : zV)] M P := by
  intro y3 y4 y5 s0 M d6 h
  unfold lD_goOn_c66 at h
  refine W_istore (pc := 66) (L' := [some (.inr (.inr r0)), some (.inl x1), some (.inl x2), some (.inl y3), some (.inl y4), some (.inl y5), some (.inl s0)]) (zDk zD_11_ok 37 rfl) zm_11 (by decide) rfl ?_
  refine E_aload_n (pc := 68) (zDk zD_11_ok 38 rfl) rfl ?_
  refine E_getR (pc := 69) (ci := 1) (f := 5) (r := (r0 + 5)) (zDk zD_11_ok 39 rfl) zc_11 (by decide +kernel) (by decide) hr0 (zg_1_5 hr0) (zh_1_5 hr0) ?_
  refine E_iload (pc := 72) (zDk zD_11_ok 40 rfl) rfl ?_
  refine E_iconst (pc := 74) (zDk zD_11_ok 41 rfl) (by decide +kernel) ?_
  refine W_iadd (pc := 75) (zDk zD_11_ok 42 rfl) ?_
  refine E_iload (pc := 76) (zDk zD_11_ok 43 rfl) rfl ?_
  refine E_if (pc := 78) (t := 86) (zDk zD_11_ok 44 rfl) rfl (fun hz => ?_) (fun hz => ?_)
  · have h := zS_t h (T_eq hz)
    refine E_aload_n (pc := 86) (zDk zD_11_ok 47 rfl) rfl ?_
    refine E_getR (pc := 87) (ci := 1) (f := 5) (r := (r0 + 5)) (zDk zD_11_ok 48 rfl) zc_11 (by decide +kernel) (by decide) hr0 (zg_1_5 hr0) (zh_1_5 hr0) ?_
    refine E_iload (pc := 90) (zDk zD_11_ok 49 rfl) rfl ?_
    obtain ⟨v92, e92, h⟩ := zS_bind h
    refine E_iaload (pc := 92) (zDk zD_11_ok 50 rfl) e92 ?_
    exact ok_lD_goOn_c93 hq r0 x1 x2 hr0 h2 H2 y3 y4 (r0 + 5) (w32 (y4 + (5 : Int))) v92 M (some (.inl y5)) (some (.inl s0)) h
  · have h := zS_f h (F_eq hz)
    refine E_iload (pc := 81) (zDk zD_11_ok 45 rfl) rfl ?_
    refine E_goto (pc := 83) (t := 93) (zDk zD_11_ok 46 rfl) rfl ?_
    exact ok_lD_goOn_c93 hq r0 x1 x2 hr0 h2 H2 y3 y4 (r0 + 5) (w32 (y4 + (5 : Int))) y5 M (some (.inl y5)) (some (.inl s0)) h
def lD_goOn_c2 (r0 : Nat) (x1 : Int) (x2 : Int) : Nat → Int → (Nat → Nat → Int) → Option (Nat → Nat → Int)
  | 0, _, _ => none
  | n + 1, y3, M =>
    (if y3 < (M 3 7) then
    ((lD_aimOf r0 y3 x1 M).bind (fun v23 =>
    (if x2 = 0 then
    ((rdI (r0 + 6) (w32 ((w32 (x1 * (5 : Int))) + y3)) M).bind (fun v38 =>
    (if 0 < v38 then
    ((rdI (r0 + 5) (w32 ((w32 (x1 * (5 : Int))) + y3)) M).bind (fun v52 =>
    ((lN_joins (r0 + 1) v52 v23 M).bind (fun v55 =>
    (if v55 = 0 then
    (lD_goOn_c66 r0 x1 x2 (lD_goOn_c2 r0 x1 x2 n) y3 (w32 ((w32 (x1 * (5 : Int))) + y3)) v23 (0 : Int) M)
    else
    (lD_goOn_c66 r0 x1 x2 (lD_goOn_c2 r0 x1 x2 n) y3 (w32 ((w32 (x1 * (5 : Int))) + y3)) v23 (1 : Int) M))))))
    else
    (lD_goOn_c66 r0 x1 x2 (lD_goOn_c2 r0 x1 x2 n) y3 (w32 ((w32 (x1 * (5 : Int))) + y3)) v23 (0 : Int) M))))
    else
    (lD_goOn_c66 r0 x1 x2 (lD_goOn_c2 r0 x1 x2 n) y3 (w32 ((w32 (x1 * (5 : Int))) + y3)) v23 (0 : Int) M))))
    else
    ((rdI (r0 + 7) x1 M).bind (fun v134 =>
    ((wrI (r0 + 7) (w32 (x1 + (1 : Int))) v134 M).bind (fun M135 =>
    ((lD_drinkAll r0 (w32 (x1 + (1 : Int))) M135).bind (fun M140 =>
    ((lD_signAll r0 (w32 (x1 + (1 : Int))) M140).bind (fun M147 =>
    (some M147))))))))))
set_option maxRecDepth 100000 in
theorem ok_lD_goOn_c2 {sc : zSc} {q : Nat} {P : Option zV → (Nat → Nat → Int) → Prop} (hq : 2 ≤ q) (r0 : Nat) (x1 : Int) (x2 : Int) (hr0 : zis 1 r0 = true) : ∀ (n : Nat) (y3 : Int) (M : Nat → Nat → Int) (d4 d5 d6 : Option zV), zS (lD_goOn_c2 r0 x1 x2 n y3 M) (fun M0 => P none M0) → zWp sc q 11 2 [some (.inr (.inr r0)), some (.inl x1), some (.inl x2), some (.inl y3), d4, d5, d6] [] M P := by
  intro n
  induction n with
  | zero => intro y3 M d4 d5 d6 h; exact (zS_none h).elim
  | succ n ih =>
    intro y3 M d4 d5 d6 h
    rw [lD_goOn_c2] at h
    refine E_iload_n (pc := 2) (zDk zD_11_ok 2 rfl) rfl ?_
    refine E_aload_n (pc := 3) (zDk zD_11_ok 3 rfl) rfl ?_
    refine E_getR (pc := 4) (ci := 1) (f := 0) (r := 3) (zDk zD_11_ok 4 rfl) zc_11 (by decide +kernel) (by decide) hr0 (zg_1_0 hr0) (by decide) ?_
    refine E_getI (pc := 7) (ci := 6) (f := 7) (zDk zD_11_ok 5 rfl) zc_11 (by decide +kernel) (by decide) zis_6_3 ?_
    refine E_icmp (pc := 10) (t := 122) (zDk zD_11_ok 6 rfl) rfl (fun hz => ?_) (fun hz => ?_)
    · have h := zS_f h (Int.not_lt.mpr (T_ge hz))
      refine E_aload_n (pc := 122) (zDk zD_11_ok 68 rfl) rfl ?_
      refine E_getR (pc := 123) (ci := 1) (f := 7) (r := (r0 + 7)) (zDk zD_11_ok 69 rfl) zc_11 (by decide +kernel) (by decide) hr0 (zg_1_7 hr0) (zh_1_7 hr0) ?_
      refine E_iload_n (pc := 126) (zDk zD_11_ok 70 rfl) rfl ?_
      refine E_iconst (pc := 127) (zDk zD_11_ok 71 rfl) (by decide +kernel) ?_
      refine W_iadd (pc := 128) (zDk zD_11_ok 72 rfl) ?_
      refine E_aload_n (pc := 129) (zDk zD_11_ok 73 rfl) rfl ?_
      refine E_getR (pc := 130) (ci := 1) (f := 7) (r := (r0 + 7)) (zDk zD_11_ok 74 rfl) zc_11 (by decide +kernel) (by decide) hr0 (zg_1_7 hr0) (zh_1_7 hr0) ?_
      refine E_iload_n (pc := 133) (zDk zD_11_ok 75 rfl) rfl ?_
      obtain ⟨v134, e134, h⟩ := zS_bind h
      refine E_iaload (pc := 134) (zDk zD_11_ok 76 rfl) e134 ?_
      obtain ⟨M135, e135, h⟩ := zS_bind h
      refine E_iastore (pc := 135) (zDk zD_11_ok 77 rfl) e135 ?_
      refine E_aload_n (pc := 136) (zDk zD_11_ok 78 rfl) rfl ?_
      refine E_iload_n (pc := 137) (zDk zD_11_ok 79 rfl) rfl ?_
      refine E_iconst (pc := 138) (zDk zD_11_ok 80 rfl) (by decide +kernel) ?_
      refine W_iadd (pc := 139) (zDk zD_11_ok 81 rfl) ?_
      obtain ⟨M140, e140, h⟩ := zS_bind h
      refine E_virV (pc := 140) (c := 13) (r := r0) (as := [.inl (w32 (x1 + (1 : Int)))]) (rest := []) (zDk zD_11_ok 82 rfl) zc_11 (by decide +kernel) zk_13 ⟨(Nat.le_of_ble_eq_true rfl), rfl, rfl⟩ (Nat.le_of_ble_eq_true rfl) (zr_13 _) (Nat.lt_of_lt_of_le (by decide) hq) (by rw [zm_13]; exact (Nat.le_of_ble_eq_true rfl)) ⟨zc_13, by decide⟩ hr0 (ok_lD_drinkAll ⟨M140, e140, ?_⟩)
      refine E_aload_n (pc := 143) (zDk zD_11_ok 83 rfl) rfl ?_
      refine E_iload_n (pc := 144) (zDk zD_11_ok 84 rfl) rfl ?_
      refine E_iconst (pc := 145) (zDk zD_11_ok 85 rfl) (by decide +kernel) ?_
      refine W_iadd (pc := 146) (zDk zD_11_ok 86 rfl) ?_
      obtain ⟨M147, e147, h⟩ := zS_bind h
      refine E_virV (pc := 147) (c := 15) (r := r0) (as := [.inl (w32 (x1 + (1 : Int)))]) (rest := []) (zDk zD_11_ok 87 rfl) zc_11 (by decide +kernel) zk_15 ⟨(Nat.le_of_ble_eq_true rfl), rfl, rfl⟩ (Nat.le_of_ble_eq_true rfl) (zr_15 _) (Nat.lt_of_lt_of_le (by decide) hq) (by rw [zm_15]; exact (Nat.le_of_ble_eq_true rfl)) ⟨zc_15, by decide⟩ hr0 (ok_lD_signAll ⟨M147, e147, ?_⟩)
      have h := zS_some h
      exact E_return (x := ()) (pc := 150) (zDk zD_11_ok 88 rfl) zt_11 h
    · have h := zS_t h (F_ge hz)
      refine E_iload_n (pc := 13) (zDk zD_11_ok 7 rfl) rfl ?_
      refine E_iconst (pc := 14) (zDk zD_11_ok 8 rfl) (by decide +kernel) ?_
      refine W_imul (pc := 15) (zDk zD_11_ok 9 rfl) ?_
      refine E_iload_n (pc := 16) (zDk zD_11_ok 10 rfl) rfl ?_
      refine W_iadd (pc := 17) (zDk zD_11_ok 11 rfl) ?_
      refine W_istore (pc := 18) (L' := [some (.inr (.inr r0)), some (.inl x1), some (.inl x2), some (.inl y3), some (.inl (w32 ((w32 (x1 * (5 : Int))) + y3))), d5, d6]) (zDk zD_11_ok 12 rfl) zm_11 (by decide) rfl ?_
      refine E_aload_n (pc := 20) (zDk zD_11_ok 13 rfl) rfl ?_
      refine E_iload_n (pc := 21) (zDk zD_11_ok 14 rfl) rfl ?_
      refine E_iload_n (pc := 22) (zDk zD_11_ok 15 rfl) rfl ?_
      obtain ⟨v23, e23, h⟩ := zS_bind h
      refine E_virI (pc := 23) (c := 12) (r := r0) (as := [.inl y3, .inl x1]) (rest := []) (zDk zD_11_ok 16 rfl) zc_11 (by decide +kernel) zk_12 ⟨(Nat.le_of_ble_eq_true rfl), rfl, rfl⟩ (Nat.le_of_ble_eq_true rfl) (zr_12 _) (Nat.lt_of_lt_of_le (by decide) hq) (by rw [zm_12]; exact (Nat.le_of_ble_eq_true rfl)) ⟨zc_12, by decide⟩ hr0 (ok_lD_aimOf ⟨v23, e23, ?_⟩)
      refine W_istore (pc := 26) (L' := [some (.inr (.inr r0)), some (.inl x1), some (.inl x2), some (.inl y3), some (.inl (w32 ((w32 (x1 * (5 : Int))) + y3))), some (.inl v23), d6]) (zDk zD_11_ok 17 rfl) zm_11 (by decide) rfl ?_
      refine E_iload_n (pc := 28) (zDk zD_11_ok 18 rfl) rfl ?_
      refine E_if (pc := 29) (t := 65) (zDk zD_11_ok 19 rfl) rfl (fun hz => ?_) (fun hz => ?_)
      · have h := zS_f h (T_ne hz)
        refine E_iconst (pc := 65) (zDk zD_11_ok 36 rfl) (by decide +kernel) ?_
        exact ok_lD_goOn_c66 hq r0 x1 x2 hr0 (lD_goOn_c2 r0 x1 x2 n) (ih) y3 (w32 ((w32 (x1 * (5 : Int))) + y3)) v23 (0 : Int) M d6 h
      · have h := zS_t h (F_ne hz)
        refine E_aload_n (pc := 32) (zDk zD_11_ok 20 rfl) rfl ?_
        refine E_getR (pc := 33) (ci := 1) (f := 6) (r := (r0 + 6)) (zDk zD_11_ok 21 rfl) zc_11 (by decide +kernel) (by decide) hr0 (zg_1_6 hr0) (zh_1_6 hr0) ?_
        refine E_iload (pc := 36) (zDk zD_11_ok 22 rfl) rfl ?_
        obtain ⟨v38, e38, h⟩ := zS_bind h
        refine E_iaload (pc := 38) (zDk zD_11_ok 23 rfl) e38 ?_
        refine E_if (pc := 39) (t := 65) (zDk zD_11_ok 24 rfl) rfl (fun hz => ?_) (fun hz => ?_)
        · have h := zS_f h (Int.not_lt.mpr (T_le hz))
          refine E_iconst (pc := 65) (zDk zD_11_ok 36 rfl) (by decide +kernel) ?_
          exact ok_lD_goOn_c66 hq r0 x1 x2 hr0 (lD_goOn_c2 r0 x1 x2 n) (ih) y3 (w32 ((w32 (x1 * (5 : Int))) + y3)) v23 (0 : Int) M d6 h
        · have h := zS_t h (F_le hz)
          refine E_aload_n (pc := 42) (zDk zD_11_ok 25 rfl) rfl ?_
          refine E_getR (pc := 43) (ci := 1) (f := 2) (r := (r0 + 1)) (zDk zD_11_ok 26 rfl) zc_11 (by decide +kernel) (by decide) hr0 (zg_1_2 hr0) (zh_1_2 hr0) ?_
          refine E_aload_n (pc := 46) (zDk zD_11_ok 27 rfl) rfl ?_
          refine E_getR (pc := 47) (ci := 1) (f := 5) (r := (r0 + 5)) (zDk zD_11_ok 28 rfl) zc_11 (by decide +kernel) (by decide) hr0 (zg_1_5 hr0) (zh_1_5 hr0) ?_
          refine E_iload (pc := 50) (zDk zD_11_ok 29 rfl) rfl ?_
          obtain ⟨v52, e52, h⟩ := zS_bind h
          refine E_iaload (pc := 52) (zDk zD_11_ok 30 rfl) e52 ?_
          refine E_iload (pc := 53) (zDk zD_11_ok 31 rfl) rfl ?_
          obtain ⟨v55, e55, h⟩ := zS_bind h
          refine E_virI (pc := 55) (c := 37) (r := (r0 + 1)) (as := [.inl v52, .inl v23]) (rest := []) (zDk zD_11_ok 32 rfl) zc_11 (by decide +kernel) zk_37 ⟨(Nat.le_of_ble_eq_true rfl), rfl, rfl⟩ (Nat.le_of_ble_eq_true rfl) (zr_37 _) (Nat.lt_of_lt_of_le (by decide) hq) (by rw [zm_37]; exact (Nat.le_of_ble_eq_true rfl)) ⟨zc_37, by decide⟩ (zi_1_2 hr0) (ok_lN_joins ⟨v55, e55, ?_⟩)
          refine E_if (pc := 58) (t := 65) (zDk zD_11_ok 33 rfl) rfl (fun hz => ?_) (fun hz => ?_)
          · have h := zS_t h (T_eq hz)
            refine E_iconst (pc := 65) (zDk zD_11_ok 36 rfl) (by decide +kernel) ?_
            exact ok_lD_goOn_c66 hq r0 x1 x2 hr0 (lD_goOn_c2 r0 x1 x2 n) (ih) y3 (w32 ((w32 (x1 * (5 : Int))) + y3)) v23 (0 : Int) M d6 h
          · have h := zS_f h (F_eq hz)
            refine E_iconst (pc := 61) (zDk zD_11_ok 34 rfl) (by decide +kernel) ?_
            refine E_goto (pc := 62) (t := 66) (zDk zD_11_ok 35 rfl) rfl ?_
            exact ok_lD_goOn_c66 hq r0 x1 x2 hr0 (lD_goOn_c2 r0 x1 x2 n) (ih) y3 (w32 ((w32 (x1 * (5 : Int))) + y3)) v23 (1 : Int) M d6 h
def lD_goOn (r0 : Nat) (x1 : Int) (x2 : Int) (M : Nat → Nat → Int) : Option (Nat → Nat → Int) :=
    (if zis 1 r0 = true then
    (lD_goOn_c2 r0 x1 x2 zN (0 : Int) M)
    else none)
set_option maxRecDepth 100000 in
theorem ok_lD_goOn {sc : zSc} {r0 : Nat} {x1 : Int} {x2 : Int} {M : Nat → Nat → Int} {P : (Nat → Nat → Int) → Prop} (h : zS (lD_goOn r0 x1 x2 M) P) : zCv sc 11 [.inr (.inr r0), .inl x1, .inl x2] M P := by
  have ea : zarg (zml 11) [.inr (.inr r0), .inl x1, .inl x2] = [some (.inr (.inr r0)), some (.inl x1), some (.inl x2), none, none, none, none] := by rw [zm_11]; rfl
  unfold zCv zCw
  rw [ea, zr_11]
  have hq : 2 ≤ 2 := Nat.le_refl _
  unfold lD_goOn at h
  have h := zS_mono h (fun x hx => (⟨rfl, hx⟩ : (none : Option zV) = none ∧ P x))
  obtain ⟨hr0, h⟩ := zS_c h
  skip
  refine E_iconst (pc := 0) (zDk zD_11_ok 0 rfl) (by decide +kernel) ?_
  refine W_istore_n (pc := 1) (L' := [some (.inr (.inr r0)), some (.inl x1), some (.inl x2), some (.inl (0 : Int)), none, none, none]) (zDk zD_11_ok 1 rfl) zm_11 (by decide) rfl ?_
  exact ok_lD_goOn_c2 hq r0 x1 x2 hr0 zN (0 : Int) M none none none h
def zD_53 : List (Nat × Instr × Nat) := [(0, .aload_n (0), 1), (1, .getfield (27), 3), (4, .ifCond .ne (18), 3), (7, .aload_n (0), 1), (8, .getfield (36), 3), (11, .iconst (3), 1), (12, .if_icmp .ne (10), 3), (15, .aload_n (0), 1), (16, .invokevirtual (33), 3), (19, .goto (8), 3), (22, .aload_n (0), 1), (23, .iconst (1), 1), (24, .invokevirtual (73), 3), (27, .return_, 1)]
set_option maxRecDepth 100000 in
theorem zD_53_ok : zDo 53 zD_53 = true := by decide +kernel
theorem zc_53 : zcls 53 = 4 := by decide +kernel
theorem zm_53 : zml 53 = 1 := by decide +kernel
theorem zt_53 : zrt 53 = none := by decide +kernel
theorem zk_53 : zkd 53 = 1 ∧ znp 53 + 1 = 1 := by decide +kernel
theorem zr_53 (as : List zV) : zrk 53 as = 2 := by unfold zrk; rw [if_neg (by decide)]; decide +kernel
def lR_takeStop (M : Nat → Nat → Int) : Option (Nat → Nat → Int) :=
    (if (M 1 2) = 0 then
    (if (M 1 4) = (3 : Int) then
    ((lR_takeToken M).bind (fun M16 =>
    (some M16)))
    else
    ((lR_fail (1 : Int) M).bind (fun M24 =>
    (some M24))))
    else
    ((lR_fail (1 : Int) M).bind (fun M24 =>
    (some M24))))
set_option maxRecDepth 100000 in
theorem ok_lR_takeStop {sc : zSc} {M : Nat → Nat → Int} {P : (Nat → Nat → Int) → Prop} (h : zS (lR_takeStop M) P) : zCv sc 53 [.inr (.inr 1)] M P := by
  have ea : zarg (zml 53) [.inr (.inr 1)] = [some (.inr (.inr 1))] := by rw [zm_53]; rfl
  unfold zCv zCw
  rw [ea, zr_53]
  have hq : 2 ≤ 2 := Nat.le_refl _
  unfold lR_takeStop at h
  have h := zS_mono h (fun x hx => (⟨rfl, hx⟩ : (none : Option zV) = none ∧ P x))
  skip
  refine E_aload_n (pc := 0) (zDk zD_53_ok 0 rfl) rfl ?_
  refine E_getI (pc := 1) (ci := 4) (f := 2) (zDk zD_53_ok 1 rfl) zc_53 (by decide +kernel) (by decide) zis_4_1 ?_
  refine E_if (pc := 4) (t := 22) (zDk zD_53_ok 2 rfl) rfl (fun hz => ?_) (fun hz => ?_)
  · have h := zS_f h (T_ne hz)
    refine E_aload_n (pc := 22) (zDk zD_53_ok 10 rfl) rfl ?_
    refine E_iconst (pc := 23) (zDk zD_53_ok 11 rfl) (by decide +kernel) ?_
    obtain ⟨M24, e24, h⟩ := zS_bind h
    refine E_virV (pc := 24) (c := 51) (r := 1) (as := [.inl (1 : Int)]) (rest := []) (zDk zD_53_ok 12 rfl) zc_53 (by decide +kernel) zk_51 ⟨(Nat.le_of_ble_eq_true rfl), rfl, rfl⟩ (Nat.le_of_ble_eq_true rfl) (zr_51 _) (Nat.lt_of_lt_of_le (by decide) hq) (by rw [zm_51]; exact (Nat.le_of_ble_eq_true rfl)) ⟨zc_51, by decide⟩ zis_4_1 (ok_lR_fail ⟨M24, e24, ?_⟩)
    have h := zS_some h
    exact E_return (x := ()) (pc := 27) (zDk zD_53_ok 13 rfl) zt_53 h
  · have h := zS_t h (F_ne hz)
    refine E_aload_n (pc := 7) (zDk zD_53_ok 3 rfl) rfl ?_
    refine E_getI (pc := 8) (ci := 4) (f := 4) (zDk zD_53_ok 4 rfl) zc_53 (by decide +kernel) (by decide) zis_4_1 ?_
    refine E_iconst (pc := 11) (zDk zD_53_ok 5 rfl) (by decide +kernel) ?_
    refine E_icmp (pc := 12) (t := 22) (zDk zD_53_ok 6 rfl) rfl (fun hz => ?_) (fun hz => ?_)
    · have h := zS_f h (T_ne hz)
      refine E_aload_n (pc := 22) (zDk zD_53_ok 10 rfl) rfl ?_
      refine E_iconst (pc := 23) (zDk zD_53_ok 11 rfl) (by decide +kernel) ?_
      obtain ⟨M24, e24, h⟩ := zS_bind h
      refine E_virV (pc := 24) (c := 51) (r := 1) (as := [.inl (1 : Int)]) (rest := []) (zDk zD_53_ok 12 rfl) zc_53 (by decide +kernel) zk_51 ⟨(Nat.le_of_ble_eq_true rfl), rfl, rfl⟩ (Nat.le_of_ble_eq_true rfl) (zr_51 _) (Nat.lt_of_lt_of_le (by decide) hq) (by rw [zm_51]; exact (Nat.le_of_ble_eq_true rfl)) ⟨zc_51, by decide⟩ zis_4_1 (ok_lR_fail ⟨M24, e24, ?_⟩)
      have h := zS_some h
      exact E_return (x := ()) (pc := 27) (zDk zD_53_ok 13 rfl) zt_53 h
    · have h := zS_t h (F_ne hz)
      refine E_aload_n (pc := 15) (zDk zD_53_ok 7 rfl) rfl ?_
      obtain ⟨M16, e16, h⟩ := zS_bind h
      refine E_virV (pc := 16) (c := 56) (r := 1) (as := []) (rest := []) (zDk zD_53_ok 8 rfl) zc_53 (by decide +kernel) zk_56 ⟨(Nat.le_of_ble_eq_true rfl), rfl, rfl⟩ (Nat.le_of_ble_eq_true rfl) (zr_56 _) (Nat.lt_of_lt_of_le (by decide) hq) (by rw [zm_56]; exact (Nat.le_of_ble_eq_true rfl)) ⟨zc_56, by decide⟩ zis_4_1 (ok_lR_takeToken ⟨M16, e16, ?_⟩)
      refine E_goto (pc := 19) (t := 27) (zDk zD_53_ok 9 rfl) rfl ?_
      have h := zS_some h
      exact E_return (x := ()) (pc := 27) (zDk zD_53_ok 13 rfl) zt_53 h
def zD_54 : List (Nat × Instr × Nat) := [(0, .aload_n (0), 1), (1, .getfield (27), 3), (4, .ifCond .eq (5), 3), (7, .iconst (0), 1), (8, .ireturn, 1), (9, .aload_n (0), 1), (10, .getfield (36), 3), (13, .iconst (2), 1), (14, .if_icmp .eq (10), 3), (17, .aload_n (0), 1), (18, .iconst (1), 1), (19, .invokevirtual (73), 3), (22, .iconst (0), 1), (23, .ireturn, 1), (24, .aload_n (0), 1), (25, .getfield (162), 3), (28, .istore (4), 2), (30, .iload (4), 2), (32, .bipush (8), 2), (34, .if_icmp .ge (16), 3), (37, .iload_n (3), 1), (38, .iload (4), 2), (40, .ishr, 1), (41, .iconst (1), 1), (42, .iand, 1), (43, .ifCond .eq (7), 3), (46, .iconst (1), 1), (47, .goto (4), 3), (50, .iconst (0), 1), (51, .istore (5), 2), (53, .iload (4), 2), (55, .iload_n (1), 1), (56, .if_icmp .lt (14), 3), (59, .iload (4), 2), (61, .iload_n (2), 1), (62, .if_icmp .gt (8), 3), (65, .iload (5), 2), (67, .ifCond .eq (10), 3), (70, .aload_n (0), 1), (71, .iconst (2), 1), (72, .invokevirtual (73), 3), (75, .iconst (0), 1), (76, .ireturn, 1), (77, .aload_n (0), 1), (78, .invokevirtual (33), 3), (81, .iload (4), 2), (83, .ireturn, 1)]
set_option maxRecDepth 100000 in
theorem zD_54_ok : zDo 54 zD_54 = true := by decide +kernel
theorem zc_54 : zcls 54 = 4 := by decide +kernel
theorem zm_54 : zml 54 = 6 := by decide +kernel
theorem zt_54 : zrt 54 = (some (.int)) := by decide +kernel
theorem zk_54 : zkd 54 = 1 ∧ znp 54 + 1 = 4 := by decide +kernel
theorem zr_54 (as : List zV) : zrk 54 as = 2 := by unfold zrk; rw [if_neg (by decide)]; decide +kernel
def lR_takeNumber_c51 (x1 : Int) (x2 : Int) (x3 : Int) (y4 : Int) (s0 : Int) (M : Nat → Nat → Int) : Option (Int × (Nat → Nat → Int)) :=
    (if y4 < x1 then
    ((lR_fail (2 : Int) M).bind (fun M72 =>
    (some ((0 : Int), M72))))
    else
    (if x2 < y4 then
    ((lR_fail (2 : Int) M).bind (fun M72 =>
    (some ((0 : Int), M72))))
    else
    (if s0 = 0 then
    ((lR_takeToken M).bind (fun M78 =>
    (some (y4, M78))))
    else
    ((lR_fail (2 : Int) M).bind (fun M72 =>
    (some ((0 : Int), M72)))))))
set_option maxRecDepth 100000 in
theorem ok_lR_takeNumber_c51 {sc : zSc} {q : Nat} {P : Option zV → (Nat → Nat → Int) → Prop} (hq : 2 ≤ q) (x1 : Int) (x2 : Int) (x3 : Int) : ∀ (y4 : Int) (s0 : Int) (M : Nat → Nat → Int) (d5 : Option zV), zS (lR_takeNumber_c51 x1 x2 x3 y4 s0 M) (fun r => P (some (.inl r.1)) r.2) → zWp sc q 54 51 [some (.inr (.inr 1)), some (.inl x1), some (.inl x2), some (.inl x3), some (.inl y4), d5] [(.inl s0 : zV)] M P := by
  intro y4 s0 M d5 h
  unfold lR_takeNumber_c51 at h
  refine W_istore (pc := 51) (L' := [some (.inr (.inr 1)), some (.inl x1), some (.inl x2), some (.inl x3), some (.inl y4), some (.inl s0)]) (zDk zD_54_ok 29 rfl) zm_54 (by decide) rfl ?_
  refine E_iload (pc := 53) (zDk zD_54_ok 30 rfl) rfl ?_
  refine E_iload_n (pc := 55) (zDk zD_54_ok 31 rfl) rfl ?_
  refine E_icmp (pc := 56) (t := 70) (zDk zD_54_ok 32 rfl) rfl (fun hz => ?_) (fun hz => ?_)
  · have h := zS_t h (T_lt hz)
    refine E_aload_n (pc := 70) (zDk zD_54_ok 38 rfl) rfl ?_
    refine E_iconst (pc := 71) (zDk zD_54_ok 39 rfl) (by decide +kernel) ?_
    obtain ⟨M72, e72, h⟩ := zS_bind h
    refine E_virV (pc := 72) (c := 51) (r := 1) (as := [.inl (2 : Int)]) (rest := []) (zDk zD_54_ok 40 rfl) zc_54 (by decide +kernel) zk_51 ⟨(Nat.le_of_ble_eq_true rfl), rfl, rfl⟩ (Nat.le_of_ble_eq_true rfl) (zr_51 _) (Nat.lt_of_lt_of_le (by decide) hq) (by rw [zm_51]; exact (Nat.le_of_ble_eq_true rfl)) ⟨zc_51, by decide⟩ zis_4_1 (ok_lR_fail ⟨M72, e72, ?_⟩)
    refine E_iconst (pc := 75) (zDk zD_54_ok 41 rfl) (by decide +kernel) ?_
    have h := zS_some h
    exact E_ireturn (pc := 76) (zDk zD_54_ok 42 rfl) zt_54 h
  · have h := zS_f h (Int.not_lt.mpr (F_lt hz))
    refine E_iload (pc := 59) (zDk zD_54_ok 33 rfl) rfl ?_
    refine E_iload_n (pc := 61) (zDk zD_54_ok 34 rfl) rfl ?_
    refine E_icmp (pc := 62) (t := 70) (zDk zD_54_ok 35 rfl) rfl (fun hz => ?_) (fun hz => ?_)
    · have h := zS_t h (T_gt hz)
      refine E_aload_n (pc := 70) (zDk zD_54_ok 38 rfl) rfl ?_
      refine E_iconst (pc := 71) (zDk zD_54_ok 39 rfl) (by decide +kernel) ?_
      obtain ⟨M72, e72, h⟩ := zS_bind h
      refine E_virV (pc := 72) (c := 51) (r := 1) (as := [.inl (2 : Int)]) (rest := []) (zDk zD_54_ok 40 rfl) zc_54 (by decide +kernel) zk_51 ⟨(Nat.le_of_ble_eq_true rfl), rfl, rfl⟩ (Nat.le_of_ble_eq_true rfl) (zr_51 _) (Nat.lt_of_lt_of_le (by decide) hq) (by rw [zm_51]; exact (Nat.le_of_ble_eq_true rfl)) ⟨zc_51, by decide⟩ zis_4_1 (ok_lR_fail ⟨M72, e72, ?_⟩)
      refine E_iconst (pc := 75) (zDk zD_54_ok 41 rfl) (by decide +kernel) ?_
      have h := zS_some h
      exact E_ireturn (pc := 76) (zDk zD_54_ok 42 rfl) zt_54 h
    · have h := zS_f h (Int.not_lt.mpr (F_gt hz))
      refine E_iload (pc := 65) (zDk zD_54_ok 36 rfl) rfl ?_
      refine E_if (pc := 67) (t := 77) (zDk zD_54_ok 37 rfl) rfl (fun hz => ?_) (fun hz => ?_)
      · have h := zS_t h (T_eq hz)
        refine E_aload_n (pc := 77) (zDk zD_54_ok 43 rfl) rfl ?_
        obtain ⟨M78, e78, h⟩ := zS_bind h
        refine E_virV (pc := 78) (c := 56) (r := 1) (as := []) (rest := []) (zDk zD_54_ok 44 rfl) zc_54 (by decide +kernel) zk_56 ⟨(Nat.le_of_ble_eq_true rfl), rfl, rfl⟩ (Nat.le_of_ble_eq_true rfl) (zr_56 _) (Nat.lt_of_lt_of_le (by decide) hq) (by rw [zm_56]; exact (Nat.le_of_ble_eq_true rfl)) ⟨zc_56, by decide⟩ zis_4_1 (ok_lR_takeToken ⟨M78, e78, ?_⟩)
        refine E_iload (pc := 81) (zDk zD_54_ok 45 rfl) rfl ?_
        have h := zS_some h
        exact E_ireturn (pc := 83) (zDk zD_54_ok 46 rfl) zt_54 h
      · have h := zS_f h (F_eq hz)
        refine E_aload_n (pc := 70) (zDk zD_54_ok 38 rfl) rfl ?_
        refine E_iconst (pc := 71) (zDk zD_54_ok 39 rfl) (by decide +kernel) ?_
        obtain ⟨M72, e72, h⟩ := zS_bind h
        refine E_virV (pc := 72) (c := 51) (r := 1) (as := [.inl (2 : Int)]) (rest := []) (zDk zD_54_ok 40 rfl) zc_54 (by decide +kernel) zk_51 ⟨(Nat.le_of_ble_eq_true rfl), rfl, rfl⟩ (Nat.le_of_ble_eq_true rfl) (zr_51 _) (Nat.lt_of_lt_of_le (by decide) hq) (by rw [zm_51]; exact (Nat.le_of_ble_eq_true rfl)) ⟨zc_51, by decide⟩ zis_4_1 (ok_lR_fail ⟨M72, e72, ?_⟩)
        refine E_iconst (pc := 75) (zDk zD_54_ok 41 rfl) (by decide +kernel) ?_
        have h := zS_some h
        exact E_ireturn (pc := 76) (zDk zD_54_ok 42 rfl) zt_54 h
def lR_takeNumber (x1 : Int) (x2 : Int) (x3 : Int) (M : Nat → Nat → Int) : Option (Int × (Nat → Nat → Int)) :=
    (if (M 1 2) = 0 then
    (if (M 1 4) = (2 : Int) then
    (if (M 1 7) < (8 : Int) then
    (if (zand (zshr x3 (M 1 7)) (1 : Int)) = 0 then
    (lR_takeNumber_c51 x1 x2 x3 (M 1 7) (0 : Int) M)
    else
    (lR_takeNumber_c51 x1 x2 x3 (M 1 7) (1 : Int) M))
    else
    (lR_takeNumber_c51 x1 x2 x3 (M 1 7) (0 : Int) M))
    else
    ((lR_fail (1 : Int) M).bind (fun M19 =>
    (some ((0 : Int), M19)))))
    else
    (some ((0 : Int), M)))
set_option maxRecDepth 100000 in
theorem ok_lR_takeNumber {sc : zSc} {x1 : Int} {x2 : Int} {x3 : Int} {M : Nat → Nat → Int} {P : Int → (Nat → Nat → Int) → Prop} (h : zS (lR_takeNumber x1 x2 x3 M) (fun r => P r.1 r.2)) : zCi sc 54 [.inr (.inr 1), .inl x1, .inl x2, .inl x3] M P := by
  have ea : zarg (zml 54) [.inr (.inr 1), .inl x1, .inl x2, .inl x3] = [some (.inr (.inr 1)), some (.inl x1), some (.inl x2), some (.inl x3), none, none] := by rw [zm_54]; rfl
  unfold zCi zCw
  rw [ea, zr_54]
  have hq : 2 ≤ 2 := Nat.le_refl _
  unfold lR_takeNumber at h
  have h := zS_mono h (fun x hx => (⟨x.1, rfl, hx⟩ : ∃ y, (some (.inl x.1) : Option zV) = some (.inl y) ∧ P y x.2))
  skip
  refine E_aload_n (pc := 0) (zDk zD_54_ok 0 rfl) rfl ?_
  refine E_getI (pc := 1) (ci := 4) (f := 2) (zDk zD_54_ok 1 rfl) zc_54 (by decide +kernel) (by decide) zis_4_1 ?_
  refine E_if (pc := 4) (t := 9) (zDk zD_54_ok 2 rfl) rfl (fun hz => ?_) (fun hz => ?_)
  · have h := zS_t h (T_eq hz)
    refine E_aload_n (pc := 9) (zDk zD_54_ok 5 rfl) rfl ?_
    refine E_getI (pc := 10) (ci := 4) (f := 4) (zDk zD_54_ok 6 rfl) zc_54 (by decide +kernel) (by decide) zis_4_1 ?_
    refine E_iconst (pc := 13) (zDk zD_54_ok 7 rfl) (by decide +kernel) ?_
    refine E_icmp (pc := 14) (t := 24) (zDk zD_54_ok 8 rfl) rfl (fun hz => ?_) (fun hz => ?_)
    · have h := zS_t h (T_eq hz)
      refine E_aload_n (pc := 24) (zDk zD_54_ok 14 rfl) rfl ?_
      refine E_getI (pc := 25) (ci := 4) (f := 7) (zDk zD_54_ok 15 rfl) zc_54 (by decide +kernel) (by decide) zis_4_1 ?_
      refine W_istore (pc := 28) (L' := [some (.inr (.inr 1)), some (.inl x1), some (.inl x2), some (.inl x3), some (.inl (M 1 7)), none]) (zDk zD_54_ok 16 rfl) zm_54 (by decide) rfl ?_
      refine E_iload (pc := 30) (zDk zD_54_ok 17 rfl) rfl ?_
      refine E_bipush (pc := 32) (zDk zD_54_ok 18 rfl) (by decide +kernel) ?_
      refine E_icmp (pc := 34) (t := 50) (zDk zD_54_ok 19 rfl) rfl (fun hz => ?_) (fun hz => ?_)
      · have h := zS_f h (Int.not_lt.mpr (T_ge hz))
        refine E_iconst (pc := 50) (zDk zD_54_ok 28 rfl) (by decide +kernel) ?_
        exact ok_lR_takeNumber_c51 hq x1 x2 x3 (M 1 7) (0 : Int) M none h
      · have h := zS_t h (F_ge hz)
        refine E_iload_n (pc := 37) (zDk zD_54_ok 20 rfl) rfl ?_
        refine E_iload (pc := 38) (zDk zD_54_ok 21 rfl) rfl ?_
        refine E_ishr (pc := 40) (zDk zD_54_ok 22 rfl) ?_
        refine E_iconst (pc := 41) (zDk zD_54_ok 23 rfl) (by decide +kernel) ?_
        refine E_iand (pc := 42) (zDk zD_54_ok 24 rfl) ?_
        refine E_if (pc := 43) (t := 50) (zDk zD_54_ok 25 rfl) rfl (fun hz => ?_) (fun hz => ?_)
        · have h := zS_t h (T_eq hz)
          refine E_iconst (pc := 50) (zDk zD_54_ok 28 rfl) (by decide +kernel) ?_
          exact ok_lR_takeNumber_c51 hq x1 x2 x3 (M 1 7) (0 : Int) M none h
        · have h := zS_f h (F_eq hz)
          refine E_iconst (pc := 46) (zDk zD_54_ok 26 rfl) (by decide +kernel) ?_
          refine E_goto (pc := 47) (t := 51) (zDk zD_54_ok 27 rfl) rfl ?_
          exact ok_lR_takeNumber_c51 hq x1 x2 x3 (M 1 7) (1 : Int) M none h
    · have h := zS_f h (F_eq hz)
      refine E_aload_n (pc := 17) (zDk zD_54_ok 9 rfl) rfl ?_
      refine E_iconst (pc := 18) (zDk zD_54_ok 10 rfl) (by decide +kernel) ?_
      obtain ⟨M19, e19, h⟩ := zS_bind h
      refine E_virV (pc := 19) (c := 51) (r := 1) (as := [.inl (1 : Int)]) (rest := []) (zDk zD_54_ok 11 rfl) zc_54 (by decide +kernel) zk_51 ⟨(Nat.le_of_ble_eq_true rfl), rfl, rfl⟩ (Nat.le_of_ble_eq_true rfl) (zr_51 _) (Nat.lt_of_lt_of_le (by decide) hq) (by rw [zm_51]; exact (Nat.le_of_ble_eq_true rfl)) ⟨zc_51, by decide⟩ zis_4_1 (ok_lR_fail ⟨M19, e19, ?_⟩)
      refine E_iconst (pc := 22) (zDk zD_54_ok 12 rfl) (by decide +kernel) ?_
      have h := zS_some h
      exact E_ireturn (pc := 23) (zDk zD_54_ok 13 rfl) zt_54 h
  · have h := zS_f h (F_eq hz)
    refine E_iconst (pc := 7) (zDk zD_54_ok 3 rfl) (by decide +kernel) ?_
    have h := zS_some h
    exact E_ireturn (pc := 8) (zDk zD_54_ok 4 rfl) zt_54 h
def zD_86 : List (Nat × Instr × Nat) := [(0, .aload_n (0), 1), (1, .getfield (19), 3), (4, .iload_n (1), 1), (5, .invokevirtual (112), 3), (8, .ifCond .eq (14), 3), (11, .aload_n (0), 1), (12, .getfield (19), 3), (15, .iload_n (2), 1), (16, .invokevirtual (136), 3), (19, .ifCond .ne (6), 3), (22, .bipush (-2), 2), (24, .ireturn, 1), (25, .aload_n (0), 1), (26, .getfield (38), 3), (29, .getfield (139), 3), (32, .iload_n (2), 1), (33, .iconst (5), 1), (34, .imul, 1), (35, .iload_n (1), 1), (36, .iadd, 1), (37, .iaload, 1), (38, .ireturn, 1)]
set_option maxRecDepth 100000 in
theorem zD_86_ok : zDo 86 zD_86 = true := by decide +kernel
theorem zc_86 : zcls 86 = 7 := by decide +kernel
theorem zm_86 : zml 86 = 3 := by decide +kernel
theorem zt_86 : zrt 86 = (some (.int)) := by decide +kernel
theorem zk_86 : zkd 86 = 1 ∧ znp 86 + 1 = 3 := by decide +kernel
theorem zr_86 (as : List zV) : zrk 86 as = 2 := by unfold zrk; rw [if_neg (by decide)]; decide +kernel
def lX_at (x1 : Int) (x2 : Int) (M : Nat → Nat → Int) : Option Int :=
    ((lT_hasName 3 x1 M).bind (fun v5 =>
    (if v5 = 0 then
    (some (-2 : Int))
    else
    ((lT_hasStep 3 x2 M).bind (fun v16 =>
    (if v16 = 0 then
    (some (-2 : Int))
    else
    ((rdI 34 (w32 ((w32 (x2 * (5 : Int))) + x1)) M).bind (fun v37 =>
    (some v37)))))))))
set_option maxRecDepth 100000 in
theorem ok_lX_at {sc : zSc} {x1 : Int} {x2 : Int} {M : Nat → Nat → Int} {P : Int → (Nat → Nat → Int) → Prop} (h : zS (lX_at x1 x2 M) (fun x => P x M)) : zCi sc 86 [.inr (.inr 0), .inl x1, .inl x2] M P := by
  have ea : zarg (zml 86) [.inr (.inr 0), .inl x1, .inl x2] = [some (.inr (.inr 0)), some (.inl x1), some (.inl x2)] := by rw [zm_86]; rfl
  unfold zCi zCw
  rw [ea, zr_86]
  have hq : 2 ≤ 2 := Nat.le_refl _
  unfold lX_at at h
  have h := zS_mono h (fun x hx => (⟨x, rfl, hx⟩ : ∃ y, (some (.inl x) : Option zV) = some (.inl y) ∧ P y M))
  skip
  refine E_aload_n (pc := 0) (zDk zD_86_ok 0 rfl) rfl ?_
  refine E_getR (pc := 1) (ci := 7) (f := 1) (r := 3) (zDk zD_86_ok 1 rfl) zc_86 (by decide +kernel) (by decide) zis_7_0 (by decide +kernel) (by decide) ?_
  refine E_iload_n (pc := 4) (zDk zD_86_ok 2 rfl) rfl ?_
  obtain ⟨v5, e5, h⟩ := zS_bind h
  refine E_virI (pc := 5) (c := 73) (r := 3) (as := [.inl x1]) (rest := []) (zDk zD_86_ok 3 rfl) zc_86 (by decide +kernel) zk_73 ⟨(Nat.le_of_ble_eq_true rfl), rfl, rfl⟩ (Nat.le_of_ble_eq_true rfl) (zr_73 _) (Nat.lt_of_lt_of_le (by decide) hq) (by rw [zm_73]; exact (Nat.le_of_ble_eq_true rfl)) ⟨zc_73, by decide⟩ zis_6_3 (ok_lT_hasName ⟨v5, e5, ?_⟩)
  refine E_if (pc := 8) (t := 22) (zDk zD_86_ok 4 rfl) rfl (fun hz => ?_) (fun hz => ?_)
  · have h := zS_t h (T_eq hz)
    refine E_bipush (pc := 22) (zDk zD_86_ok 10 rfl) (by decide +kernel) ?_
    have h := zS_some h
    exact E_ireturn (pc := 24) (zDk zD_86_ok 11 rfl) zt_86 h
  · have h := zS_f h (F_eq hz)
    refine E_aload_n (pc := 11) (zDk zD_86_ok 5 rfl) rfl ?_
    refine E_getR (pc := 12) (ci := 7) (f := 1) (r := 3) (zDk zD_86_ok 6 rfl) zc_86 (by decide +kernel) (by decide) zis_7_0 (by decide +kernel) (by decide) ?_
    refine E_iload_n (pc := 15) (zDk zD_86_ok 7 rfl) rfl ?_
    obtain ⟨v16, e16, h⟩ := zS_bind h
    refine E_virI (pc := 16) (c := 71) (r := 3) (as := [.inl x2]) (rest := []) (zDk zD_86_ok 8 rfl) zc_86 (by decide +kernel) zk_71 ⟨(Nat.le_of_ble_eq_true rfl), rfl, rfl⟩ (Nat.le_of_ble_eq_true rfl) (zr_71 _) (Nat.lt_of_lt_of_le (by decide) hq) (by rw [zm_71]; exact (Nat.le_of_ble_eq_true rfl)) ⟨zc_71, by decide⟩ zis_6_3 (ok_lT_hasStep ⟨v16, e16, ?_⟩)
    refine E_if (pc := 19) (t := 25) (zDk zD_86_ok 9 rfl) rfl (fun hz => ?_) (fun hz => ?_)
    · have h := zS_f h (T_ne hz)
      refine E_aload_n (pc := 25) (zDk zD_86_ok 12 rfl) rfl ?_
      refine E_getR (pc := 26) (ci := 7) (f := 4) (r := 29) (zDk zD_86_ok 13 rfl) zc_86 (by decide +kernel) (by decide) zis_7_0 (by decide +kernel) (by decide) ?_
      refine E_getR (pc := 29) (ci := 1) (f := 5) (r := 34) (zDk zD_86_ok 14 rfl) zc_86 (by decide +kernel) (by decide) zis_1_29 (by decide +kernel) (by decide) ?_
      refine E_iload_n (pc := 32) (zDk zD_86_ok 15 rfl) rfl ?_
      refine E_iconst (pc := 33) (zDk zD_86_ok 16 rfl) (by decide +kernel) ?_
      refine W_imul (pc := 34) (zDk zD_86_ok 17 rfl) ?_
      refine E_iload_n (pc := 35) (zDk zD_86_ok 18 rfl) rfl ?_
      refine W_iadd (pc := 36) (zDk zD_86_ok 19 rfl) ?_
      obtain ⟨v37, e37, h⟩ := zS_bind h
      refine E_iaload (pc := 37) (zDk zD_86_ok 20 rfl) e37 ?_
      have h := zS_some h
      exact E_ireturn (pc := 38) (zDk zD_86_ok 21 rfl) zt_86 h
    · have h := zS_t h (F_ne hz)
      refine E_bipush (pc := 22) (zDk zD_86_ok 10 rfl) (by decide +kernel) ?_
      have h := zS_some h
      exact E_ireturn (pc := 24) (zDk zD_86_ok 11 rfl) zt_86 h
def zD_87 : List (Nat × Instr × Nat) := [(0, .aload_n (0), 1), (1, .getfield (19), 3), (4, .iload_n (1), 1), (5, .invokevirtual (112), 3), (8, .ifCond .eq (14), 3), (11, .aload_n (0), 1), (12, .getfield (19), 3), (15, .iload_n (2), 1), (16, .invokevirtual (136), 3), (19, .ifCond .ne (6), 3), (22, .bipush (-2), 2), (24, .ireturn, 1), (25, .aload_n (0), 1), (26, .getfield (38), 3), (29, .getfield (142), 3), (32, .iload_n (2), 1), (33, .iconst (5), 1), (34, .imul, 1), (35, .iload_n (1), 1), (36, .iadd, 1), (37, .iaload, 1), (38, .ireturn, 1)]
set_option maxRecDepth 100000 in
theorem zD_87_ok : zDo 87 zD_87 = true := by decide +kernel
theorem zc_87 : zcls 87 = 7 := by decide +kernel
theorem zm_87 : zml 87 = 3 := by decide +kernel
theorem zt_87 : zrt 87 = (some (.int)) := by decide +kernel
theorem zk_87 : zkd 87 = 1 ∧ znp 87 + 1 = 3 := by decide +kernel
theorem zr_87 (as : List zV) : zrk 87 as = 2 := by unfold zrk; rw [if_neg (by decide)]; decide +kernel
def lX_ink (x1 : Int) (x2 : Int) (M : Nat → Nat → Int) : Option Int :=
    ((lT_hasName 3 x1 M).bind (fun v5 =>
    (if v5 = 0 then
    (some (-2 : Int))
    else
    ((lT_hasStep 3 x2 M).bind (fun v16 =>
    (if v16 = 0 then
    (some (-2 : Int))
    else
    ((rdI 35 (w32 ((w32 (x2 * (5 : Int))) + x1)) M).bind (fun v37 =>
    (some v37)))))))))
set_option maxRecDepth 100000 in
theorem ok_lX_ink {sc : zSc} {x1 : Int} {x2 : Int} {M : Nat → Nat → Int} {P : Int → (Nat → Nat → Int) → Prop} (h : zS (lX_ink x1 x2 M) (fun x => P x M)) : zCi sc 87 [.inr (.inr 0), .inl x1, .inl x2] M P := by
  have ea : zarg (zml 87) [.inr (.inr 0), .inl x1, .inl x2] = [some (.inr (.inr 0)), some (.inl x1), some (.inl x2)] := by rw [zm_87]; rfl
  unfold zCi zCw
  rw [ea, zr_87]
  have hq : 2 ≤ 2 := Nat.le_refl _
  unfold lX_ink at h
  have h := zS_mono h (fun x hx => (⟨x, rfl, hx⟩ : ∃ y, (some (.inl x) : Option zV) = some (.inl y) ∧ P y M))
  skip
  refine E_aload_n (pc := 0) (zDk zD_87_ok 0 rfl) rfl ?_
  refine E_getR (pc := 1) (ci := 7) (f := 1) (r := 3) (zDk zD_87_ok 1 rfl) zc_87 (by decide +kernel) (by decide) zis_7_0 (by decide +kernel) (by decide) ?_
  refine E_iload_n (pc := 4) (zDk zD_87_ok 2 rfl) rfl ?_
  obtain ⟨v5, e5, h⟩ := zS_bind h
  refine E_virI (pc := 5) (c := 73) (r := 3) (as := [.inl x1]) (rest := []) (zDk zD_87_ok 3 rfl) zc_87 (by decide +kernel) zk_73 ⟨(Nat.le_of_ble_eq_true rfl), rfl, rfl⟩ (Nat.le_of_ble_eq_true rfl) (zr_73 _) (Nat.lt_of_lt_of_le (by decide) hq) (by rw [zm_73]; exact (Nat.le_of_ble_eq_true rfl)) ⟨zc_73, by decide⟩ zis_6_3 (ok_lT_hasName ⟨v5, e5, ?_⟩)
  refine E_if (pc := 8) (t := 22) (zDk zD_87_ok 4 rfl) rfl (fun hz => ?_) (fun hz => ?_)
  · have h := zS_t h (T_eq hz)
    refine E_bipush (pc := 22) (zDk zD_87_ok 10 rfl) (by decide +kernel) ?_
    have h := zS_some h
    exact E_ireturn (pc := 24) (zDk zD_87_ok 11 rfl) zt_87 h
  · have h := zS_f h (F_eq hz)
    refine E_aload_n (pc := 11) (zDk zD_87_ok 5 rfl) rfl ?_
    refine E_getR (pc := 12) (ci := 7) (f := 1) (r := 3) (zDk zD_87_ok 6 rfl) zc_87 (by decide +kernel) (by decide) zis_7_0 (by decide +kernel) (by decide) ?_
    refine E_iload_n (pc := 15) (zDk zD_87_ok 7 rfl) rfl ?_
    obtain ⟨v16, e16, h⟩ := zS_bind h
    refine E_virI (pc := 16) (c := 71) (r := 3) (as := [.inl x2]) (rest := []) (zDk zD_87_ok 8 rfl) zc_87 (by decide +kernel) zk_71 ⟨(Nat.le_of_ble_eq_true rfl), rfl, rfl⟩ (Nat.le_of_ble_eq_true rfl) (zr_71 _) (Nat.lt_of_lt_of_le (by decide) hq) (by rw [zm_71]; exact (Nat.le_of_ble_eq_true rfl)) ⟨zc_71, by decide⟩ zis_6_3 (ok_lT_hasStep ⟨v16, e16, ?_⟩)
    refine E_if (pc := 19) (t := 25) (zDk zD_87_ok 9 rfl) rfl (fun hz => ?_) (fun hz => ?_)
    · have h := zS_f h (T_ne hz)
      refine E_aload_n (pc := 25) (zDk zD_87_ok 12 rfl) rfl ?_
      refine E_getR (pc := 26) (ci := 7) (f := 4) (r := 29) (zDk zD_87_ok 13 rfl) zc_87 (by decide +kernel) (by decide) zis_7_0 (by decide +kernel) (by decide) ?_
      refine E_getR (pc := 29) (ci := 1) (f := 6) (r := 35) (zDk zD_87_ok 14 rfl) zc_87 (by decide +kernel) (by decide) zis_1_29 (by decide +kernel) (by decide) ?_
      refine E_iload_n (pc := 32) (zDk zD_87_ok 15 rfl) rfl ?_
      refine E_iconst (pc := 33) (zDk zD_87_ok 16 rfl) (by decide +kernel) ?_
      refine W_imul (pc := 34) (zDk zD_87_ok 17 rfl) ?_
      refine E_iload_n (pc := 35) (zDk zD_87_ok 18 rfl) rfl ?_
      refine W_iadd (pc := 36) (zDk zD_87_ok 19 rfl) ?_
      obtain ⟨v37, e37, h⟩ := zS_bind h
      refine E_iaload (pc := 37) (zDk zD_87_ok 20 rfl) e37 ?_
      have h := zS_some h
      exact E_ireturn (pc := 38) (zDk zD_87_ok 21 rfl) zt_87 h
    · have h := zS_t h (F_ne hz)
      refine E_bipush (pc := 22) (zDk zD_87_ok 10 rfl) (by decide +kernel) ?_
      have h := zS_some h
      exact E_ireturn (pc := 24) (zDk zD_87_ok 11 rfl) zt_87 h
def zD_88 : List (Nat × Instr × Nat) := [(0, .aload_n (0), 1), (1, .getfield (19), 3), (4, .iload_n (1), 1), (5, .invokevirtual (136), 3), (8, .ifCond .eq (14), 3), (11, .aload_n (0), 1), (12, .getfield (38), 3), (15, .iload_n (1), 1), (16, .invokevirtual (145), 3), (19, .goto (5), 3), (22, .bipush (-2), 2), (24, .ireturn, 1)]
set_option maxRecDepth 100000 in
theorem zD_88_ok : zDo 88 zD_88 = true := by decide +kernel
theorem zc_88 : zcls 88 = 7 := by decide +kernel
theorem zm_88 : zml 88 = 2 := by decide +kernel
theorem zt_88 : zrt 88 = (some (.int)) := by decide +kernel
theorem zk_88 : zkd 88 = 1 ∧ znp 88 + 1 = 2 := by decide +kernel
theorem zr_88 (as : List zV) : zrk 88 as = 2 := by unfold zrk; rw [if_neg (by decide)]; decide +kernel
def lX_awake (x1 : Int) (M : Nat → Nat → Int) : Option Int :=
    ((lT_hasStep 3 x1 M).bind (fun v5 =>
    (if v5 = 0 then
    (some (-2 : Int))
    else
    ((lD_namesAwake 29 x1 M).bind (fun v16 =>
    (some v16))))))
set_option maxRecDepth 100000 in
theorem ok_lX_awake {sc : zSc} {x1 : Int} {M : Nat → Nat → Int} {P : Int → (Nat → Nat → Int) → Prop} (h : zS (lX_awake x1 M) (fun x => P x M)) : zCi sc 88 [.inr (.inr 0), .inl x1] M P := by
  have ea : zarg (zml 88) [.inr (.inr 0), .inl x1] = [some (.inr (.inr 0)), some (.inl x1)] := by rw [zm_88]; rfl
  unfold zCi zCw
  rw [ea, zr_88]
  have hq : 2 ≤ 2 := Nat.le_refl _
  unfold lX_awake at h
  have h := zS_mono h (fun x hx => (⟨x, rfl, hx⟩ : ∃ y, (some (.inl x) : Option zV) = some (.inl y) ∧ P y M))
  skip
  refine E_aload_n (pc := 0) (zDk zD_88_ok 0 rfl) rfl ?_
  refine E_getR (pc := 1) (ci := 7) (f := 1) (r := 3) (zDk zD_88_ok 1 rfl) zc_88 (by decide +kernel) (by decide) zis_7_0 (by decide +kernel) (by decide) ?_
  refine E_iload_n (pc := 4) (zDk zD_88_ok 2 rfl) rfl ?_
  obtain ⟨v5, e5, h⟩ := zS_bind h
  refine E_virI (pc := 5) (c := 71) (r := 3) (as := [.inl x1]) (rest := []) (zDk zD_88_ok 3 rfl) zc_88 (by decide +kernel) zk_71 ⟨(Nat.le_of_ble_eq_true rfl), rfl, rfl⟩ (Nat.le_of_ble_eq_true rfl) (zr_71 _) (Nat.lt_of_lt_of_le (by decide) hq) (by rw [zm_71]; exact (Nat.le_of_ble_eq_true rfl)) ⟨zc_71, by decide⟩ zis_6_3 (ok_lT_hasStep ⟨v5, e5, ?_⟩)
  refine E_if (pc := 8) (t := 22) (zDk zD_88_ok 4 rfl) rfl (fun hz => ?_) (fun hz => ?_)
  · have h := zS_t h (T_eq hz)
    refine E_bipush (pc := 22) (zDk zD_88_ok 10 rfl) (by decide +kernel) ?_
    have h := zS_some h
    exact E_ireturn (pc := 24) (zDk zD_88_ok 11 rfl) zt_88 h
  · have h := zS_f h (F_eq hz)
    refine E_aload_n (pc := 11) (zDk zD_88_ok 5 rfl) rfl ?_
    refine E_getR (pc := 12) (ci := 7) (f := 4) (r := 29) (zDk zD_88_ok 6 rfl) zc_88 (by decide +kernel) (by decide) zis_7_0 (by decide +kernel) (by decide) ?_
    refine E_iload_n (pc := 15) (zDk zD_88_ok 7 rfl) rfl ?_
    obtain ⟨v16, e16, h⟩ := zS_bind h
    refine E_virI (pc := 16) (c := 19) (r := 29) (as := [.inl x1]) (rest := []) (zDk zD_88_ok 8 rfl) zc_88 (by decide +kernel) zk_19 ⟨(Nat.le_of_ble_eq_true rfl), rfl, rfl⟩ (Nat.le_of_ble_eq_true rfl) (zr_19 _) (Nat.lt_of_lt_of_le (by decide) hq) (by rw [zm_19]; exact (Nat.le_of_ble_eq_true rfl)) ⟨zc_19, by decide⟩ zis_1_29 (ok_lD_namesAwake ⟨v16, e16, ?_⟩)
    refine E_goto (pc := 19) (t := 24) (zDk zD_88_ok 9 rfl) rfl ?_
    have h := zS_some h
    exact E_ireturn (pc := 24) (zDk zD_88_ok 11 rfl) zt_88 h
def zD_89 : List (Nat × Instr × Nat) := [(0, .aload_n (0), 1), (1, .getfield (19), 3), (4, .iload_n (1), 1), (5, .invokevirtual (106), 3), (8, .ifCond .eq (14), 3), (11, .aload_n (0), 1), (12, .getfield (19), 3), (15, .iload_n (2), 1), (16, .invokevirtual (136), 3), (19, .ifCond .ne (6), 3), (22, .bipush (-2), 2), (24, .ireturn, 1), (25, .aload_n (0), 1), (26, .getfield (38), 3), (29, .iload_n (1), 1), (30, .iload_n (2), 1), (31, .invokevirtual (149), 3), (34, .ireturn, 1)]
set_option maxRecDepth 100000 in
theorem zD_89_ok : zDo 89 zD_89 = true := by decide +kernel
theorem zc_89 : zcls 89 = 7 := by decide +kernel
theorem zm_89 : zml 89 = 3 := by decide +kernel
theorem zt_89 : zrt 89 = (some (.int)) := by decide +kernel
theorem zk_89 : zkd 89 = 1 ∧ znp 89 + 1 = 3 := by decide +kernel
theorem zr_89 (as : List zV) : zrk 89 as = 2 := by unfold zrk; rw [if_neg (by decide)]; decide +kernel
def lX_here (x1 : Int) (x2 : Int) (M : Nat → Nat → Int) : Option Int :=
    ((lT_hasCorner 3 x1 M).bind (fun v5 =>
    (if v5 = 0 then
    (some (-2 : Int))
    else
    ((lT_hasStep 3 x2 M).bind (fun v16 =>
    (if v16 = 0 then
    (some (-2 : Int))
    else
    ((lD_namesAt 29 x1 x2 M).bind (fun v31 =>
    (some v31)))))))))
set_option maxRecDepth 100000 in
theorem ok_lX_here {sc : zSc} {x1 : Int} {x2 : Int} {M : Nat → Nat → Int} {P : Int → (Nat → Nat → Int) → Prop} (h : zS (lX_here x1 x2 M) (fun x => P x M)) : zCi sc 89 [.inr (.inr 0), .inl x1, .inl x2] M P := by
  have ea : zarg (zml 89) [.inr (.inr 0), .inl x1, .inl x2] = [some (.inr (.inr 0)), some (.inl x1), some (.inl x2)] := by rw [zm_89]; rfl
  unfold zCi zCw
  rw [ea, zr_89]
  have hq : 2 ≤ 2 := Nat.le_refl _
  unfold lX_here at h
  have h := zS_mono h (fun x hx => (⟨x, rfl, hx⟩ : ∃ y, (some (.inl x) : Option zV) = some (.inl y) ∧ P y M))
  skip
  refine E_aload_n (pc := 0) (zDk zD_89_ok 0 rfl) rfl ?_
  refine E_getR (pc := 1) (ci := 7) (f := 1) (r := 3) (zDk zD_89_ok 1 rfl) zc_89 (by decide +kernel) (by decide) zis_7_0 (by decide +kernel) (by decide) ?_
  refine E_iload_n (pc := 4) (zDk zD_89_ok 2 rfl) rfl ?_
  obtain ⟨v5, e5, h⟩ := zS_bind h
  refine E_virI (pc := 5) (c := 70) (r := 3) (as := [.inl x1]) (rest := []) (zDk zD_89_ok 3 rfl) zc_89 (by decide +kernel) zk_70 ⟨(Nat.le_of_ble_eq_true rfl), rfl, rfl⟩ (Nat.le_of_ble_eq_true rfl) (zr_70 _) (Nat.lt_of_lt_of_le (by decide) hq) (by rw [zm_70]; exact (Nat.le_of_ble_eq_true rfl)) ⟨zc_70, by decide⟩ zis_6_3 (ok_lT_hasCorner ⟨v5, e5, ?_⟩)
  refine E_if (pc := 8) (t := 22) (zDk zD_89_ok 4 rfl) rfl (fun hz => ?_) (fun hz => ?_)
  · have h := zS_t h (T_eq hz)
    refine E_bipush (pc := 22) (zDk zD_89_ok 10 rfl) (by decide +kernel) ?_
    have h := zS_some h
    exact E_ireturn (pc := 24) (zDk zD_89_ok 11 rfl) zt_89 h
  · have h := zS_f h (F_eq hz)
    refine E_aload_n (pc := 11) (zDk zD_89_ok 5 rfl) rfl ?_
    refine E_getR (pc := 12) (ci := 7) (f := 1) (r := 3) (zDk zD_89_ok 6 rfl) zc_89 (by decide +kernel) (by decide) zis_7_0 (by decide +kernel) (by decide) ?_
    refine E_iload_n (pc := 15) (zDk zD_89_ok 7 rfl) rfl ?_
    obtain ⟨v16, e16, h⟩ := zS_bind h
    refine E_virI (pc := 16) (c := 71) (r := 3) (as := [.inl x2]) (rest := []) (zDk zD_89_ok 8 rfl) zc_89 (by decide +kernel) zk_71 ⟨(Nat.le_of_ble_eq_true rfl), rfl, rfl⟩ (Nat.le_of_ble_eq_true rfl) (zr_71 _) (Nat.lt_of_lt_of_le (by decide) hq) (by rw [zm_71]; exact (Nat.le_of_ble_eq_true rfl)) ⟨zc_71, by decide⟩ zis_6_3 (ok_lT_hasStep ⟨v16, e16, ?_⟩)
    refine E_if (pc := 19) (t := 25) (zDk zD_89_ok 9 rfl) rfl (fun hz => ?_) (fun hz => ?_)
    · have h := zS_f h (T_ne hz)
      refine E_aload_n (pc := 25) (zDk zD_89_ok 12 rfl) rfl ?_
      refine E_getR (pc := 26) (ci := 7) (f := 4) (r := 29) (zDk zD_89_ok 13 rfl) zc_89 (by decide +kernel) (by decide) zis_7_0 (by decide +kernel) (by decide) ?_
      refine E_iload_n (pc := 29) (zDk zD_89_ok 14 rfl) rfl ?_
      refine E_iload_n (pc := 30) (zDk zD_89_ok 15 rfl) rfl ?_
      obtain ⟨v31, e31, h⟩ := zS_bind h
      refine E_virI (pc := 31) (c := 20) (r := 29) (as := [.inl x1, .inl x2]) (rest := []) (zDk zD_89_ok 16 rfl) zc_89 (by decide +kernel) zk_20 ⟨(Nat.le_of_ble_eq_true rfl), rfl, rfl⟩ (Nat.le_of_ble_eq_true rfl) (zr_20 _) (Nat.lt_of_lt_of_le (by decide) hq) (by rw [zm_20]; exact (Nat.le_of_ble_eq_true rfl)) ⟨zc_20, by decide⟩ zis_1_29 (ok_lD_namesAt ⟨v31, e31, ?_⟩)
      have h := zS_some h
      exact E_ireturn (pc := 34) (zDk zD_89_ok 17 rfl) zt_89 h
    · have h := zS_t h (F_ne hz)
      refine E_bipush (pc := 22) (zDk zD_89_ok 10 rfl) (by decide +kernel) ?_
      have h := zS_some h
      exact E_ireturn (pc := 24) (zDk zD_89_ok 11 rfl) zt_89 h
def zD_90 : List (Nat × Instr × Nat) := [(0, .aload_n (0), 1), (1, .getfield (19), 3), (4, .iload_n (1), 1), (5, .invokevirtual (112), 3), (8, .ifCond .eq (16), 3), (11, .aload_n (0), 1), (12, .getfield (38), 3), (15, .iconst (1), 1), (16, .iload_n (1), 1), (17, .ishl, 1), (18, .invokevirtual (153), 3), (21, .goto (5), 3), (24, .bipush (-2), 2), (26, .ireturn, 1)]
set_option maxRecDepth 100000 in
theorem zD_90_ok : zDo 90 zD_90 = true := by decide +kernel
theorem zc_90 : zcls 90 = 7 := by decide +kernel
theorem zm_90 : zml 90 = 2 := by decide +kernel
theorem zt_90 : zrt 90 = (some (.int)) := by decide +kernel
theorem zk_90 : zkd 90 = 1 ∧ znp 90 + 1 = 2 := by decide +kernel
theorem zr_90 (as : List zV) : zrk 90 as = 2 := by unfold zrk; rw [if_neg (by decide)]; decide +kernel
def lX_sleeps (x1 : Int) (M : Nat → Nat → Int) : Option Int :=
    ((lT_hasName 3 x1 M).bind (fun v5 =>
    (if v5 = 0 then
    (some (-2 : Int))
    else
    ((lD_firstDry 29 (zshl (1 : Int) x1) M).bind (fun v18 =>
    (some v18))))))
set_option maxRecDepth 100000 in
theorem ok_lX_sleeps {sc : zSc} {x1 : Int} {M : Nat → Nat → Int} {P : Int → (Nat → Nat → Int) → Prop} (h : zS (lX_sleeps x1 M) (fun x => P x M)) : zCi sc 90 [.inr (.inr 0), .inl x1] M P := by
  have ea : zarg (zml 90) [.inr (.inr 0), .inl x1] = [some (.inr (.inr 0)), some (.inl x1)] := by rw [zm_90]; rfl
  unfold zCi zCw
  rw [ea, zr_90]
  have hq : 2 ≤ 2 := Nat.le_refl _
  unfold lX_sleeps at h
  have h := zS_mono h (fun x hx => (⟨x, rfl, hx⟩ : ∃ y, (some (.inl x) : Option zV) = some (.inl y) ∧ P y M))
  skip
  refine E_aload_n (pc := 0) (zDk zD_90_ok 0 rfl) rfl ?_
  refine E_getR (pc := 1) (ci := 7) (f := 1) (r := 3) (zDk zD_90_ok 1 rfl) zc_90 (by decide +kernel) (by decide) zis_7_0 (by decide +kernel) (by decide) ?_
  refine E_iload_n (pc := 4) (zDk zD_90_ok 2 rfl) rfl ?_
  obtain ⟨v5, e5, h⟩ := zS_bind h
  refine E_virI (pc := 5) (c := 73) (r := 3) (as := [.inl x1]) (rest := []) (zDk zD_90_ok 3 rfl) zc_90 (by decide +kernel) zk_73 ⟨(Nat.le_of_ble_eq_true rfl), rfl, rfl⟩ (Nat.le_of_ble_eq_true rfl) (zr_73 _) (Nat.lt_of_lt_of_le (by decide) hq) (by rw [zm_73]; exact (Nat.le_of_ble_eq_true rfl)) ⟨zc_73, by decide⟩ zis_6_3 (ok_lT_hasName ⟨v5, e5, ?_⟩)
  refine E_if (pc := 8) (t := 24) (zDk zD_90_ok 4 rfl) rfl (fun hz => ?_) (fun hz => ?_)
  · have h := zS_t h (T_eq hz)
    refine E_bipush (pc := 24) (zDk zD_90_ok 12 rfl) (by decide +kernel) ?_
    have h := zS_some h
    exact E_ireturn (pc := 26) (zDk zD_90_ok 13 rfl) zt_90 h
  · have h := zS_f h (F_eq hz)
    refine E_aload_n (pc := 11) (zDk zD_90_ok 5 rfl) rfl ?_
    refine E_getR (pc := 12) (ci := 7) (f := 4) (r := 29) (zDk zD_90_ok 6 rfl) zc_90 (by decide +kernel) (by decide) zis_7_0 (by decide +kernel) (by decide) ?_
    refine E_iconst (pc := 15) (zDk zD_90_ok 7 rfl) (by decide +kernel) ?_
    refine E_iload_n (pc := 16) (zDk zD_90_ok 8 rfl) rfl ?_
    refine E_ishl (pc := 17) (zDk zD_90_ok 9 rfl) ?_
    obtain ⟨v18, e18, h⟩ := zS_bind h
    refine E_virI (pc := 18) (c := 21) (r := 29) (as := [.inl (zshl (1 : Int) x1)]) (rest := []) (zDk zD_90_ok 10 rfl) zc_90 (by decide +kernel) zk_21 ⟨(Nat.le_of_ble_eq_true rfl), rfl, rfl⟩ (Nat.le_of_ble_eq_true rfl) (zr_21 _) (Nat.lt_of_lt_of_le (by decide) hq) (by rw [zm_21]; exact (Nat.le_of_ble_eq_true rfl)) ⟨zc_21, by decide⟩ zis_1_29 (ok_lD_firstDry ⟨v18, e18, ?_⟩)
    refine E_goto (pc := 21) (t := 26) (zDk zD_90_ok 11 rfl) rfl ?_
    have h := zS_some h
    exact E_ireturn (pc := 26) (zDk zD_90_ok 13 rfl) zt_90 h
def zD_92 : List (Nat × Instr × Nat) := [(0, .aload_n (0), 1), (1, .getfield (19), 3), (4, .iload_n (1), 1), (5, .invokevirtual (112), 3), (8, .ifCond .eq (14), 3), (11, .aload_n (0), 1), (12, .getfield (38), 3), (15, .iload_n (1), 1), (16, .invokevirtual (159), 3), (19, .goto (5), 3), (22, .bipush (-2), 2), (24, .ireturn, 1)]
set_option maxRecDepth 100000 in
theorem zD_92_ok : zDo 92 zD_92 = true := by decide +kernel
theorem zc_92 : zcls 92 = 7 := by decide +kernel
theorem zm_92 : zml 92 = 2 := by decide +kernel
theorem zt_92 : zrt 92 = (some (.int)) := by decide +kernel
theorem zk_92 : zkd 92 = 1 ∧ znp 92 + 1 = 2 := by decide +kernel
theorem zr_92 (as : List zV) : zrk 92 as = 2 := by unfold zrk; rw [if_neg (by decide)]; decide +kernel
def lX_stuck (x1 : Int) (M : Nat → Nat → Int) : Option Int :=
    ((lT_hasName 3 x1 M).bind (fun v5 =>
    (if v5 = 0 then
    (some (-2 : Int))
    else
    ((lD_stepsStuck 29 x1 M).bind (fun v16 =>
    (some v16))))))
set_option maxRecDepth 100000 in
theorem ok_lX_stuck {sc : zSc} {x1 : Int} {M : Nat → Nat → Int} {P : Int → (Nat → Nat → Int) → Prop} (h : zS (lX_stuck x1 M) (fun x => P x M)) : zCi sc 92 [.inr (.inr 0), .inl x1] M P := by
  have ea : zarg (zml 92) [.inr (.inr 0), .inl x1] = [some (.inr (.inr 0)), some (.inl x1)] := by rw [zm_92]; rfl
  unfold zCi zCw
  rw [ea, zr_92]
  have hq : 2 ≤ 2 := Nat.le_refl _
  unfold lX_stuck at h
  have h := zS_mono h (fun x hx => (⟨x, rfl, hx⟩ : ∃ y, (some (.inl x) : Option zV) = some (.inl y) ∧ P y M))
  skip
  refine E_aload_n (pc := 0) (zDk zD_92_ok 0 rfl) rfl ?_
  refine E_getR (pc := 1) (ci := 7) (f := 1) (r := 3) (zDk zD_92_ok 1 rfl) zc_92 (by decide +kernel) (by decide) zis_7_0 (by decide +kernel) (by decide) ?_
  refine E_iload_n (pc := 4) (zDk zD_92_ok 2 rfl) rfl ?_
  obtain ⟨v5, e5, h⟩ := zS_bind h
  refine E_virI (pc := 5) (c := 73) (r := 3) (as := [.inl x1]) (rest := []) (zDk zD_92_ok 3 rfl) zc_92 (by decide +kernel) zk_73 ⟨(Nat.le_of_ble_eq_true rfl), rfl, rfl⟩ (Nat.le_of_ble_eq_true rfl) (zr_73 _) (Nat.lt_of_lt_of_le (by decide) hq) (by rw [zm_73]; exact (Nat.le_of_ble_eq_true rfl)) ⟨zc_73, by decide⟩ zis_6_3 (ok_lT_hasName ⟨v5, e5, ?_⟩)
  refine E_if (pc := 8) (t := 22) (zDk zD_92_ok 4 rfl) rfl (fun hz => ?_) (fun hz => ?_)
  · have h := zS_t h (T_eq hz)
    refine E_bipush (pc := 22) (zDk zD_92_ok 10 rfl) (by decide +kernel) ?_
    have h := zS_some h
    exact E_ireturn (pc := 24) (zDk zD_92_ok 11 rfl) zt_92 h
  · have h := zS_f h (F_eq hz)
    refine E_aload_n (pc := 11) (zDk zD_92_ok 5 rfl) rfl ?_
    refine E_getR (pc := 12) (ci := 7) (f := 4) (r := 29) (zDk zD_92_ok 6 rfl) zc_92 (by decide +kernel) (by decide) zis_7_0 (by decide +kernel) (by decide) ?_
    refine E_iload_n (pc := 15) (zDk zD_92_ok 7 rfl) rfl ?_
    obtain ⟨v16, e16, h⟩ := zS_bind h
    refine E_virI (pc := 16) (c := 24) (r := 29) (as := [.inl x1]) (rest := []) (zDk zD_92_ok 8 rfl) zc_92 (by decide +kernel) zk_24 ⟨(Nat.le_of_ble_eq_true rfl), rfl, rfl⟩ (Nat.le_of_ble_eq_true rfl) (zr_24 _) (Nat.lt_of_lt_of_le (by decide) hq) (by rw [zm_24]; exact (Nat.le_of_ble_eq_true rfl)) ⟨zc_24, by decide⟩ zis_1_29 (ok_lD_stepsStuck ⟨v16, e16, ?_⟩)
    refine E_goto (pc := 19) (t := 24) (zDk zD_92_ok 9 rfl) rfl ?_
    have h := zS_some h
    exact E_ireturn (pc := 24) (zDk zD_92_ok 11 rfl) zt_92 h
def zD_94 : List (Nat × Instr × Nat) := [(0, .aload_n (0), 1), (1, .getfield (19), 3), (4, .iload_n (1), 1), (5, .invokevirtual (112), 3), (8, .ifCond .eq (14), 3), (11, .aload_n (0), 1), (12, .getfield (38), 3), (15, .iload_n (1), 1), (16, .invokevirtual (165), 3), (19, .goto (5), 3), (22, .bipush (-2), 2), (24, .ireturn, 1)]
set_option maxRecDepth 100000 in
theorem zD_94_ok : zDo 94 zD_94 = true := by decide +kernel
theorem zc_94 : zcls 94 = 7 := by decide +kernel
theorem zm_94 : zml 94 = 2 := by decide +kernel
theorem zt_94 : zrt 94 = (some (.int)) := by decide +kernel
theorem zk_94 : zkd 94 = 1 ∧ znp 94 + 1 = 2 := by decide +kernel
theorem zr_94 (as : List zV) : zrk 94 as = 2 := by unfold zrk; rw [if_neg (by decide)]; decide +kernel
def lX_drinks (x1 : Int) (M : Nat → Nat → Int) : Option Int :=
    ((lT_hasName 3 x1 M).bind (fun v5 =>
    (if v5 = 0 then
    (some (-2 : Int))
    else
    ((lD_inkDrunk 29 x1 M).bind (fun v16 =>
    (some v16))))))
set_option maxRecDepth 100000 in
theorem ok_lX_drinks {sc : zSc} {x1 : Int} {M : Nat → Nat → Int} {P : Int → (Nat → Nat → Int) → Prop} (h : zS (lX_drinks x1 M) (fun x => P x M)) : zCi sc 94 [.inr (.inr 0), .inl x1] M P := by
  have ea : zarg (zml 94) [.inr (.inr 0), .inl x1] = [some (.inr (.inr 0)), some (.inl x1)] := by rw [zm_94]; rfl
  unfold zCi zCw
  rw [ea, zr_94]
  have hq : 2 ≤ 2 := Nat.le_refl _
  unfold lX_drinks at h
  have h := zS_mono h (fun x hx => (⟨x, rfl, hx⟩ : ∃ y, (some (.inl x) : Option zV) = some (.inl y) ∧ P y M))
  skip
  refine E_aload_n (pc := 0) (zDk zD_94_ok 0 rfl) rfl ?_
  refine E_getR (pc := 1) (ci := 7) (f := 1) (r := 3) (zDk zD_94_ok 1 rfl) zc_94 (by decide +kernel) (by decide) zis_7_0 (by decide +kernel) (by decide) ?_
  refine E_iload_n (pc := 4) (zDk zD_94_ok 2 rfl) rfl ?_
  obtain ⟨v5, e5, h⟩ := zS_bind h
  refine E_virI (pc := 5) (c := 73) (r := 3) (as := [.inl x1]) (rest := []) (zDk zD_94_ok 3 rfl) zc_94 (by decide +kernel) zk_73 ⟨(Nat.le_of_ble_eq_true rfl), rfl, rfl⟩ (Nat.le_of_ble_eq_true rfl) (zr_73 _) (Nat.lt_of_lt_of_le (by decide) hq) (by rw [zm_73]; exact (Nat.le_of_ble_eq_true rfl)) ⟨zc_73, by decide⟩ zis_6_3 (ok_lT_hasName ⟨v5, e5, ?_⟩)
  refine E_if (pc := 8) (t := 22) (zDk zD_94_ok 4 rfl) rfl (fun hz => ?_) (fun hz => ?_)
  · have h := zS_t h (T_eq hz)
    refine E_bipush (pc := 22) (zDk zD_94_ok 10 rfl) (by decide +kernel) ?_
    have h := zS_some h
    exact E_ireturn (pc := 24) (zDk zD_94_ok 11 rfl) zt_94 h
  · have h := zS_f h (F_eq hz)
    refine E_aload_n (pc := 11) (zDk zD_94_ok 5 rfl) rfl ?_
    refine E_getR (pc := 12) (ci := 7) (f := 4) (r := 29) (zDk zD_94_ok 6 rfl) zc_94 (by decide +kernel) (by decide) zis_7_0 (by decide +kernel) (by decide) ?_
    refine E_iload_n (pc := 15) (zDk zD_94_ok 7 rfl) rfl ?_
    obtain ⟨v16, e16, h⟩ := zS_bind h
    refine E_virI (pc := 16) (c := 26) (r := 29) (as := [.inl x1]) (rest := []) (zDk zD_94_ok 8 rfl) zc_94 (by decide +kernel) zk_26 ⟨(Nat.le_of_ble_eq_true rfl), rfl, rfl⟩ (Nat.le_of_ble_eq_true rfl) (zr_26 _) (Nat.lt_of_lt_of_le (by decide) hq) (by rw [zm_26]; exact (Nat.le_of_ble_eq_true rfl)) ⟨zc_26, by decide⟩ zis_1_29 (ok_lD_inkDrunk ⟨v16, e16, ?_⟩)
    refine E_goto (pc := 19) (t := 24) (zDk zD_94_ok 9 rfl) rfl ?_
    have h := zS_some h
    exact E_ireturn (pc := 24) (zDk zD_94_ok 11 rfl) zt_94 h
def zD_97 : List (Nat × Instr × Nat) := [(0, .aload_n (0), 1), (1, .getfield (19), 3), (4, .iload_n (1), 1), (5, .invokevirtual (136), 3), (8, .ifCond .eq (15), 3), (11, .aload_n (0), 1), (12, .getfield (38), 3), (15, .getfield (174), 3), (18, .iload_n (1), 1), (19, .iaload, 1), (20, .goto (5), 3), (23, .bipush (-2), 2), (25, .ireturn, 1)]
set_option maxRecDepth 100000 in
theorem zD_97_ok : zDo 97 zD_97 = true := by decide +kernel
theorem zc_97 : zcls 97 = 7 := by decide +kernel
theorem zm_97 : zml 97 = 2 := by decide +kernel
theorem zt_97 : zrt 97 = (some (.int)) := by decide +kernel
theorem zk_97 : zkd 97 = 1 ∧ znp 97 + 1 = 2 := by decide +kernel
theorem zr_97 (as : List zV) : zrk 97 as = 2 := by unfold zrk; rw [if_neg (by decide)]; decide +kernel
def lX_signs (x1 : Int) (M : Nat → Nat → Int) : Option Int :=
    ((lT_hasStep 3 x1 M).bind (fun v5 =>
    (if v5 = 0 then
    (some (-2 : Int))
    else
    ((rdI 36 x1 M).bind (fun v19 =>
    (some v19))))))
set_option maxRecDepth 100000 in
theorem ok_lX_signs {sc : zSc} {x1 : Int} {M : Nat → Nat → Int} {P : Int → (Nat → Nat → Int) → Prop} (h : zS (lX_signs x1 M) (fun x => P x M)) : zCi sc 97 [.inr (.inr 0), .inl x1] M P := by
  have ea : zarg (zml 97) [.inr (.inr 0), .inl x1] = [some (.inr (.inr 0)), some (.inl x1)] := by rw [zm_97]; rfl
  unfold zCi zCw
  rw [ea, zr_97]
  have hq : 2 ≤ 2 := Nat.le_refl _
  unfold lX_signs at h
  have h := zS_mono h (fun x hx => (⟨x, rfl, hx⟩ : ∃ y, (some (.inl x) : Option zV) = some (.inl y) ∧ P y M))
  skip
  refine E_aload_n (pc := 0) (zDk zD_97_ok 0 rfl) rfl ?_
  refine E_getR (pc := 1) (ci := 7) (f := 1) (r := 3) (zDk zD_97_ok 1 rfl) zc_97 (by decide +kernel) (by decide) zis_7_0 (by decide +kernel) (by decide) ?_
  refine E_iload_n (pc := 4) (zDk zD_97_ok 2 rfl) rfl ?_
  obtain ⟨v5, e5, h⟩ := zS_bind h
  refine E_virI (pc := 5) (c := 71) (r := 3) (as := [.inl x1]) (rest := []) (zDk zD_97_ok 3 rfl) zc_97 (by decide +kernel) zk_71 ⟨(Nat.le_of_ble_eq_true rfl), rfl, rfl⟩ (Nat.le_of_ble_eq_true rfl) (zr_71 _) (Nat.lt_of_lt_of_le (by decide) hq) (by rw [zm_71]; exact (Nat.le_of_ble_eq_true rfl)) ⟨zc_71, by decide⟩ zis_6_3 (ok_lT_hasStep ⟨v5, e5, ?_⟩)
  refine E_if (pc := 8) (t := 23) (zDk zD_97_ok 4 rfl) rfl (fun hz => ?_) (fun hz => ?_)
  · have h := zS_t h (T_eq hz)
    refine E_bipush (pc := 23) (zDk zD_97_ok 11 rfl) (by decide +kernel) ?_
    have h := zS_some h
    exact E_ireturn (pc := 25) (zDk zD_97_ok 12 rfl) zt_97 h
  · have h := zS_f h (F_eq hz)
    refine E_aload_n (pc := 11) (zDk zD_97_ok 5 rfl) rfl ?_
    refine E_getR (pc := 12) (ci := 7) (f := 4) (r := 29) (zDk zD_97_ok 6 rfl) zc_97 (by decide +kernel) (by decide) zis_7_0 (by decide +kernel) (by decide) ?_
    refine E_getR (pc := 15) (ci := 1) (f := 7) (r := 36) (zDk zD_97_ok 7 rfl) zc_97 (by decide +kernel) (by decide) zis_1_29 (by decide +kernel) (by decide) ?_
    refine E_iload_n (pc := 18) (zDk zD_97_ok 8 rfl) rfl ?_
    obtain ⟨v19, e19, h⟩ := zS_bind h
    refine E_iaload (pc := 19) (zDk zD_97_ok 9 rfl) e19 ?_
    refine E_goto (pc := 20) (t := 25) (zDk zD_97_ok 10 rfl) rfl ?_
    have h := zS_some h
    exact E_ireturn (pc := 25) (zDk zD_97_ok 12 rfl) zt_97 h
def zD_99 : List (Nat × Instr × Nat) := [(0, .aload_n (0), 1), (1, .getfield (19), 3), (4, .iload_n (1), 1), (5, .invokevirtual (112), 3), (8, .ifCond .eq (14), 3), (11, .aload_n (0), 1), (12, .getfield (19), 3), (15, .iload_n (2), 1), (16, .invokevirtual (112), 3), (19, .ifCond .ne (6), 3), (22, .bipush (-2), 2), (24, .ireturn, 1), (25, .aload_n (0), 1), (26, .getfield (38), 3), (29, .iconst (1), 1), (30, .iload_n (1), 1), (31, .ishl, 1), (32, .iconst (1), 1), (33, .iload_n (2), 1), (34, .ishl, 1), (35, .ior, 1), (36, .invokevirtual (188), 3), (39, .ireturn, 1)]
set_option maxRecDepth 100000 in
theorem zD_99_ok : zDo 99 zD_99 = true := by decide +kernel
theorem zc_99 : zcls 99 = 7 := by decide +kernel
theorem zm_99 : zml 99 = 3 := by decide +kernel
theorem zt_99 : zrt 99 = (some (.int)) := by decide +kernel
theorem zk_99 : zkd 99 = 1 ∧ znp 99 + 1 = 3 := by decide +kernel
theorem zr_99 (as : List zV) : zrk 99 as = 2 := by unfold zrk; rw [if_neg (by decide)]; decide +kernel
def lX_meets (x1 : Int) (x2 : Int) (M : Nat → Nat → Int) : Option Int :=
    ((lT_hasName 3 x1 M).bind (fun v5 =>
    (if v5 = 0 then
    (some (-2 : Int))
    else
    ((lT_hasName 3 x2 M).bind (fun v16 =>
    (if v16 = 0 then
    (some (-2 : Int))
    else
    ((lD_firstTogether 29 (zor (zshl (1 : Int) x1) (zshl (1 : Int) x2)) M).bind (fun v36 =>
    (some v36)))))))))
set_option maxRecDepth 100000 in
theorem ok_lX_meets {sc : zSc} {x1 : Int} {x2 : Int} {M : Nat → Nat → Int} {P : Int → (Nat → Nat → Int) → Prop} (h : zS (lX_meets x1 x2 M) (fun x => P x M)) : zCi sc 99 [.inr (.inr 0), .inl x1, .inl x2] M P := by
  have ea : zarg (zml 99) [.inr (.inr 0), .inl x1, .inl x2] = [some (.inr (.inr 0)), some (.inl x1), some (.inl x2)] := by rw [zm_99]; rfl
  unfold zCi zCw
  rw [ea, zr_99]
  have hq : 2 ≤ 2 := Nat.le_refl _
  unfold lX_meets at h
  have h := zS_mono h (fun x hx => (⟨x, rfl, hx⟩ : ∃ y, (some (.inl x) : Option zV) = some (.inl y) ∧ P y M))
  skip
  refine E_aload_n (pc := 0) (zDk zD_99_ok 0 rfl) rfl ?_
  refine E_getR (pc := 1) (ci := 7) (f := 1) (r := 3) (zDk zD_99_ok 1 rfl) zc_99 (by decide +kernel) (by decide) zis_7_0 (by decide +kernel) (by decide) ?_
  refine E_iload_n (pc := 4) (zDk zD_99_ok 2 rfl) rfl ?_
  obtain ⟨v5, e5, h⟩ := zS_bind h
  refine E_virI (pc := 5) (c := 73) (r := 3) (as := [.inl x1]) (rest := []) (zDk zD_99_ok 3 rfl) zc_99 (by decide +kernel) zk_73 ⟨(Nat.le_of_ble_eq_true rfl), rfl, rfl⟩ (Nat.le_of_ble_eq_true rfl) (zr_73 _) (Nat.lt_of_lt_of_le (by decide) hq) (by rw [zm_73]; exact (Nat.le_of_ble_eq_true rfl)) ⟨zc_73, by decide⟩ zis_6_3 (ok_lT_hasName ⟨v5, e5, ?_⟩)
  refine E_if (pc := 8) (t := 22) (zDk zD_99_ok 4 rfl) rfl (fun hz => ?_) (fun hz => ?_)
  · have h := zS_t h (T_eq hz)
    refine E_bipush (pc := 22) (zDk zD_99_ok 10 rfl) (by decide +kernel) ?_
    have h := zS_some h
    exact E_ireturn (pc := 24) (zDk zD_99_ok 11 rfl) zt_99 h
  · have h := zS_f h (F_eq hz)
    refine E_aload_n (pc := 11) (zDk zD_99_ok 5 rfl) rfl ?_
    refine E_getR (pc := 12) (ci := 7) (f := 1) (r := 3) (zDk zD_99_ok 6 rfl) zc_99 (by decide +kernel) (by decide) zis_7_0 (by decide +kernel) (by decide) ?_
    refine E_iload_n (pc := 15) (zDk zD_99_ok 7 rfl) rfl ?_
    obtain ⟨v16, e16, h⟩ := zS_bind h
    refine E_virI (pc := 16) (c := 73) (r := 3) (as := [.inl x2]) (rest := []) (zDk zD_99_ok 8 rfl) zc_99 (by decide +kernel) zk_73 ⟨(Nat.le_of_ble_eq_true rfl), rfl, rfl⟩ (Nat.le_of_ble_eq_true rfl) (zr_73 _) (Nat.lt_of_lt_of_le (by decide) hq) (by rw [zm_73]; exact (Nat.le_of_ble_eq_true rfl)) ⟨zc_73, by decide⟩ zis_6_3 (ok_lT_hasName ⟨v16, e16, ?_⟩)
    refine E_if (pc := 19) (t := 25) (zDk zD_99_ok 9 rfl) rfl (fun hz => ?_) (fun hz => ?_)
    · have h := zS_f h (T_ne hz)
      refine E_aload_n (pc := 25) (zDk zD_99_ok 12 rfl) rfl ?_
      refine E_getR (pc := 26) (ci := 7) (f := 4) (r := 29) (zDk zD_99_ok 13 rfl) zc_99 (by decide +kernel) (by decide) zis_7_0 (by decide +kernel) (by decide) ?_
      refine E_iconst (pc := 29) (zDk zD_99_ok 14 rfl) (by decide +kernel) ?_
      refine E_iload_n (pc := 30) (zDk zD_99_ok 15 rfl) rfl ?_
      refine E_ishl (pc := 31) (zDk zD_99_ok 16 rfl) ?_
      refine E_iconst (pc := 32) (zDk zD_99_ok 17 rfl) (by decide +kernel) ?_
      refine E_iload_n (pc := 33) (zDk zD_99_ok 18 rfl) rfl ?_
      refine E_ishl (pc := 34) (zDk zD_99_ok 19 rfl) ?_
      refine E_ior (pc := 35) (zDk zD_99_ok 20 rfl) ?_
      obtain ⟨v36, e36, h⟩ := zS_bind h
      refine E_virI (pc := 36) (c := 29) (r := 29) (as := [.inl (zor (zshl (1 : Int) x1) (zshl (1 : Int) x2))]) (rest := []) (zDk zD_99_ok 21 rfl) zc_99 (by decide +kernel) zk_29 ⟨(Nat.le_of_ble_eq_true rfl), rfl, rfl⟩ (Nat.le_of_ble_eq_true rfl) (zr_29 _) (Nat.lt_of_lt_of_le (by decide) hq) (by rw [zm_29]; exact (Nat.le_of_ble_eq_true rfl)) ⟨zc_29, by decide⟩ zis_1_29 (ok_lD_firstTogether ⟨v36, e36, ?_⟩)
      have h := zS_some h
      exact E_ireturn (pc := 39) (zDk zD_99_ok 22 rfl) zt_99 h
    · have h := zS_t h (F_ne hz)
      refine E_bipush (pc := 22) (zDk zD_99_ok 10 rfl) (by decide +kernel) ?_
      have h := zS_some h
      exact E_ireturn (pc := 24) (zDk zD_99_ok 11 rfl) zt_99 h
def zD_100 : List (Nat × Instr × Nat) := [(0, .aload_n (0), 1), (1, .getfield (19), 3), (4, .iload_n (1), 1), (5, .invokevirtual (112), 3), (8, .ifCond .eq (14), 3), (11, .aload_n (0), 1), (12, .getfield (19), 3), (15, .iload_n (2), 1), (16, .invokevirtual (112), 3), (19, .ifCond .ne (6), 3), (22, .bipush (-2), 2), (24, .ireturn, 1), (25, .aload_n (0), 1), (26, .getfield (38), 3), (29, .iconst (1), 1), (30, .iload_n (1), 1), (31, .ishl, 1), (32, .iconst (1), 1), (33, .iload_n (2), 1), (34, .ishl, 1), (35, .ior, 1), (36, .invokevirtual (191), 3), (39, .ireturn, 1)]
set_option maxRecDepth 100000 in
theorem zD_100_ok : zDo 100 zD_100 = true := by decide +kernel
theorem zc_100 : zcls 100 = 7 := by decide +kernel
theorem zm_100 : zml 100 = 3 := by decide +kernel
theorem zt_100 : zrt 100 = (some (.int)) := by decide +kernel
theorem zk_100 : zkd 100 = 1 ∧ znp 100 + 1 = 3 := by decide +kernel
theorem zr_100 (as : List zV) : zrk 100 as = 2 := by unfold zrk; rw [if_neg (by decide)]; decide +kernel
def lX_often (x1 : Int) (x2 : Int) (M : Nat → Nat → Int) : Option Int :=
    ((lT_hasName 3 x1 M).bind (fun v5 =>
    (if v5 = 0 then
    (some (-2 : Int))
    else
    ((lT_hasName 3 x2 M).bind (fun v16 =>
    (if v16 = 0 then
    (some (-2 : Int))
    else
    ((lD_stepsTogether 29 (zor (zshl (1 : Int) x1) (zshl (1 : Int) x2)) M).bind (fun v36 =>
    (some v36)))))))))
set_option maxRecDepth 100000 in
theorem ok_lX_often {sc : zSc} {x1 : Int} {x2 : Int} {M : Nat → Nat → Int} {P : Int → (Nat → Nat → Int) → Prop} (h : zS (lX_often x1 x2 M) (fun x => P x M)) : zCi sc 100 [.inr (.inr 0), .inl x1, .inl x2] M P := by
  have ea : zarg (zml 100) [.inr (.inr 0), .inl x1, .inl x2] = [some (.inr (.inr 0)), some (.inl x1), some (.inl x2)] := by rw [zm_100]; rfl
  unfold zCi zCw
  rw [ea, zr_100]
  have hq : 2 ≤ 2 := Nat.le_refl _
  unfold lX_often at h
  have h := zS_mono h (fun x hx => (⟨x, rfl, hx⟩ : ∃ y, (some (.inl x) : Option zV) = some (.inl y) ∧ P y M))
  skip
  refine E_aload_n (pc := 0) (zDk zD_100_ok 0 rfl) rfl ?_
  refine E_getR (pc := 1) (ci := 7) (f := 1) (r := 3) (zDk zD_100_ok 1 rfl) zc_100 (by decide +kernel) (by decide) zis_7_0 (by decide +kernel) (by decide) ?_
  refine E_iload_n (pc := 4) (zDk zD_100_ok 2 rfl) rfl ?_
  obtain ⟨v5, e5, h⟩ := zS_bind h
  refine E_virI (pc := 5) (c := 73) (r := 3) (as := [.inl x1]) (rest := []) (zDk zD_100_ok 3 rfl) zc_100 (by decide +kernel) zk_73 ⟨(Nat.le_of_ble_eq_true rfl), rfl, rfl⟩ (Nat.le_of_ble_eq_true rfl) (zr_73 _) (Nat.lt_of_lt_of_le (by decide) hq) (by rw [zm_73]; exact (Nat.le_of_ble_eq_true rfl)) ⟨zc_73, by decide⟩ zis_6_3 (ok_lT_hasName ⟨v5, e5, ?_⟩)
  refine E_if (pc := 8) (t := 22) (zDk zD_100_ok 4 rfl) rfl (fun hz => ?_) (fun hz => ?_)
  · have h := zS_t h (T_eq hz)
    refine E_bipush (pc := 22) (zDk zD_100_ok 10 rfl) (by decide +kernel) ?_
    have h := zS_some h
    exact E_ireturn (pc := 24) (zDk zD_100_ok 11 rfl) zt_100 h
  · have h := zS_f h (F_eq hz)
    refine E_aload_n (pc := 11) (zDk zD_100_ok 5 rfl) rfl ?_
    refine E_getR (pc := 12) (ci := 7) (f := 1) (r := 3) (zDk zD_100_ok 6 rfl) zc_100 (by decide +kernel) (by decide) zis_7_0 (by decide +kernel) (by decide) ?_
    refine E_iload_n (pc := 15) (zDk zD_100_ok 7 rfl) rfl ?_
    obtain ⟨v16, e16, h⟩ := zS_bind h
    refine E_virI (pc := 16) (c := 73) (r := 3) (as := [.inl x2]) (rest := []) (zDk zD_100_ok 8 rfl) zc_100 (by decide +kernel) zk_73 ⟨(Nat.le_of_ble_eq_true rfl), rfl, rfl⟩ (Nat.le_of_ble_eq_true rfl) (zr_73 _) (Nat.lt_of_lt_of_le (by decide) hq) (by rw [zm_73]; exact (Nat.le_of_ble_eq_true rfl)) ⟨zc_73, by decide⟩ zis_6_3 (ok_lT_hasName ⟨v16, e16, ?_⟩)
    refine E_if (pc := 19) (t := 25) (zDk zD_100_ok 9 rfl) rfl (fun hz => ?_) (fun hz => ?_)
    · have h := zS_f h (T_ne hz)
      refine E_aload_n (pc := 25) (zDk zD_100_ok 12 rfl) rfl ?_
      refine E_getR (pc := 26) (ci := 7) (f := 4) (r := 29) (zDk zD_100_ok 13 rfl) zc_100 (by decide +kernel) (by decide) zis_7_0 (by decide +kernel) (by decide) ?_
      refine E_iconst (pc := 29) (zDk zD_100_ok 14 rfl) (by decide +kernel) ?_
      refine E_iload_n (pc := 30) (zDk zD_100_ok 15 rfl) rfl ?_
      refine E_ishl (pc := 31) (zDk zD_100_ok 16 rfl) ?_
      refine E_iconst (pc := 32) (zDk zD_100_ok 17 rfl) (by decide +kernel) ?_
      refine E_iload_n (pc := 33) (zDk zD_100_ok 18 rfl) rfl ?_
      refine E_ishl (pc := 34) (zDk zD_100_ok 19 rfl) ?_
      refine E_ior (pc := 35) (zDk zD_100_ok 20 rfl) ?_
      obtain ⟨v36, e36, h⟩ := zS_bind h
      refine E_virI (pc := 36) (c := 30) (r := 29) (as := [.inl (zor (zshl (1 : Int) x1) (zshl (1 : Int) x2))]) (rest := []) (zDk zD_100_ok 21 rfl) zc_100 (by decide +kernel) zk_30 ⟨(Nat.le_of_ble_eq_true rfl), rfl, rfl⟩ (Nat.le_of_ble_eq_true rfl) (zr_30 _) (Nat.lt_of_lt_of_le (by decide) hq) (by rw [zm_30]; exact (Nat.le_of_ble_eq_true rfl)) ⟨zc_30, by decide⟩ zis_1_29 (ok_lD_stepsTogether ⟨v36, e36, ?_⟩)
      have h := zS_some h
      exact E_ireturn (pc := 39) (zDk zD_100_ok 22 rfl) zt_100 h
    · have h := zS_t h (F_ne hz)
      refine E_bipush (pc := 22) (zDk zD_100_ok 10 rfl) (by decide +kernel) ?_
      have h := zS_some h
      exact E_ireturn (pc := 24) (zDk zD_100_ok 11 rfl) zt_100 h
def zD_101 : List (Nat × Instr × Nat) := [(0, .aload_n (0), 1), (1, .getfield (19), 3), (4, .invokevirtual (194), 3), (7, .ifCond .eq (13), 3), (10, .aload_n (0), 1), (11, .getfield (38), 3), (14, .invokevirtual (198), 3), (17, .goto (5), 3), (20, .bipush (-2), 2), (22, .ireturn, 1)]
set_option maxRecDepth 100000 in
theorem zD_101_ok : zDo 101 zD_101 = true := by decide +kernel
theorem zc_101 : zcls 101 = 7 := by decide +kernel
theorem zm_101 : zml 101 = 1 := by decide +kernel
theorem zt_101 : zrt 101 = (some (.int)) := by decide +kernel
theorem zk_101 : zkd 101 = 1 ∧ znp 101 + 1 = 1 := by decide +kernel
theorem zr_101 (as : List zV) : zrk 101 as = 2 := by unfold zrk; rw [if_neg (by decide)]; decide +kernel
def lX_pack (M : Nat → Nat → Int) : Option Int :=
    ((lT_isThere 3 M).bind (fun v4 =>
    (if v4 = 0 then
    (some (-2 : Int))
    else
    ((lD_largestPack 29 M).bind (fun v14 =>
    (some v14))))))
set_option maxRecDepth 100000 in
theorem ok_lX_pack {sc : zSc} {M : Nat → Nat → Int} {P : Int → (Nat → Nat → Int) → Prop} (h : zS (lX_pack M) (fun x => P x M)) : zCi sc 101 [.inr (.inr 0)] M P := by
  have ea : zarg (zml 101) [.inr (.inr 0)] = [some (.inr (.inr 0))] := by rw [zm_101]; rfl
  unfold zCi zCw
  rw [ea, zr_101]
  have hq : 2 ≤ 2 := Nat.le_refl _
  unfold lX_pack at h
  have h := zS_mono h (fun x hx => (⟨x, rfl, hx⟩ : ∃ y, (some (.inl x) : Option zV) = some (.inl y) ∧ P y M))
  skip
  refine E_aload_n (pc := 0) (zDk zD_101_ok 0 rfl) rfl ?_
  refine E_getR (pc := 1) (ci := 7) (f := 1) (r := 3) (zDk zD_101_ok 1 rfl) zc_101 (by decide +kernel) (by decide) zis_7_0 (by decide +kernel) (by decide) ?_
  obtain ⟨v4, e4, h⟩ := zS_bind h
  refine E_virI (pc := 4) (c := 69) (r := 3) (as := []) (rest := []) (zDk zD_101_ok 2 rfl) zc_101 (by decide +kernel) zk_69 ⟨(Nat.le_of_ble_eq_true rfl), rfl, rfl⟩ (Nat.le_of_ble_eq_true rfl) (zr_69 _) (Nat.lt_of_lt_of_le (by decide) hq) (by rw [zm_69]; exact (Nat.le_of_ble_eq_true rfl)) ⟨zc_69, by decide⟩ zis_6_3 (ok_lT_isThere ⟨v4, e4, ?_⟩)
  refine E_if (pc := 7) (t := 20) (zDk zD_101_ok 3 rfl) rfl (fun hz => ?_) (fun hz => ?_)
  · have h := zS_t h (T_eq hz)
    refine E_bipush (pc := 20) (zDk zD_101_ok 8 rfl) (by decide +kernel) ?_
    have h := zS_some h
    exact E_ireturn (pc := 22) (zDk zD_101_ok 9 rfl) zt_101 h
  · have h := zS_f h (F_eq hz)
    refine E_aload_n (pc := 10) (zDk zD_101_ok 4 rfl) rfl ?_
    refine E_getR (pc := 11) (ci := 7) (f := 4) (r := 29) (zDk zD_101_ok 5 rfl) zc_101 (by decide +kernel) (by decide) zis_7_0 (by decide +kernel) (by decide) ?_
    obtain ⟨v14, e14, h⟩ := zS_bind h
    refine E_virI (pc := 14) (c := 31) (r := 29) (as := []) (rest := []) (zDk zD_101_ok 6 rfl) zc_101 (by decide +kernel) zk_31 ⟨(Nat.le_of_ble_eq_true rfl), rfl, rfl⟩ (Nat.le_of_ble_eq_true rfl) (zr_31 _) (Nat.lt_of_lt_of_le (by decide) hq) (by rw [zm_31]; exact (Nat.le_of_ble_eq_true rfl)) ⟨zc_31, by decide⟩ zis_1_29 (ok_lD_largestPack ⟨v14, e14, ?_⟩)
    refine E_goto (pc := 17) (t := 22) (zDk zD_101_ok 7 rfl) rfl ?_
    have h := zS_some h
    exact E_ireturn (pc := 22) (zDk zD_101_ok 9 rfl) zt_101 h
def zD_102 : List (Nat × Instr × Nat) := [(0, .aload_n (0), 1), (1, .getfield (19), 3), (4, .invokevirtual (194), 3), (7, .ifCond .eq (13), 3), (10, .aload_n (0), 1), (11, .getfield (38), 3), (14, .invokevirtual (202), 3), (17, .goto (5), 3), (20, .bipush (-2), 2), (22, .ireturn, 1)]
set_option maxRecDepth 100000 in
theorem zD_102_ok : zDo 102 zD_102 = true := by decide +kernel
theorem zc_102 : zcls 102 = 7 := by decide +kernel
theorem zm_102 : zml 102 = 1 := by decide +kernel
theorem zt_102 : zrt 102 = (some (.int)) := by decide +kernel
theorem zk_102 : zkd 102 = 1 ∧ znp 102 + 1 = 1 := by decide +kernel
theorem zr_102 (as : List zV) : zrk 102 as = 2 := by unfold zrk; rw [if_neg (by decide)]; decide +kernel
def lX_busy (M : Nat → Nat → Int) : Option Int :=
    ((lT_isThere 3 M).bind (fun v4 =>
    (if v4 = 0 then
    (some (-2 : Int))
    else
    ((lD_busiestCorner 29 M).bind (fun v14 =>
    (some v14))))))
set_option maxRecDepth 100000 in
theorem ok_lX_busy {sc : zSc} {M : Nat → Nat → Int} {P : Int → (Nat → Nat → Int) → Prop} (h : zS (lX_busy M) (fun x => P x M)) : zCi sc 102 [.inr (.inr 0)] M P := by
  have ea : zarg (zml 102) [.inr (.inr 0)] = [some (.inr (.inr 0))] := by rw [zm_102]; rfl
  unfold zCi zCw
  rw [ea, zr_102]
  have hq : 2 ≤ 2 := Nat.le_refl _
  unfold lX_busy at h
  have h := zS_mono h (fun x hx => (⟨x, rfl, hx⟩ : ∃ y, (some (.inl x) : Option zV) = some (.inl y) ∧ P y M))
  skip
  refine E_aload_n (pc := 0) (zDk zD_102_ok 0 rfl) rfl ?_
  refine E_getR (pc := 1) (ci := 7) (f := 1) (r := 3) (zDk zD_102_ok 1 rfl) zc_102 (by decide +kernel) (by decide) zis_7_0 (by decide +kernel) (by decide) ?_
  obtain ⟨v4, e4, h⟩ := zS_bind h
  refine E_virI (pc := 4) (c := 69) (r := 3) (as := []) (rest := []) (zDk zD_102_ok 2 rfl) zc_102 (by decide +kernel) zk_69 ⟨(Nat.le_of_ble_eq_true rfl), rfl, rfl⟩ (Nat.le_of_ble_eq_true rfl) (zr_69 _) (Nat.lt_of_lt_of_le (by decide) hq) (by rw [zm_69]; exact (Nat.le_of_ble_eq_true rfl)) ⟨zc_69, by decide⟩ zis_6_3 (ok_lT_isThere ⟨v4, e4, ?_⟩)
  refine E_if (pc := 7) (t := 20) (zDk zD_102_ok 3 rfl) rfl (fun hz => ?_) (fun hz => ?_)
  · have h := zS_t h (T_eq hz)
    refine E_bipush (pc := 20) (zDk zD_102_ok 8 rfl) (by decide +kernel) ?_
    have h := zS_some h
    exact E_ireturn (pc := 22) (zDk zD_102_ok 9 rfl) zt_102 h
  · have h := zS_f h (F_eq hz)
    refine E_aload_n (pc := 10) (zDk zD_102_ok 4 rfl) rfl ?_
    refine E_getR (pc := 11) (ci := 7) (f := 4) (r := 29) (zDk zD_102_ok 5 rfl) zc_102 (by decide +kernel) (by decide) zis_7_0 (by decide +kernel) (by decide) ?_
    obtain ⟨v14, e14, h⟩ := zS_bind h
    refine E_virI (pc := 14) (c := 32) (r := 29) (as := []) (rest := []) (zDk zD_102_ok 6 rfl) zc_102 (by decide +kernel) zk_32 ⟨(Nat.le_of_ble_eq_true rfl), rfl, rfl⟩ (Nat.le_of_ble_eq_true rfl) (zr_32 _) (Nat.lt_of_lt_of_le (by decide) hq) (by rw [zm_32]; exact (Nat.le_of_ble_eq_true rfl)) ⟨zc_32, by decide⟩ zis_1_29 (ok_lD_busiestCorner ⟨v14, e14, ?_⟩)
    refine E_goto (pc := 17) (t := 22) (zDk zD_102_ok 7 rfl) rfl ?_
    have h := zS_some h
    exact E_ireturn (pc := 22) (zDk zD_102_ok 9 rfl) zt_102 h
def zD_103 : List (Nat × Instr × Nat) := [(0, .aload_n (0), 1), (1, .getfield (19), 3), (4, .iload_n (1), 1), (5, .invokevirtual (136), 3), (8, .ifCond .eq (14), 3), (11, .aload_n (0), 1), (12, .getfield (38), 3), (15, .iload_n (1), 1), (16, .invokevirtual (205), 3), (19, .goto (5), 3), (22, .bipush (-2), 2), (24, .ireturn, 1)]
set_option maxRecDepth 100000 in
theorem zD_103_ok : zDo 103 zD_103 = true := by decide +kernel
theorem zc_103 : zcls 103 = 7 := by decide +kernel
theorem zm_103 : zml 103 = 2 := by decide +kernel
theorem zt_103 : zrt 103 = (some (.int)) := by decide +kernel
theorem zk_103 : zkd 103 = 1 ∧ znp 103 + 1 = 2 := by decide +kernel
theorem zr_103 (as : List zV) : zrk 103 as = 2 := by unfold zrk; rw [if_neg (by decide)]; decide +kernel
def lX_lone (x1 : Int) (M : Nat → Nat → Int) : Option Int :=
    ((lT_hasStep 3 x1 M).bind (fun v5 =>
    (if v5 = 0 then
    (some (-2 : Int))
    else
    ((lD_namesAlone 29 x1 M).bind (fun v16 =>
    (some v16))))))
set_option maxRecDepth 100000 in
theorem ok_lX_lone {sc : zSc} {x1 : Int} {M : Nat → Nat → Int} {P : Int → (Nat → Nat → Int) → Prop} (h : zS (lX_lone x1 M) (fun x => P x M)) : zCi sc 103 [.inr (.inr 0), .inl x1] M P := by
  have ea : zarg (zml 103) [.inr (.inr 0), .inl x1] = [some (.inr (.inr 0)), some (.inl x1)] := by rw [zm_103]; rfl
  unfold zCi zCw
  rw [ea, zr_103]
  have hq : 2 ≤ 2 := Nat.le_refl _
  unfold lX_lone at h
  have h := zS_mono h (fun x hx => (⟨x, rfl, hx⟩ : ∃ y, (some (.inl x) : Option zV) = some (.inl y) ∧ P y M))
  skip
  refine E_aload_n (pc := 0) (zDk zD_103_ok 0 rfl) rfl ?_
  refine E_getR (pc := 1) (ci := 7) (f := 1) (r := 3) (zDk zD_103_ok 1 rfl) zc_103 (by decide +kernel) (by decide) zis_7_0 (by decide +kernel) (by decide) ?_
  refine E_iload_n (pc := 4) (zDk zD_103_ok 2 rfl) rfl ?_
  obtain ⟨v5, e5, h⟩ := zS_bind h
  refine E_virI (pc := 5) (c := 71) (r := 3) (as := [.inl x1]) (rest := []) (zDk zD_103_ok 3 rfl) zc_103 (by decide +kernel) zk_71 ⟨(Nat.le_of_ble_eq_true rfl), rfl, rfl⟩ (Nat.le_of_ble_eq_true rfl) (zr_71 _) (Nat.lt_of_lt_of_le (by decide) hq) (by rw [zm_71]; exact (Nat.le_of_ble_eq_true rfl)) ⟨zc_71, by decide⟩ zis_6_3 (ok_lT_hasStep ⟨v5, e5, ?_⟩)
  refine E_if (pc := 8) (t := 22) (zDk zD_103_ok 4 rfl) rfl (fun hz => ?_) (fun hz => ?_)
  · have h := zS_t h (T_eq hz)
    refine E_bipush (pc := 22) (zDk zD_103_ok 10 rfl) (by decide +kernel) ?_
    have h := zS_some h
    exact E_ireturn (pc := 24) (zDk zD_103_ok 11 rfl) zt_103 h
  · have h := zS_f h (F_eq hz)
    refine E_aload_n (pc := 11) (zDk zD_103_ok 5 rfl) rfl ?_
    refine E_getR (pc := 12) (ci := 7) (f := 4) (r := 29) (zDk zD_103_ok 6 rfl) zc_103 (by decide +kernel) (by decide) zis_7_0 (by decide +kernel) (by decide) ?_
    refine E_iload_n (pc := 15) (zDk zD_103_ok 7 rfl) rfl ?_
    obtain ⟨v16, e16, h⟩ := zS_bind h
    refine E_virI (pc := 16) (c := 33) (r := 29) (as := [.inl x1]) (rest := []) (zDk zD_103_ok 8 rfl) zc_103 (by decide +kernel) zk_33 ⟨(Nat.le_of_ble_eq_true rfl), rfl, rfl⟩ (Nat.le_of_ble_eq_true rfl) (zr_33 _) (Nat.lt_of_lt_of_le (by decide) hq) (by rw [zm_33]; exact (Nat.le_of_ble_eq_true rfl)) ⟨zc_33, by decide⟩ zis_1_29 (ok_lD_namesAlone ⟨v16, e16, ?_⟩)
    refine E_goto (pc := 19) (t := 24) (zDk zD_103_ok 9 rfl) rfl ?_
    have h := zS_some h
    exact E_ireturn (pc := 24) (zDk zD_103_ok 11 rfl) zt_103 h
def zD_104 : List (Nat × Instr × Nat) := [(0, .aload_n (0), 1), (1, .getfield (19), 3), (4, .iload_n (1), 1), (5, .invokevirtual (136), 3), (8, .ifCond .eq (14), 3), (11, .aload_n (0), 1), (12, .getfield (38), 3), (15, .iload_n (1), 1), (16, .invokevirtual (208), 3), (19, .goto (5), 3), (22, .bipush (-2), 2), (24, .ireturn, 1)]
set_option maxRecDepth 100000 in
theorem zD_104_ok : zDo 104 zD_104 = true := by decide +kernel
theorem zc_104 : zcls 104 = 7 := by decide +kernel
theorem zm_104 : zml 104 = 2 := by decide +kernel
theorem zt_104 : zrt 104 = (some (.int)) := by decide +kernel
theorem zk_104 : zkd 104 = 1 ∧ znp 104 + 1 = 2 := by decide +kernel
theorem zr_104 (as : List zV) : zrk 104 as = 2 := by unfold zrk; rw [if_neg (by decide)]; decide +kernel
def lX_total (x1 : Int) (M : Nat → Nat → Int) : Option Int :=
    ((lT_hasStep 3 x1 M).bind (fun v5 =>
    (if v5 = 0 then
    (some (-2 : Int))
    else
    ((lD_inkOfAll 29 x1 M).bind (fun v16 =>
    (some v16))))))
set_option maxRecDepth 100000 in
theorem ok_lX_total {sc : zSc} {x1 : Int} {M : Nat → Nat → Int} {P : Int → (Nat → Nat → Int) → Prop} (h : zS (lX_total x1 M) (fun x => P x M)) : zCi sc 104 [.inr (.inr 0), .inl x1] M P := by
  have ea : zarg (zml 104) [.inr (.inr 0), .inl x1] = [some (.inr (.inr 0)), some (.inl x1)] := by rw [zm_104]; rfl
  unfold zCi zCw
  rw [ea, zr_104]
  have hq : 2 ≤ 2 := Nat.le_refl _
  unfold lX_total at h
  have h := zS_mono h (fun x hx => (⟨x, rfl, hx⟩ : ∃ y, (some (.inl x) : Option zV) = some (.inl y) ∧ P y M))
  skip
  refine E_aload_n (pc := 0) (zDk zD_104_ok 0 rfl) rfl ?_
  refine E_getR (pc := 1) (ci := 7) (f := 1) (r := 3) (zDk zD_104_ok 1 rfl) zc_104 (by decide +kernel) (by decide) zis_7_0 (by decide +kernel) (by decide) ?_
  refine E_iload_n (pc := 4) (zDk zD_104_ok 2 rfl) rfl ?_
  obtain ⟨v5, e5, h⟩ := zS_bind h
  refine E_virI (pc := 5) (c := 71) (r := 3) (as := [.inl x1]) (rest := []) (zDk zD_104_ok 3 rfl) zc_104 (by decide +kernel) zk_71 ⟨(Nat.le_of_ble_eq_true rfl), rfl, rfl⟩ (Nat.le_of_ble_eq_true rfl) (zr_71 _) (Nat.lt_of_lt_of_le (by decide) hq) (by rw [zm_71]; exact (Nat.le_of_ble_eq_true rfl)) ⟨zc_71, by decide⟩ zis_6_3 (ok_lT_hasStep ⟨v5, e5, ?_⟩)
  refine E_if (pc := 8) (t := 22) (zDk zD_104_ok 4 rfl) rfl (fun hz => ?_) (fun hz => ?_)
  · have h := zS_t h (T_eq hz)
    refine E_bipush (pc := 22) (zDk zD_104_ok 10 rfl) (by decide +kernel) ?_
    have h := zS_some h
    exact E_ireturn (pc := 24) (zDk zD_104_ok 11 rfl) zt_104 h
  · have h := zS_f h (F_eq hz)
    refine E_aload_n (pc := 11) (zDk zD_104_ok 5 rfl) rfl ?_
    refine E_getR (pc := 12) (ci := 7) (f := 4) (r := 29) (zDk zD_104_ok 6 rfl) zc_104 (by decide +kernel) (by decide) zis_7_0 (by decide +kernel) (by decide) ?_
    refine E_iload_n (pc := 15) (zDk zD_104_ok 7 rfl) rfl ?_
    obtain ⟨v16, e16, h⟩ := zS_bind h
    refine E_virI (pc := 16) (c := 27) (r := 29) (as := [.inl x1]) (rest := []) (zDk zD_104_ok 8 rfl) zc_104 (by decide +kernel) zk_27 ⟨(Nat.le_of_ble_eq_true rfl), rfl, rfl⟩ (Nat.le_of_ble_eq_true rfl) (zr_27 _) (Nat.lt_of_lt_of_le (by decide) hq) (by rw [zm_27]; exact (Nat.le_of_ble_eq_true rfl)) ⟨zc_27, by decide⟩ zis_1_29 (ok_lD_inkOfAll ⟨v16, e16, ?_⟩)
    refine E_goto (pc := 19) (t := 24) (zDk zD_104_ok 9 rfl) rfl ?_
    have h := zS_some h
    exact E_ireturn (pc := 24) (zDk zD_104_ok 11 rfl) zt_104 h
def zD_106 : List (Nat × Instr × Nat) := [(0, .aload_n (0), 1), (1, .getfield (19), 3), (4, .iload_n (1), 1), (5, .invokevirtual (130), 3), (8, .ifCond .eq (22), 3), (11, .aload_n (0), 1), (12, .getfield (38), 3), (15, .aload_n (0), 1), (16, .getfield (19), 3), (19, .getfield (133), 3), (22, .iload_n (1), 1), (23, .iaload, 1), (24, .invokevirtual (188), 3), (27, .goto (5), 3), (30, .bipush (-2), 2), (32, .ireturn, 1)]
set_option maxRecDepth 100000 in
theorem zD_106_ok : zDo 106 zD_106 = true := by decide +kernel
theorem zc_106 : zcls 106 = 7 := by decide +kernel
theorem zm_106 : zml 106 = 2 := by decide +kernel
theorem zt_106 : zrt 106 = (some (.int)) := by decide +kernel
theorem zk_106 : zkd 106 = 1 ∧ znp 106 + 1 = 2 := by decide +kernel
theorem zr_106 (as : List zV) : zrk 106 as = 2 := by unfold zrk; rw [if_neg (by decide)]; decide +kernel
def lX_lies (x1 : Int) (M : Nat → Nat → Int) : Option Int :=
    ((lT_hasContract 3 x1 M).bind (fun v5 =>
    (if v5 = 0 then
    (some (-2 : Int))
    else
    ((rdI 12 x1 M).bind (fun v23 =>
    ((lD_firstTogether 29 v23 M).bind (fun v24 =>
    (some v24))))))))
set_option maxRecDepth 100000 in
theorem ok_lX_lies {sc : zSc} {x1 : Int} {M : Nat → Nat → Int} {P : Int → (Nat → Nat → Int) → Prop} (h : zS (lX_lies x1 M) (fun x => P x M)) : zCi sc 106 [.inr (.inr 0), .inl x1] M P := by
  have ea : zarg (zml 106) [.inr (.inr 0), .inl x1] = [some (.inr (.inr 0)), some (.inl x1)] := by rw [zm_106]; rfl
  unfold zCi zCw
  rw [ea, zr_106]
  have hq : 2 ≤ 2 := Nat.le_refl _
  unfold lX_lies at h
  have h := zS_mono h (fun x hx => (⟨x, rfl, hx⟩ : ∃ y, (some (.inl x) : Option zV) = some (.inl y) ∧ P y M))
  skip
  refine E_aload_n (pc := 0) (zDk zD_106_ok 0 rfl) rfl ?_
  refine E_getR (pc := 1) (ci := 7) (f := 1) (r := 3) (zDk zD_106_ok 1 rfl) zc_106 (by decide +kernel) (by decide) zis_7_0 (by decide +kernel) (by decide) ?_
  refine E_iload_n (pc := 4) (zDk zD_106_ok 2 rfl) rfl ?_
  obtain ⟨v5, e5, h⟩ := zS_bind h
  refine E_virI (pc := 5) (c := 74) (r := 3) (as := [.inl x1]) (rest := []) (zDk zD_106_ok 3 rfl) zc_106 (by decide +kernel) zk_74 ⟨(Nat.le_of_ble_eq_true rfl), rfl, rfl⟩ (Nat.le_of_ble_eq_true rfl) (zr_74 _) (Nat.lt_of_lt_of_le (by decide) hq) (by rw [zm_74]; exact (Nat.le_of_ble_eq_true rfl)) ⟨zc_74, by decide⟩ zis_6_3 (ok_lT_hasContract ⟨v5, e5, ?_⟩)
  refine E_if (pc := 8) (t := 30) (zDk zD_106_ok 4 rfl) rfl (fun hz => ?_) (fun hz => ?_)
  · have h := zS_t h (T_eq hz)
    refine E_bipush (pc := 30) (zDk zD_106_ok 14 rfl) (by decide +kernel) ?_
    have h := zS_some h
    exact E_ireturn (pc := 32) (zDk zD_106_ok 15 rfl) zt_106 h
  · have h := zS_f h (F_eq hz)
    refine E_aload_n (pc := 11) (zDk zD_106_ok 5 rfl) rfl ?_
    refine E_getR (pc := 12) (ci := 7) (f := 4) (r := 29) (zDk zD_106_ok 6 rfl) zc_106 (by decide +kernel) (by decide) zis_7_0 (by decide +kernel) (by decide) ?_
    refine E_aload_n (pc := 15) (zDk zD_106_ok 7 rfl) rfl ?_
    refine E_getR (pc := 16) (ci := 7) (f := 1) (r := 3) (zDk zD_106_ok 8 rfl) zc_106 (by decide +kernel) (by decide) zis_7_0 (by decide +kernel) (by decide) ?_
    refine E_getR (pc := 19) (ci := 6) (f := 17) (r := 12) (zDk zD_106_ok 9 rfl) zc_106 (by decide +kernel) (by decide) zis_6_3 (by decide +kernel) (by decide) ?_
    refine E_iload_n (pc := 22) (zDk zD_106_ok 10 rfl) rfl ?_
    obtain ⟨v23, e23, h⟩ := zS_bind h
    refine E_iaload (pc := 23) (zDk zD_106_ok 11 rfl) e23 ?_
    obtain ⟨v24, e24, h⟩ := zS_bind h
    refine E_virI (pc := 24) (c := 29) (r := 29) (as := [.inl v23]) (rest := []) (zDk zD_106_ok 12 rfl) zc_106 (by decide +kernel) zk_29 ⟨(Nat.le_of_ble_eq_true rfl), rfl, rfl⟩ (Nat.le_of_ble_eq_true rfl) (zr_29 _) (Nat.lt_of_lt_of_le (by decide) hq) (by rw [zm_29]; exact (Nat.le_of_ble_eq_true rfl)) ⟨zc_29, by decide⟩ zis_1_29 (ok_lD_firstTogether ⟨v24, e24, ?_⟩)
    refine E_goto (pc := 27) (t := 32) (zDk zD_106_ok 13 rfl) rfl ?_
    have h := zS_some h
    exact E_ireturn (pc := 32) (zDk zD_106_ok 15 rfl) zt_106 h
def zD_107 : List (Nat × Instr × Nat) := [(0, .aload_n (0), 1), (1, .getfield (19), 3), (4, .invokevirtual (194), 3), (7, .ifCond .ne (6), 3), (10, .bipush (-2), 2), (12, .ireturn, 1), (13, .aload_n (0), 1), (14, .getfield (38), 3), (17, .bipush (31), 2), (19, .invokevirtual (153), 3), (22, .istore_n (1), 1), (23, .iload_n (1), 1), (24, .iconst (-1), 1), (25, .if_icmp .ne (7), 3), (28, .iconst (-1), 1), (29, .goto (11), 3), (32, .aload_n (0), 1), (33, .getfield (38), 3), (36, .iload_n (1), 1), (37, .invokevirtual (211), 3), (40, .ireturn, 1)]
set_option maxRecDepth 100000 in
theorem zD_107_ok : zDo 107 zD_107 = true := by decide +kernel
theorem zc_107 : zcls 107 = 7 := by decide +kernel
theorem zm_107 : zml 107 = 2 := by decide +kernel
theorem zt_107 : zrt 107 = (some (.int)) := by decide +kernel
theorem zk_107 : zkd 107 = 1 ∧ znp 107 + 1 = 1 := by decide +kernel
theorem zr_107 (as : List zV) : zrk 107 as = 2 := by unfold zrk; rw [if_neg (by decide)]; decide +kernel
def lX_thirst (M : Nat → Nat → Int) : Option Int :=
    ((lT_isThere 3 M).bind (fun v4 =>
    (if v4 = 0 then
    (some (-2 : Int))
    else
    ((lD_firstDry 29 (31 : Int) M).bind (fun v19 =>
    (if v19 = (-1 : Int) then
    (some (-1 : Int))
    else
    ((lD_leastDry 29 v19 M).bind (fun v37 =>
    (some v37)))))))))
set_option maxRecDepth 100000 in
theorem ok_lX_thirst {sc : zSc} {M : Nat → Nat → Int} {P : Int → (Nat → Nat → Int) → Prop} (h : zS (lX_thirst M) (fun x => P x M)) : zCi sc 107 [.inr (.inr 0)] M P := by
  have ea : zarg (zml 107) [.inr (.inr 0)] = [some (.inr (.inr 0)), none] := by rw [zm_107]; rfl
  unfold zCi zCw
  rw [ea, zr_107]
  have hq : 2 ≤ 2 := Nat.le_refl _
  unfold lX_thirst at h
  have h := zS_mono h (fun x hx => (⟨x, rfl, hx⟩ : ∃ y, (some (.inl x) : Option zV) = some (.inl y) ∧ P y M))
  skip
  refine E_aload_n (pc := 0) (zDk zD_107_ok 0 rfl) rfl ?_
  refine E_getR (pc := 1) (ci := 7) (f := 1) (r := 3) (zDk zD_107_ok 1 rfl) zc_107 (by decide +kernel) (by decide) zis_7_0 (by decide +kernel) (by decide) ?_
  obtain ⟨v4, e4, h⟩ := zS_bind h
  refine E_virI (pc := 4) (c := 69) (r := 3) (as := []) (rest := []) (zDk zD_107_ok 2 rfl) zc_107 (by decide +kernel) zk_69 ⟨(Nat.le_of_ble_eq_true rfl), rfl, rfl⟩ (Nat.le_of_ble_eq_true rfl) (zr_69 _) (Nat.lt_of_lt_of_le (by decide) hq) (by rw [zm_69]; exact (Nat.le_of_ble_eq_true rfl)) ⟨zc_69, by decide⟩ zis_6_3 (ok_lT_isThere ⟨v4, e4, ?_⟩)
  refine E_if (pc := 7) (t := 13) (zDk zD_107_ok 3 rfl) rfl (fun hz => ?_) (fun hz => ?_)
  · have h := zS_f h (T_ne hz)
    refine E_aload_n (pc := 13) (zDk zD_107_ok 6 rfl) rfl ?_
    refine E_getR (pc := 14) (ci := 7) (f := 4) (r := 29) (zDk zD_107_ok 7 rfl) zc_107 (by decide +kernel) (by decide) zis_7_0 (by decide +kernel) (by decide) ?_
    refine E_bipush (pc := 17) (zDk zD_107_ok 8 rfl) (by decide +kernel) ?_
    obtain ⟨v19, e19, h⟩ := zS_bind h
    refine E_virI (pc := 19) (c := 21) (r := 29) (as := [.inl (31 : Int)]) (rest := []) (zDk zD_107_ok 9 rfl) zc_107 (by decide +kernel) zk_21 ⟨(Nat.le_of_ble_eq_true rfl), rfl, rfl⟩ (Nat.le_of_ble_eq_true rfl) (zr_21 _) (Nat.lt_of_lt_of_le (by decide) hq) (by rw [zm_21]; exact (Nat.le_of_ble_eq_true rfl)) ⟨zc_21, by decide⟩ zis_1_29 (ok_lD_firstDry ⟨v19, e19, ?_⟩)
    refine W_istore_n (pc := 22) (L' := [some (.inr (.inr 0)), some (.inl v19)]) (zDk zD_107_ok 10 rfl) zm_107 (by decide) rfl ?_
    refine E_iload_n (pc := 23) (zDk zD_107_ok 11 rfl) rfl ?_
    refine E_iconst (pc := 24) (zDk zD_107_ok 12 rfl) (by decide +kernel) ?_
    refine E_icmp (pc := 25) (t := 32) (zDk zD_107_ok 13 rfl) rfl (fun hz => ?_) (fun hz => ?_)
    · have h := zS_f h (T_ne hz)
      refine E_aload_n (pc := 32) (zDk zD_107_ok 16 rfl) rfl ?_
      refine E_getR (pc := 33) (ci := 7) (f := 4) (r := 29) (zDk zD_107_ok 17 rfl) zc_107 (by decide +kernel) (by decide) zis_7_0 (by decide +kernel) (by decide) ?_
      refine E_iload_n (pc := 36) (zDk zD_107_ok 18 rfl) rfl ?_
      obtain ⟨v37, e37, h⟩ := zS_bind h
      refine E_virI (pc := 37) (c := 22) (r := 29) (as := [.inl v19]) (rest := []) (zDk zD_107_ok 19 rfl) zc_107 (by decide +kernel) zk_22 ⟨(Nat.le_of_ble_eq_true rfl), rfl, rfl⟩ (Nat.le_of_ble_eq_true rfl) (zr_22 _) (Nat.lt_of_lt_of_le (by decide) hq) (by rw [zm_22]; exact (Nat.le_of_ble_eq_true rfl)) ⟨zc_22, by decide⟩ zis_1_29 (ok_lD_leastDry ⟨v37, e37, ?_⟩)
      have h := zS_some h
      exact E_ireturn (pc := 40) (zDk zD_107_ok 20 rfl) zt_107 h
    · have h := zS_t h (F_ne hz)
      refine E_iconst (pc := 28) (zDk zD_107_ok 14 rfl) (by decide +kernel) ?_
      refine E_goto (pc := 29) (t := 40) (zDk zD_107_ok 15 rfl) rfl ?_
      have h := zS_some h
      exact E_ireturn (pc := 40) (zDk zD_107_ok 20 rfl) zt_107 h
  · have h := zS_t h (F_ne hz)
    refine E_bipush (pc := 10) (zDk zD_107_ok 4 rfl) (by decide +kernel) ?_
    have h := zS_some h
    exact E_ireturn (pc := 12) (zDk zD_107_ok 5 rfl) zt_107 h
def zD_108 : List (Nat × Instr × Nat) := [(0, .aload_n (0), 1), (1, .getfield (19), 3), (4, .iload_n (1), 1), (5, .invokevirtual (106), 3), (8, .ifCond .eq (14), 3), (11, .aload_n (0), 1), (12, .getfield (19), 3), (15, .iload_n (2), 1), (16, .invokevirtual (106), 3), (19, .ifCond .ne (6), 3), (22, .bipush (-2), 2), (24, .ireturn, 1), (25, .aload_n (0), 1), (26, .getfield (38), 3), (29, .getfield (214), 3), (32, .iload_n (1), 1), (33, .iload_n (2), 1), (34, .invokevirtual (218), 3), (37, .ireturn, 1)]
set_option maxRecDepth 100000 in
theorem zD_108_ok : zDo 108 zD_108 = true := by decide +kernel
theorem zc_108 : zcls 108 = 7 := by decide +kernel
theorem zm_108 : zml 108 = 3 := by decide +kernel
theorem zt_108 : zrt 108 = (some (.int)) := by decide +kernel
theorem zk_108 : zkd 108 = 1 ∧ znp 108 + 1 = 3 := by decide +kernel
theorem zr_108 (as : List zV) : zrk 108 as = 2 := by unfold zrk; rw [if_neg (by decide)]; decide +kernel
def lX_way (x1 : Int) (x2 : Int) (M : Nat → Nat → Int) : Option Int :=
    ((lT_hasCorner 3 x1 M).bind (fun v5 =>
    (if v5 = 0 then
    (some (-2 : Int))
    else
    ((lT_hasCorner 3 x2 M).bind (fun v16 =>
    (if v16 = 0 then
    (some (-2 : Int))
    else
    ((lN_distance 30 x1 x2 M).bind (fun v34 =>
    (some v34)))))))))
set_option maxRecDepth 100000 in
theorem ok_lX_way {sc : zSc} {x1 : Int} {x2 : Int} {M : Nat → Nat → Int} {P : Int → (Nat → Nat → Int) → Prop} (h : zS (lX_way x1 x2 M) (fun x => P x M)) : zCi sc 108 [.inr (.inr 0), .inl x1, .inl x2] M P := by
  have ea : zarg (zml 108) [.inr (.inr 0), .inl x1, .inl x2] = [some (.inr (.inr 0)), some (.inl x1), some (.inl x2)] := by rw [zm_108]; rfl
  unfold zCi zCw
  rw [ea, zr_108]
  have hq : 2 ≤ 2 := Nat.le_refl _
  unfold lX_way at h
  have h := zS_mono h (fun x hx => (⟨x, rfl, hx⟩ : ∃ y, (some (.inl x) : Option zV) = some (.inl y) ∧ P y M))
  skip
  refine E_aload_n (pc := 0) (zDk zD_108_ok 0 rfl) rfl ?_
  refine E_getR (pc := 1) (ci := 7) (f := 1) (r := 3) (zDk zD_108_ok 1 rfl) zc_108 (by decide +kernel) (by decide) zis_7_0 (by decide +kernel) (by decide) ?_
  refine E_iload_n (pc := 4) (zDk zD_108_ok 2 rfl) rfl ?_
  obtain ⟨v5, e5, h⟩ := zS_bind h
  refine E_virI (pc := 5) (c := 70) (r := 3) (as := [.inl x1]) (rest := []) (zDk zD_108_ok 3 rfl) zc_108 (by decide +kernel) zk_70 ⟨(Nat.le_of_ble_eq_true rfl), rfl, rfl⟩ (Nat.le_of_ble_eq_true rfl) (zr_70 _) (Nat.lt_of_lt_of_le (by decide) hq) (by rw [zm_70]; exact (Nat.le_of_ble_eq_true rfl)) ⟨zc_70, by decide⟩ zis_6_3 (ok_lT_hasCorner ⟨v5, e5, ?_⟩)
  refine E_if (pc := 8) (t := 22) (zDk zD_108_ok 4 rfl) rfl (fun hz => ?_) (fun hz => ?_)
  · have h := zS_t h (T_eq hz)
    refine E_bipush (pc := 22) (zDk zD_108_ok 10 rfl) (by decide +kernel) ?_
    have h := zS_some h
    exact E_ireturn (pc := 24) (zDk zD_108_ok 11 rfl) zt_108 h
  · have h := zS_f h (F_eq hz)
    refine E_aload_n (pc := 11) (zDk zD_108_ok 5 rfl) rfl ?_
    refine E_getR (pc := 12) (ci := 7) (f := 1) (r := 3) (zDk zD_108_ok 6 rfl) zc_108 (by decide +kernel) (by decide) zis_7_0 (by decide +kernel) (by decide) ?_
    refine E_iload_n (pc := 15) (zDk zD_108_ok 7 rfl) rfl ?_
    obtain ⟨v16, e16, h⟩ := zS_bind h
    refine E_virI (pc := 16) (c := 70) (r := 3) (as := [.inl x2]) (rest := []) (zDk zD_108_ok 8 rfl) zc_108 (by decide +kernel) zk_70 ⟨(Nat.le_of_ble_eq_true rfl), rfl, rfl⟩ (Nat.le_of_ble_eq_true rfl) (zr_70 _) (Nat.lt_of_lt_of_le (by decide) hq) (by rw [zm_70]; exact (Nat.le_of_ble_eq_true rfl)) ⟨zc_70, by decide⟩ zis_6_3 (ok_lT_hasCorner ⟨v16, e16, ?_⟩)
    refine E_if (pc := 19) (t := 25) (zDk zD_108_ok 9 rfl) rfl (fun hz => ?_) (fun hz => ?_)
    · have h := zS_f h (T_ne hz)
      refine E_aload_n (pc := 25) (zDk zD_108_ok 12 rfl) rfl ?_
      refine E_getR (pc := 26) (ci := 7) (f := 4) (r := 29) (zDk zD_108_ok 13 rfl) zc_108 (by decide +kernel) (by decide) zis_7_0 (by decide +kernel) (by decide) ?_
      refine E_getR (pc := 29) (ci := 1) (f := 2) (r := 30) (zDk zD_108_ok 14 rfl) zc_108 (by decide +kernel) (by decide) zis_1_29 (by decide +kernel) (by decide) ?_
      refine E_iload_n (pc := 32) (zDk zD_108_ok 15 rfl) rfl ?_
      refine E_iload_n (pc := 33) (zDk zD_108_ok 16 rfl) rfl ?_
      obtain ⟨v34, e34, h⟩ := zS_bind h
      refine E_virI (pc := 34) (c := 40) (r := 30) (as := [.inl x1, .inl x2]) (rest := []) (zDk zD_108_ok 17 rfl) zc_108 (by decide +kernel) zk_40 ⟨(Nat.le_of_ble_eq_true rfl), rfl, rfl⟩ (Nat.le_of_ble_eq_true rfl) (zr_40 _) (Nat.lt_of_lt_of_le (by decide) hq) (by rw [zm_40]; exact (Nat.le_of_ble_eq_true rfl)) ⟨zc_40, by decide⟩ zis_3_30 (ok_lN_distance ⟨v34, e34, ?_⟩)
      have h := zS_some h
      exact E_ireturn (pc := 37) (zDk zD_108_ok 18 rfl) zt_108 h
    · have h := zS_t h (F_ne hz)
      refine E_bipush (pc := 22) (zDk zD_108_ok 10 rfl) (by decide +kernel) ?_
      have h := zS_some h
      exact E_ireturn (pc := 24) (zDk zD_108_ok 11 rfl) zt_108 h
def zD_109 : List (Nat × Instr × Nat) := [(0, .aload_n (0), 1), (1, .getfield (19), 3), (4, .iload_n (1), 1), (5, .invokevirtual (106), 3), (8, .ifCond .eq (19), 3), (11, .aload_n (0), 1), (12, .getfield (38), 3), (15, .getfield (214), 3), (18, .iload_n (1), 1), (19, .bipush (8), 2), (21, .invokevirtual (223), 3), (24, .goto (5), 3), (27, .bipush (-2), 2), (29, .ireturn, 1)]
set_option maxRecDepth 100000 in
theorem zD_109_ok : zDo 109 zD_109 = true := by decide +kernel
theorem zc_109 : zcls 109 = 7 := by decide +kernel
theorem zm_109 : zml 109 = 2 := by decide +kernel
theorem zt_109 : zrt 109 = (some (.int)) := by decide +kernel
theorem zk_109 : zkd 109 = 1 ∧ znp 109 + 1 = 2 := by decide +kernel
theorem zr_109 (as : List zV) : zrk 109 as = 2 := by unfold zrk; rw [if_neg (by decide)]; decide +kernel
def lX_reach (x1 : Int) (M : Nat → Nat → Int) : Option Int :=
    ((lT_hasCorner 3 x1 M).bind (fun v5 =>
    (if v5 = 0 then
    (some (-2 : Int))
    else
    ((lN_within 30 x1 (8 : Int) M).bind (fun v21 =>
    (some v21))))))
set_option maxRecDepth 100000 in
theorem ok_lX_reach {sc : zSc} {x1 : Int} {M : Nat → Nat → Int} {P : Int → (Nat → Nat → Int) → Prop} (h : zS (lX_reach x1 M) (fun x => P x M)) : zCi sc 109 [.inr (.inr 0), .inl x1] M P := by
  have ea : zarg (zml 109) [.inr (.inr 0), .inl x1] = [some (.inr (.inr 0)), some (.inl x1)] := by rw [zm_109]; rfl
  unfold zCi zCw
  rw [ea, zr_109]
  have hq : 2 ≤ 2 := Nat.le_refl _
  unfold lX_reach at h
  have h := zS_mono h (fun x hx => (⟨x, rfl, hx⟩ : ∃ y, (some (.inl x) : Option zV) = some (.inl y) ∧ P y M))
  skip
  refine E_aload_n (pc := 0) (zDk zD_109_ok 0 rfl) rfl ?_
  refine E_getR (pc := 1) (ci := 7) (f := 1) (r := 3) (zDk zD_109_ok 1 rfl) zc_109 (by decide +kernel) (by decide) zis_7_0 (by decide +kernel) (by decide) ?_
  refine E_iload_n (pc := 4) (zDk zD_109_ok 2 rfl) rfl ?_
  obtain ⟨v5, e5, h⟩ := zS_bind h
  refine E_virI (pc := 5) (c := 70) (r := 3) (as := [.inl x1]) (rest := []) (zDk zD_109_ok 3 rfl) zc_109 (by decide +kernel) zk_70 ⟨(Nat.le_of_ble_eq_true rfl), rfl, rfl⟩ (Nat.le_of_ble_eq_true rfl) (zr_70 _) (Nat.lt_of_lt_of_le (by decide) hq) (by rw [zm_70]; exact (Nat.le_of_ble_eq_true rfl)) ⟨zc_70, by decide⟩ zis_6_3 (ok_lT_hasCorner ⟨v5, e5, ?_⟩)
  refine E_if (pc := 8) (t := 27) (zDk zD_109_ok 4 rfl) rfl (fun hz => ?_) (fun hz => ?_)
  · have h := zS_t h (T_eq hz)
    refine E_bipush (pc := 27) (zDk zD_109_ok 12 rfl) (by decide +kernel) ?_
    have h := zS_some h
    exact E_ireturn (pc := 29) (zDk zD_109_ok 13 rfl) zt_109 h
  · have h := zS_f h (F_eq hz)
    refine E_aload_n (pc := 11) (zDk zD_109_ok 5 rfl) rfl ?_
    refine E_getR (pc := 12) (ci := 7) (f := 4) (r := 29) (zDk zD_109_ok 6 rfl) zc_109 (by decide +kernel) (by decide) zis_7_0 (by decide +kernel) (by decide) ?_
    refine E_getR (pc := 15) (ci := 1) (f := 2) (r := 30) (zDk zD_109_ok 7 rfl) zc_109 (by decide +kernel) (by decide) zis_1_29 (by decide +kernel) (by decide) ?_
    refine E_iload_n (pc := 18) (zDk zD_109_ok 8 rfl) rfl ?_
    refine E_bipush (pc := 19) (zDk zD_109_ok 9 rfl) (by decide +kernel) ?_
    obtain ⟨v21, e21, h⟩ := zS_bind h
    refine E_virI (pc := 21) (c := 39) (r := 30) (as := [.inl x1, .inl (8 : Int)]) (rest := []) (zDk zD_109_ok 10 rfl) zc_109 (by decide +kernel) zk_39 ⟨(Nat.le_of_ble_eq_true rfl), rfl, rfl⟩ (Nat.le_of_ble_eq_true rfl) (zr_39 _) (Nat.lt_of_lt_of_le (by decide) hq) (by rw [zm_39]; exact (Nat.le_of_ble_eq_true rfl)) ⟨zc_39, by decide⟩ zis_3_30 (ok_lN_within ⟨v21, e21, ?_⟩)
    refine E_goto (pc := 24) (t := 29) (zDk zD_109_ok 11 rfl) rfl ?_
    have h := zS_some h
    exact E_ireturn (pc := 29) (zDk zD_109_ok 13 rfl) zt_109 h
def zD_124 : List (Nat × Instr × Nat) := [(0, .aload_n (0), 1), (1, .iload_n (1), 1), (2, .invokevirtual (275), 3), (5, .ireturn, 1)]
set_option maxRecDepth 100000 in
theorem zD_124_ok : zDo 124 zD_124 = true := by decide +kernel
theorem zc_124 : zcls 124 = 7 := by decide +kernel
theorem zm_124 : zml 124 = 2 := by decide +kernel
theorem zt_124 : zrt 124 = (some (.int)) := by decide +kernel
theorem zk_124 : zkd 124 = 1 ∧ znp 124 + 1 = 2 := by decide +kernel
theorem zr_124 (as : List zV) : zrk 124 as = 2 := by unfold zrk; rw [if_neg (by decide)]; decide +kernel
def lX_sniffs (x1 : Int) (M : Nat → Nat → Int) : Option Int :=
    ((lX_possibleForged x1 M).bind (fun v2 =>
    (some v2)))
set_option maxRecDepth 100000 in
theorem ok_lX_sniffs {sc : zSc} {x1 : Int} {M : Nat → Nat → Int} {P : Int → (Nat → Nat → Int) → Prop} (h : zS (lX_sniffs x1 M) (fun x => P x M)) : zCi sc 124 [.inr (.inr 0), .inl x1] M P := by
  have ea : zarg (zml 124) [.inr (.inr 0), .inl x1] = [some (.inr (.inr 0)), some (.inl x1)] := by rw [zm_124]; rfl
  unfold zCi zCw
  rw [ea, zr_124]
  have hq : 2 ≤ 2 := Nat.le_refl _
  unfold lX_sniffs at h
  have h := zS_mono h (fun x hx => (⟨x, rfl, hx⟩ : ∃ y, (some (.inl x) : Option zV) = some (.inl y) ∧ P y M))
  skip
  refine E_aload_n (pc := 0) (zDk zD_124_ok 0 rfl) rfl ?_
  refine E_iload_n (pc := 1) (zDk zD_124_ok 1 rfl) rfl ?_
  obtain ⟨v2, e2, h⟩ := zS_bind h
  refine E_virI (pc := 2) (c := 162) (r := 0) (as := [.inl x1]) (rest := []) (zDk zD_124_ok 2 rfl) zc_124 (by decide +kernel) zk_162 ⟨(Nat.le_of_ble_eq_true rfl), rfl, rfl⟩ (Nat.le_of_ble_eq_true rfl) (zr_162 _) (Nat.lt_of_lt_of_le (by decide) hq) (by rw [zm_162]; exact (Nat.le_of_ble_eq_true rfl)) ⟨zc_162, by decide⟩ zis_7_0 (ok_lX_possibleForged ⟨v2, e2, ?_⟩)
  have h := zS_some h
  exact E_ireturn (pc := 5) (zDk zD_124_ok 3 rfl) zt_124 h
def zD_125 : List (Nat × Instr × Nat) := [(0, .aload_n (0), 1), (1, .iload_n (1), 1), (2, .invokevirtual (275), 3), (5, .istore_n (2), 1), (6, .iload_n (2), 1), (7, .ifCond .ge (5), 3), (10, .iload_n (2), 1), (11, .ireturn, 1), (12, .iconst (-1), 1), (13, .istore_n (3), 1), (14, .iload_n (2), 1), (15, .invokestatic (183), 3), (18, .istore (4), 2), (20, .iconst (2), 1), (21, .istore (5), 2), (23, .iload (5), 2), (25, .bipush (9), 2), (27, .if_icmp .gt (32), 3), (30, .aload_n (0), 1), (31, .iload_n (2), 1), (32, .iload (5), 2), (34, .invokevirtual (278), 3), (37, .istore (6), 2), (39, .iload (6), 2), (41, .iload (4), 2), (43, .if_icmp .ge (10), 3), (46, .iload (5), 2), (48, .istore_n (3), 1), (49, .iload (6), 2), (51, .istore (4), 2), (53, .iinc (5) (1), 3), (56, .goto (-33), 3), (59, .iload_n (3), 1), (60, .ireturn, 1)]
set_option maxRecDepth 100000 in
theorem zD_125_ok : zDo 125 zD_125 = true := by decide +kernel
theorem zc_125 : zcls 125 = 7 := by decide +kernel
theorem zm_125 : zml 125 = 7 := by decide +kernel
theorem zt_125 : zrt 125 = (some (.int)) := by decide +kernel
theorem zk_125 : zkd 125 = 1 ∧ znp 125 + 1 = 2 := by decide +kernel
theorem zr_125 (as : List zV) : zrk 125 as = 2 := by unfold zrk; rw [if_neg (by decide)]; decide +kernel
def lX_next_c23 (x1 : Int) (M : Nat → Nat → Int) : Nat → Int → Int → Int → Int → Option Int
  | 0, _, _, _, _ => none
  | n + 1, y2, y3, y4, y5 =>
    (if (9 : Int) < y5 then
    (some y3)
    else
    ((lX_forgedLeft y2 y5 M).bind (fun v34 =>
    (if v34 < y4 then
    ((lX_next_c23 x1 M n) y2 y5 v34 (w32 (y5 + 1)))
    else
    ((lX_next_c23 x1 M n) y2 y3 y4 (w32 (y5 + 1)))))))
set_option maxRecDepth 100000 in
theorem ok_lX_next_c23 {sc : zSc} {q : Nat} {P : Option zV → (Nat → Nat → Int) → Prop} (hq : 2 ≤ q) (x1 : Int) (M : Nat → Nat → Int) : ∀ (n : Nat) (y2 : Int) (y3 : Int) (y4 : Int) (y5 : Int) (d6 : Option zV), zS (lX_next_c23 x1 M n y2 y3 y4 y5) (fun x => P (some (.inl x)) M) → zWp sc q 125 23 [some (.inr (.inr 0)), some (.inl x1), some (.inl y2), some (.inl y3), some (.inl y4), some (.inl y5), d6] [] M P := by
  intro n
  induction n with
  | zero => intro y2 y3 y4 y5 d6 h; exact (zS_none h).elim
  | succ n ih =>
    intro y2 y3 y4 y5 d6 h
    rw [lX_next_c23] at h
    refine E_iload (pc := 23) (zDk zD_125_ok 15 rfl) rfl ?_
    refine E_bipush (pc := 25) (zDk zD_125_ok 16 rfl) (by decide +kernel) ?_
    refine E_icmp (pc := 27) (t := 59) (zDk zD_125_ok 17 rfl) rfl (fun hz => ?_) (fun hz => ?_)
    · have h := zS_t h (T_gt hz)
      refine E_iload_n (pc := 59) (zDk zD_125_ok 32 rfl) rfl ?_
      have h := zS_some h
      exact E_ireturn (pc := 60) (zDk zD_125_ok 33 rfl) zt_125 h
    · have h := zS_f h (Int.not_lt.mpr (F_gt hz))
      refine E_aload_n (pc := 30) (zDk zD_125_ok 18 rfl) rfl ?_
      refine E_iload_n (pc := 31) (zDk zD_125_ok 19 rfl) rfl ?_
      refine E_iload (pc := 32) (zDk zD_125_ok 20 rfl) rfl ?_
      obtain ⟨v34, e34, h⟩ := zS_bind h
      refine E_virI (pc := 34) (c := 164) (r := 0) (as := [.inl y2, .inl y5]) (rest := []) (zDk zD_125_ok 21 rfl) zc_125 (by decide +kernel) zk_164 ⟨(Nat.le_of_ble_eq_true rfl), rfl, rfl⟩ (Nat.le_of_ble_eq_true rfl) (zr_164 _) (Nat.lt_of_lt_of_le (by decide) hq) (by rw [zm_164]; exact (Nat.le_of_ble_eq_true rfl)) ⟨zc_164, by decide⟩ zis_7_0 (ok_lX_forgedLeft ⟨v34, e34, ?_⟩)
      refine W_istore (pc := 37) (L' := [some (.inr (.inr 0)), some (.inl x1), some (.inl y2), some (.inl y3), some (.inl y4), some (.inl y5), some (.inl v34)]) (zDk zD_125_ok 22 rfl) zm_125 (by decide) rfl ?_
      refine E_iload (pc := 39) (zDk zD_125_ok 23 rfl) rfl ?_
      refine E_iload (pc := 41) (zDk zD_125_ok 24 rfl) rfl ?_
      refine E_icmp (pc := 43) (t := 53) (zDk zD_125_ok 25 rfl) rfl (fun hz => ?_) (fun hz => ?_)
      · have h := zS_f h (Int.not_lt.mpr (T_ge hz))
        refine W_iinc (pc := 53) (L' := [some (.inr (.inr 0)), some (.inl x1), some (.inl y2), some (.inl y3), some (.inl y4), some (.inl (w32 (y5 + 1))), some (.inl v34)]) (zDk zD_125_ok 30 rfl) rfl zm_125 (by decide) rfl ?_
        refine E_goto (pc := 56) (t := 23) (zDk zD_125_ok 31 rfl) rfl ?_
        exact (ih) y2 y3 y4 (w32 (y5 + 1)) (some (.inl v34)) h
      · have h := zS_t h (F_ge hz)
        refine E_iload (pc := 46) (zDk zD_125_ok 26 rfl) rfl ?_
        refine W_istore_n (pc := 48) (L' := [some (.inr (.inr 0)), some (.inl x1), some (.inl y2), some (.inl y5), some (.inl y4), some (.inl y5), some (.inl v34)]) (zDk zD_125_ok 27 rfl) zm_125 (by decide) rfl ?_
        refine E_iload (pc := 49) (zDk zD_125_ok 28 rfl) rfl ?_
        refine W_istore (pc := 51) (L' := [some (.inr (.inr 0)), some (.inl x1), some (.inl y2), some (.inl y5), some (.inl v34), some (.inl y5), some (.inl v34)]) (zDk zD_125_ok 29 rfl) zm_125 (by decide) rfl ?_
        refine W_iinc (pc := 53) (L' := [some (.inr (.inr 0)), some (.inl x1), some (.inl y2), some (.inl y5), some (.inl v34), some (.inl (w32 (y5 + 1))), some (.inl v34)]) (zDk zD_125_ok 30 rfl) rfl zm_125 (by decide) rfl ?_
        refine E_goto (pc := 56) (t := 23) (zDk zD_125_ok 31 rfl) rfl ?_
        exact (ih) y2 y5 v34 (w32 (y5 + 1)) (some (.inl v34)) h
def lX_next (x1 : Int) (M : Nat → Nat → Int) : Option Int :=
    ((lX_possibleForged x1 M).bind (fun v2 =>
    (if v2 < 0 then
    (some v2)
    else
    ((lJ_bitCount v2 M).bind (fun v15 =>
    (lX_next_c23 x1 M zN v2 (-1 : Int) v15 (2 : Int)))))))
set_option maxRecDepth 100000 in
theorem ok_lX_next {sc : zSc} {x1 : Int} {M : Nat → Nat → Int} {P : Int → (Nat → Nat → Int) → Prop} (h : zS (lX_next x1 M) (fun x => P x M)) : zCi sc 125 [.inr (.inr 0), .inl x1] M P := by
  have ea : zarg (zml 125) [.inr (.inr 0), .inl x1] = [some (.inr (.inr 0)), some (.inl x1), none, none, none, none, none] := by rw [zm_125]; rfl
  unfold zCi zCw
  rw [ea, zr_125]
  have hq : 2 ≤ 2 := Nat.le_refl _
  unfold lX_next at h
  have h := zS_mono h (fun x hx => (⟨x, rfl, hx⟩ : ∃ y, (some (.inl x) : Option zV) = some (.inl y) ∧ P y M))
  skip
  refine E_aload_n (pc := 0) (zDk zD_125_ok 0 rfl) rfl ?_
  refine E_iload_n (pc := 1) (zDk zD_125_ok 1 rfl) rfl ?_
  obtain ⟨v2, e2, h⟩ := zS_bind h
  refine E_virI (pc := 2) (c := 162) (r := 0) (as := [.inl x1]) (rest := []) (zDk zD_125_ok 2 rfl) zc_125 (by decide +kernel) zk_162 ⟨(Nat.le_of_ble_eq_true rfl), rfl, rfl⟩ (Nat.le_of_ble_eq_true rfl) (zr_162 _) (Nat.lt_of_lt_of_le (by decide) hq) (by rw [zm_162]; exact (Nat.le_of_ble_eq_true rfl)) ⟨zc_162, by decide⟩ zis_7_0 (ok_lX_possibleForged ⟨v2, e2, ?_⟩)
  refine W_istore_n (pc := 5) (L' := [some (.inr (.inr 0)), some (.inl x1), some (.inl v2), none, none, none, none]) (zDk zD_125_ok 3 rfl) zm_125 (by decide) rfl ?_
  refine E_iload_n (pc := 6) (zDk zD_125_ok 4 rfl) rfl ?_
  refine E_if (pc := 7) (t := 12) (zDk zD_125_ok 5 rfl) rfl (fun hz => ?_) (fun hz => ?_)
  · have h := zS_f h (Int.not_lt.mpr (T_ge hz))
    refine E_iconst (pc := 12) (zDk zD_125_ok 8 rfl) (by decide +kernel) ?_
    refine W_istore_n (pc := 13) (L' := [some (.inr (.inr 0)), some (.inl x1), some (.inl v2), some (.inl (-1 : Int)), none, none, none]) (zDk zD_125_ok 9 rfl) zm_125 (by decide) rfl ?_
    refine E_iload_n (pc := 14) (zDk zD_125_ok 10 rfl) rfl ?_
    obtain ⟨v15, e15, h⟩ := zS_bind h
    refine E_staI (pc := 15) (c := 321) (as := [.inl v2]) (rest := []) (zDk zD_125_ok 11 rfl) zc_125 (by decide +kernel) (by decide +kernel) zk_321 ⟨(Nat.le_of_ble_eq_true rfl), rfl, rfl⟩ (Nat.le_of_ble_eq_true rfl) (zr_321 _) (Nat.lt_of_lt_of_le (by decide) hq) (by rw [zm_321]; exact (Nat.le_of_ble_eq_true rfl)) (ok_lJ_bitCount ⟨v15, e15, ?_⟩)
    refine W_istore (pc := 18) (L' := [some (.inr (.inr 0)), some (.inl x1), some (.inl v2), some (.inl (-1 : Int)), some (.inl v15), none, none]) (zDk zD_125_ok 12 rfl) zm_125 (by decide) rfl ?_
    refine E_iconst (pc := 20) (zDk zD_125_ok 13 rfl) (by decide +kernel) ?_
    refine W_istore (pc := 21) (L' := [some (.inr (.inr 0)), some (.inl x1), some (.inl v2), some (.inl (-1 : Int)), some (.inl v15), some (.inl (2 : Int)), none]) (zDk zD_125_ok 14 rfl) zm_125 (by decide) rfl ?_
    exact ok_lX_next_c23 hq x1 M zN v2 (-1 : Int) v15 (2 : Int) none h
  · have h := zS_t h (F_ge hz)
    refine E_iload_n (pc := 10) (zDk zD_125_ok 6 rfl) rfl ?_
    have h := zS_some h
    exact E_ireturn (pc := 11) (zDk zD_125_ok 7 rfl) zt_125 h
def zD_127 : List (Nat × Instr × Nat) := [(0, .aload_n (0), 1), (1, .getfield (19), 3), (4, .iload_n (1), 1), (5, .invokevirtual (112), 3), (8, .ifCond .eq (12), 3), (11, .iload_n (2), 1), (12, .ifCond .lt (8), 3), (15, .iload_n (2), 1), (16, .iconst (1), 1), (17, .if_icmp .le (6), 3), (20, .bipush (-2), 2), (22, .ireturn, 1), (23, .aload_n (0), 1), (24, .iload_n (1), 1), (25, .invokevirtual (287), 3), (28, .i2l, 1), (29, .ldc2_w (290), 3), (32, .iload_n (2), 1), (33, .invokestatic (292), 3), (36, .l2i, 1), (37, .ireturn, 1)]
set_option maxRecDepth 100000 in
theorem zD_127_ok : zDo 127 zD_127 = true := by decide +kernel
theorem zc_127 : zcls 127 = 7 := by decide +kernel
theorem zm_127 : zml 127 = 3 := by decide +kernel
theorem zt_127 : zrt 127 = (some (.int)) := by decide +kernel
theorem zk_127 : zkd 127 = 1 ∧ znp 127 + 1 = 3 := by decide +kernel
theorem zr_127 (as : List zV) : zrk 127 as = 2 := by unfold zrk; rw [if_neg (by decide)]; decide +kernel
def lX_share (x1 : Int) (x2 : Int) (M : Nat → Nat → Int) : Option Int :=
    ((lT_hasName 3 x1 M).bind (fun v5 =>
    (if v5 = 0 then
    (some (-2 : Int))
    else
    (if x2 < 0 then
    (some (-2 : Int))
    else
    (if (1 : Int) < x2 then
    (some (-2 : Int))
    else
    ((lX_sixthsOfShare x1 M).bind (fun v25 =>
    ((lX_inLowestTerms v25 (6 : Int) x2 M).bind (fun v33 =>
    (some (w32 v33)))))))))))
set_option maxRecDepth 100000 in
theorem ok_lX_share {sc : zSc} {x1 : Int} {x2 : Int} {M : Nat → Nat → Int} {P : Int → (Nat → Nat → Int) → Prop} (h : zS (lX_share x1 x2 M) (fun x => P x M)) : zCi sc 127 [.inr (.inr 0), .inl x1, .inl x2] M P := by
  have ea : zarg (zml 127) [.inr (.inr 0), .inl x1, .inl x2] = [some (.inr (.inr 0)), some (.inl x1), some (.inl x2)] := by rw [zm_127]; rfl
  unfold zCi zCw
  rw [ea, zr_127]
  have hq : 2 ≤ 2 := Nat.le_refl _
  unfold lX_share at h
  have h := zS_mono h (fun x hx => (⟨x, rfl, hx⟩ : ∃ y, (some (.inl x) : Option zV) = some (.inl y) ∧ P y M))
  skip
  refine E_aload_n (pc := 0) (zDk zD_127_ok 0 rfl) rfl ?_
  refine E_getR (pc := 1) (ci := 7) (f := 1) (r := 3) (zDk zD_127_ok 1 rfl) zc_127 (by decide +kernel) (by decide) zis_7_0 (by decide +kernel) (by decide) ?_
  refine E_iload_n (pc := 4) (zDk zD_127_ok 2 rfl) rfl ?_
  obtain ⟨v5, e5, h⟩ := zS_bind h
  refine E_virI (pc := 5) (c := 73) (r := 3) (as := [.inl x1]) (rest := []) (zDk zD_127_ok 3 rfl) zc_127 (by decide +kernel) zk_73 ⟨(Nat.le_of_ble_eq_true rfl), rfl, rfl⟩ (Nat.le_of_ble_eq_true rfl) (zr_73 _) (Nat.lt_of_lt_of_le (by decide) hq) (by rw [zm_73]; exact (Nat.le_of_ble_eq_true rfl)) ⟨zc_73, by decide⟩ zis_6_3 (ok_lT_hasName ⟨v5, e5, ?_⟩)
  refine E_if (pc := 8) (t := 20) (zDk zD_127_ok 4 rfl) rfl (fun hz => ?_) (fun hz => ?_)
  · have h := zS_t h (T_eq hz)
    refine E_bipush (pc := 20) (zDk zD_127_ok 10 rfl) (by decide +kernel) ?_
    have h := zS_some h
    exact E_ireturn (pc := 22) (zDk zD_127_ok 11 rfl) zt_127 h
  · have h := zS_f h (F_eq hz)
    refine E_iload_n (pc := 11) (zDk zD_127_ok 5 rfl) rfl ?_
    refine E_if (pc := 12) (t := 20) (zDk zD_127_ok 6 rfl) rfl (fun hz => ?_) (fun hz => ?_)
    · have h := zS_t h (T_lt hz)
      refine E_bipush (pc := 20) (zDk zD_127_ok 10 rfl) (by decide +kernel) ?_
      have h := zS_some h
      exact E_ireturn (pc := 22) (zDk zD_127_ok 11 rfl) zt_127 h
    · have h := zS_f h (Int.not_lt.mpr (F_lt hz))
      refine E_iload_n (pc := 15) (zDk zD_127_ok 7 rfl) rfl ?_
      refine E_iconst (pc := 16) (zDk zD_127_ok 8 rfl) (by decide +kernel) ?_
      refine E_icmp (pc := 17) (t := 23) (zDk zD_127_ok 9 rfl) rfl (fun hz => ?_) (fun hz => ?_)
      · have h := zS_f h (Int.not_lt.mpr (T_le hz))
        refine E_aload_n (pc := 23) (zDk zD_127_ok 12 rfl) rfl ?_
        refine E_iload_n (pc := 24) (zDk zD_127_ok 13 rfl) rfl ?_
        obtain ⟨v25, e25, h⟩ := zS_bind h
        refine E_virI (pc := 25) (c := 165) (r := 0) (as := [.inl x1]) (rest := []) (zDk zD_127_ok 14 rfl) zc_127 (by decide +kernel) zk_165 ⟨(Nat.le_of_ble_eq_true rfl), rfl, rfl⟩ (Nat.le_of_ble_eq_true rfl) (zr_165 _) (Nat.lt_of_lt_of_le (by decide) hq) (by rw [zm_165]; exact (Nat.le_of_ble_eq_true rfl)) ⟨zc_165, by decide⟩ zis_7_0 (ok_lX_sixthsOfShare ⟨v25, e25, ?_⟩)
        refine E_i2l (pc := 28) (zDk zD_127_ok 15 rfl) ?_
        refine E_ldc2_w (pc := 29) (v := .inr (.inl (6 : Int))) (zDk zD_127_ok 16 rfl) zc_127 (by decide +kernel) ?_
        refine E_iload_n (pc := 32) (zDk zD_127_ok 17 rfl) rfl ?_
        obtain ⟨v33, e33, h⟩ := zS_bind h
        refine E_staL (pc := 33) (c := 170) (as := [.inr (.inl v25), .inr (.inl (6 : Int)), .inl x2]) (rest := []) (zDk zD_127_ok 18 rfl) zc_127 (by decide +kernel) (by decide +kernel) zk_170 ⟨(Nat.le_of_ble_eq_true rfl), rfl, rfl⟩ (Nat.le_of_ble_eq_true rfl) (zr_170 _) (Nat.lt_of_lt_of_le (by decide) hq) (by rw [zm_170]; exact (Nat.le_of_ble_eq_true rfl)) (ok_lX_inLowestTerms ⟨v33, e33, ?_⟩)
        refine E_l2i (pc := 36) (zDk zD_127_ok 19 rfl) ?_
        have h := zS_some h
        exact E_ireturn (pc := 37) (zDk zD_127_ok 20 rfl) zt_127 h
      · have h := zS_t h (F_le hz)
        refine E_bipush (pc := 20) (zDk zD_127_ok 10 rfl) (by decide +kernel) ?_
        have h := zS_some h
        exact E_ireturn (pc := 22) (zDk zD_127_ok 11 rfl) zt_127 h
def zD_139 : List (Nat × Instr × Nat) := [(0, .iload_n (1), 1), (1, .tableswitch (159) (0) (11) #[63, 71, 79, 87, 95, 103, 111, 119, 127, 135, 143, 151], 63), (64, .aload_n (0), 1), (65, .getfield (19), 3), (68, .getfield (244), 3), (71, .ireturn, 1), (72, .aload_n (0), 1), (73, .getfield (19), 3), (76, .getfield (177), 3), (79, .ireturn, 1), (80, .aload_n (0), 1), (81, .getfield (19), 3), (84, .getfield (332), 3), (87, .ireturn, 1), (88, .aload_n (0), 1), (89, .getfield (19), 3), (92, .getfield (335), 3), (95, .ireturn, 1), (96, .aload_n (0), 1), (97, .getfield (19), 3), (100, .getfield (262), 3), (103, .ireturn, 1), (104, .aload_n (0), 1), (105, .getfield (19), 3), (108, .getfield (338), 3), (111, .ireturn, 1), (112, .aload_n (0), 1), (113, .getfield (19), 3), (116, .getfield (281), 3), (119, .ireturn, 1), (120, .aload_n (0), 1), (121, .getfield (19), 3), (124, .getfield (284), 3), (127, .ireturn, 1), (128, .aload_n (0), 1), (129, .getfield (29), 3), (132, .getfield (313), 3), (135, .ireturn, 1), (136, .aload_n (0), 1), (137, .getfield (19), 3), (140, .getfield (87), 3), (143, .ireturn, 1), (144, .aload_n (0), 1), (145, .getfield (10), 3), (148, .getfield (63), 3), (151, .ireturn, 1), (152, .aload_n (0), 1), (153, .getfield (55), 3), (156, .invokevirtual (341), 3), (159, .ireturn, 1), (160, .iconst (-1), 1), (161, .ireturn, 1)]
set_option maxRecDepth 100000 in
theorem zD_139_ok : zDo 139 zD_139 = true := by decide +kernel
theorem zc_139 : zcls 139 = 7 := by decide +kernel
theorem zm_139 : zml 139 = 2 := by decide +kernel
theorem zt_139 : zrt 139 = (some (.int)) := by decide +kernel
theorem zk_139 : zkd 139 = 1 ∧ znp 139 + 1 = 2 := by decide +kernel
theorem zr_139 (as : List zV) : zrk 139 as = 2 := by unfold zrk; rw [if_neg (by decide)]; decide +kernel
def lX_count (x1 : Int) (M : Nat → Nat → Int) : Option Int :=
    (if x1 = 0 then
    (some (M 3 0))
    else
    (if x1 = 1 then
    (some (M 3 1))
    else
    (if x1 = 2 then
    (some (M 3 2))
    else
    (if x1 = 3 then
    (some (M 3 3))
    else
    (if x1 = 4 then
    (some (M 3 5))
    else
    (if x1 = 5 then
    (some (M 3 6))
    else
    (if x1 = 6 then
    (some (M 3 7))
    else
    (if x1 = 7 then
    (some (M 3 8))
    else
    (if x1 = 8 then
    (some (M 23 0))
    else
    (if x1 = 9 then
    (some (M 3 4))
    else
    (if x1 = 10 then
    (some (M 1 1))
    else
    (if x1 = 11 then
    ((lW_howMany M).bind (fun v156 =>
    (some v156)))
    else
    (some (-1 : Int))))))))))))))
set_option maxRecDepth 100000 in
theorem ok_lX_count {sc : zSc} {x1 : Int} {M : Nat → Nat → Int} {P : Int → (Nat → Nat → Int) → Prop} (h : zS (lX_count x1 M) (fun x => P x M)) : zCi sc 139 [.inr (.inr 0), .inl x1] M P := by
  have ea : zarg (zml 139) [.inr (.inr 0), .inl x1] = [some (.inr (.inr 0)), some (.inl x1)] := by rw [zm_139]; rfl
  unfold zCi zCw
  rw [ea, zr_139]
  have hq : 2 ≤ 2 := Nat.le_refl _
  unfold lX_count at h
  have h := zS_mono h (fun x hx => (⟨x, rfl, hx⟩ : ∃ y, (some (.inl x) : Option zV) = some (.inl y) ∧ P y M))
  skip
  refine E_iload_n (pc := 0) (zDk zD_139_ok 0 rfl) rfl ?_
  by_cases hk0 : x1 = 0
  · have h := zS_t h hk0
    refine E_tsw (pc := 1) (o := 63) (t := 64) (zDk zD_139_ok 1 rfl) (by rw [hk0]; decide +kernel) rfl (Or.inr (by rw [hk0]; decide)) ?_
    refine E_aload_n (pc := 64) (zDk zD_139_ok 2 rfl) rfl ?_
    refine E_getR (pc := 65) (ci := 7) (f := 1) (r := 3) (zDk zD_139_ok 3 rfl) zc_139 (by decide +kernel) (by decide) zis_7_0 (by decide +kernel) (by decide) ?_
    refine E_getI (pc := 68) (ci := 6) (f := 0) (zDk zD_139_ok 4 rfl) zc_139 (by decide +kernel) (by decide) zis_6_3 ?_
    have h := zS_some h
    exact E_ireturn (pc := 71) (zDk zD_139_ok 5 rfl) zt_139 h
  · have h := zS_f h hk0
    by_cases hk1 : x1 = 1
    · have h := zS_t h hk1
      refine E_tsw (pc := 1) (o := 71) (t := 72) (zDk zD_139_ok 1 rfl) (by rw [hk1]; decide +kernel) rfl (Or.inr (by rw [hk1]; decide)) ?_
      refine E_aload_n (pc := 72) (zDk zD_139_ok 6 rfl) rfl ?_
      refine E_getR (pc := 73) (ci := 7) (f := 1) (r := 3) (zDk zD_139_ok 7 rfl) zc_139 (by decide +kernel) (by decide) zis_7_0 (by decide +kernel) (by decide) ?_
      refine E_getI (pc := 76) (ci := 6) (f := 1) (zDk zD_139_ok 8 rfl) zc_139 (by decide +kernel) (by decide) zis_6_3 ?_
      have h := zS_some h
      exact E_ireturn (pc := 79) (zDk zD_139_ok 9 rfl) zt_139 h
    · have h := zS_f h hk1
      by_cases hk2 : x1 = 2
      · have h := zS_t h hk2
        refine E_tsw (pc := 1) (o := 79) (t := 80) (zDk zD_139_ok 1 rfl) (by rw [hk2]; decide +kernel) rfl (Or.inr (by rw [hk2]; decide)) ?_
        refine E_aload_n (pc := 80) (zDk zD_139_ok 10 rfl) rfl ?_
        refine E_getR (pc := 81) (ci := 7) (f := 1) (r := 3) (zDk zD_139_ok 11 rfl) zc_139 (by decide +kernel) (by decide) zis_7_0 (by decide +kernel) (by decide) ?_
        refine E_getI (pc := 84) (ci := 6) (f := 2) (zDk zD_139_ok 12 rfl) zc_139 (by decide +kernel) (by decide) zis_6_3 ?_
        have h := zS_some h
        exact E_ireturn (pc := 87) (zDk zD_139_ok 13 rfl) zt_139 h
      · have h := zS_f h hk2
        by_cases hk3 : x1 = 3
        · have h := zS_t h hk3
          refine E_tsw (pc := 1) (o := 87) (t := 88) (zDk zD_139_ok 1 rfl) (by rw [hk3]; decide +kernel) rfl (Or.inr (by rw [hk3]; decide)) ?_
          refine E_aload_n (pc := 88) (zDk zD_139_ok 14 rfl) rfl ?_
          refine E_getR (pc := 89) (ci := 7) (f := 1) (r := 3) (zDk zD_139_ok 15 rfl) zc_139 (by decide +kernel) (by decide) zis_7_0 (by decide +kernel) (by decide) ?_
          refine E_getI (pc := 92) (ci := 6) (f := 3) (zDk zD_139_ok 16 rfl) zc_139 (by decide +kernel) (by decide) zis_6_3 ?_
          have h := zS_some h
          exact E_ireturn (pc := 95) (zDk zD_139_ok 17 rfl) zt_139 h
        · have h := zS_f h hk3
          by_cases hk4 : x1 = 4
          · have h := zS_t h hk4
            refine E_tsw (pc := 1) (o := 95) (t := 96) (zDk zD_139_ok 1 rfl) (by rw [hk4]; decide +kernel) rfl (Or.inr (by rw [hk4]; decide)) ?_
            refine E_aload_n (pc := 96) (zDk zD_139_ok 18 rfl) rfl ?_
            refine E_getR (pc := 97) (ci := 7) (f := 1) (r := 3) (zDk zD_139_ok 19 rfl) zc_139 (by decide +kernel) (by decide) zis_7_0 (by decide +kernel) (by decide) ?_
            refine E_getI (pc := 100) (ci := 6) (f := 5) (zDk zD_139_ok 20 rfl) zc_139 (by decide +kernel) (by decide) zis_6_3 ?_
            have h := zS_some h
            exact E_ireturn (pc := 103) (zDk zD_139_ok 21 rfl) zt_139 h
          · have h := zS_f h hk4
            by_cases hk5 : x1 = 5
            · have h := zS_t h hk5
              refine E_tsw (pc := 1) (o := 103) (t := 104) (zDk zD_139_ok 1 rfl) (by rw [hk5]; decide +kernel) rfl (Or.inr (by rw [hk5]; decide)) ?_
              refine E_aload_n (pc := 104) (zDk zD_139_ok 22 rfl) rfl ?_
              refine E_getR (pc := 105) (ci := 7) (f := 1) (r := 3) (zDk zD_139_ok 23 rfl) zc_139 (by decide +kernel) (by decide) zis_7_0 (by decide +kernel) (by decide) ?_
              refine E_getI (pc := 108) (ci := 6) (f := 6) (zDk zD_139_ok 24 rfl) zc_139 (by decide +kernel) (by decide) zis_6_3 ?_
              have h := zS_some h
              exact E_ireturn (pc := 111) (zDk zD_139_ok 25 rfl) zt_139 h
            · have h := zS_f h hk5
              by_cases hk6 : x1 = 6
              · have h := zS_t h hk6
                refine E_tsw (pc := 1) (o := 111) (t := 112) (zDk zD_139_ok 1 rfl) (by rw [hk6]; decide +kernel) rfl (Or.inr (by rw [hk6]; decide)) ?_
                refine E_aload_n (pc := 112) (zDk zD_139_ok 26 rfl) rfl ?_
                refine E_getR (pc := 113) (ci := 7) (f := 1) (r := 3) (zDk zD_139_ok 27 rfl) zc_139 (by decide +kernel) (by decide) zis_7_0 (by decide +kernel) (by decide) ?_
                refine E_getI (pc := 116) (ci := 6) (f := 7) (zDk zD_139_ok 28 rfl) zc_139 (by decide +kernel) (by decide) zis_6_3 ?_
                have h := zS_some h
                exact E_ireturn (pc := 119) (zDk zD_139_ok 29 rfl) zt_139 h
              · have h := zS_f h hk6
                by_cases hk7 : x1 = 7
                · have h := zS_t h hk7
                  refine E_tsw (pc := 1) (o := 119) (t := 120) (zDk zD_139_ok 1 rfl) (by rw [hk7]; decide +kernel) rfl (Or.inr (by rw [hk7]; decide)) ?_
                  refine E_aload_n (pc := 120) (zDk zD_139_ok 30 rfl) rfl ?_
                  refine E_getR (pc := 121) (ci := 7) (f := 1) (r := 3) (zDk zD_139_ok 31 rfl) zc_139 (by decide +kernel) (by decide) zis_7_0 (by decide +kernel) (by decide) ?_
                  refine E_getI (pc := 124) (ci := 6) (f := 8) (zDk zD_139_ok 32 rfl) zc_139 (by decide +kernel) (by decide) zis_6_3 ?_
                  have h := zS_some h
                  exact E_ireturn (pc := 127) (zDk zD_139_ok 33 rfl) zt_139 h
                · have h := zS_f h hk7
                  by_cases hk8 : x1 = 8
                  · have h := zS_t h hk8
                    refine E_tsw (pc := 1) (o := 127) (t := 128) (zDk zD_139_ok 1 rfl) (by rw [hk8]; decide +kernel) rfl (Or.inr (by rw [hk8]; decide)) ?_
                    refine E_aload_n (pc := 128) (zDk zD_139_ok 34 rfl) rfl ?_
                    refine E_getR (pc := 129) (ci := 7) (f := 3) (r := 23) (zDk zD_139_ok 35 rfl) zc_139 (by decide +kernel) (by decide) zis_7_0 (by decide +kernel) (by decide) ?_
                    refine E_getI (pc := 132) (ci := 0) (f := 0) (zDk zD_139_ok 36 rfl) zc_139 (by decide +kernel) (by decide) zis_0_23 ?_
                    have h := zS_some h
                    exact E_ireturn (pc := 135) (zDk zD_139_ok 37 rfl) zt_139 h
                  · have h := zS_f h hk8
                    by_cases hk9 : x1 = 9
                    · have h := zS_t h hk9
                      refine E_tsw (pc := 1) (o := 135) (t := 136) (zDk zD_139_ok 1 rfl) (by rw [hk9]; decide +kernel) rfl (Or.inr (by rw [hk9]; decide)) ?_
                      refine E_aload_n (pc := 136) (zDk zD_139_ok 38 rfl) rfl ?_
                      refine E_getR (pc := 137) (ci := 7) (f := 1) (r := 3) (zDk zD_139_ok 39 rfl) zc_139 (by decide +kernel) (by decide) zis_7_0 (by decide +kernel) (by decide) ?_
                      refine E_getI (pc := 140) (ci := 6) (f := 4) (zDk zD_139_ok 40 rfl) zc_139 (by decide +kernel) (by decide) zis_6_3 ?_
                      have h := zS_some h
                      exact E_ireturn (pc := 143) (zDk zD_139_ok 41 rfl) zt_139 h
                    · have h := zS_f h hk9
                      by_cases hk10 : x1 = 10
                      · have h := zS_t h hk10
                        refine E_tsw (pc := 1) (o := 143) (t := 144) (zDk zD_139_ok 1 rfl) (by rw [hk10]; decide +kernel) rfl (Or.inr (by rw [hk10]; decide)) ?_
                        refine E_aload_n (pc := 144) (zDk zD_139_ok 42 rfl) rfl ?_
                        refine E_getR (pc := 145) (ci := 7) (f := 0) (r := 1) (zDk zD_139_ok 43 rfl) zc_139 (by decide +kernel) (by decide) zis_7_0 (by decide +kernel) (by decide) ?_
                        refine E_getI (pc := 148) (ci := 4) (f := 1) (zDk zD_139_ok 44 rfl) zc_139 (by decide +kernel) (by decide) zis_4_1 ?_
                        have h := zS_some h
                        exact E_ireturn (pc := 151) (zDk zD_139_ok 45 rfl) zt_139 h
                      · have h := zS_f h hk10
                        by_cases hk11 : x1 = 11
                        · have h := zS_t h hk11
                          refine E_tsw (pc := 1) (o := 151) (t := 152) (zDk zD_139_ok 1 rfl) (by rw [hk11]; decide +kernel) rfl (Or.inr (by rw [hk11]; decide)) ?_
                          refine E_aload_n (pc := 152) (zDk zD_139_ok 46 rfl) rfl ?_
                          refine E_getR (pc := 153) (ci := 7) (f := 7) (r := 97) (zDk zD_139_ok 47 rfl) zc_139 (by decide +kernel) (by decide) zis_7_0 (by decide +kernel) (by decide) ?_
                          obtain ⟨v156, e156, h⟩ := zS_bind h
                          refine E_virI (pc := 156) (c := 65) (r := 97) (as := []) (rest := []) (zDk zD_139_ok 48 rfl) zc_139 (by decide +kernel) zk_65 ⟨(Nat.le_of_ble_eq_true rfl), rfl, rfl⟩ (Nat.le_of_ble_eq_true rfl) (zr_65 _) (Nat.lt_of_lt_of_le (by decide) hq) (by rw [zm_65]; exact (Nat.le_of_ble_eq_true rfl)) ⟨zc_65, by decide⟩ zis_5_97 (ok_lW_howMany ⟨v156, e156, ?_⟩)
                          have h := zS_some h
                          exact E_ireturn (pc := 159) (zDk zD_139_ok 49 rfl) zt_139 h
                        · have h := zS_f h hk11
                          refine E_tsw (pc := 1) (o := 159) (t := 160) (zDk zD_139_ok 1 rfl) (if_pos (by omega)) rfl (Or.inl (by omega)) ?_
                          refine E_iconst (pc := 160) (zDk zD_139_ok 50 rfl) (by decide +kernel) ?_
                          have h := zS_some h
                          exact E_ireturn (pc := 161) (zDk zD_139_ok 51 rfl) zt_139 h
