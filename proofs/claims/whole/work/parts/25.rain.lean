/-! Rain, and the law (written by wip/whole/lift.py). -/
def rdX (sc : zSc) (x : Int) : Option Int := if 0 ≤ x ∧ x + 1 < (sc.1 : Int) then some (sc.2 x.toNat) else none
def lnX (sc : zSc) : Option Int := if 0 < sc.1 then some (w32 ((sc.1 - 1 : Nat) : Int)) else none
theorem zSH_5001 : zSH[5001]? = none := by decide +kernel
theorem E_ialoadX {sc : zSc} {q j pc : Nat} {L : zL} {S : List zV} {M : Nat → Nat → Int} {P : Option zV → (Nat → Nat → Int) → Prop} {v x : Int} (hd : decode (zcode j) pc = .ok (.iaload, 1)) (h : rdX sc x = some v) (k : zWp sc q j (pc + 1) L (.inl v :: S) M P) : zWp sc q j pc L (.inl x :: .inr (.inr 5001) :: S) M P := by
  refine E_2 hd rfl rfl ?_ k
  unfold rdX at h
  split at h
  · rename_i hz
    have h := Option.some.inj h
    subst h
    have e0 : (zA M).1[5001]? = none := zSH_5001
    unfold zald
    simp only [e0]
    rw [if_pos ⟨trivial, hz⟩]
  · cases h
theorem E_arraylengthX {sc : zSc} {q j pc : Nat} {L : zL} {S : List zV} {M : Nat → Nat → Int} {P : Option zV → (Nat → Nat → Int) → Prop} {n : Int} (hd : decode (zcode j) pc = .ok (.arraylength, 1)) (h : lnX sc = some n) (k : zWp sc q j (pc + 1) L (.inl n :: S) M P) : zWp sc q j pc L (.inr (.inr 5001) :: S) M P := by
  refine E_1 hd rfl ?_ k
  unfold lnX at h
  split at h
  · rename_i hz
    have h := Option.some.inj h
    have e : zlen sc (zA M) 5001 = some ((sc.1 - 1 : Nat) : Int) := by
      have e0 : (zA M).1[5001]? = none := zSH_5001
      unfold zlen
      simp only [e0]
      rw [if_pos ⟨trivial, hz⟩]
    show (match zlen sc (zA M) 5001 with | some n => (if 1 = 1 then some (pc + 1, L, Sum.inl (w32 n) :: S, zA M) else none) | none => none) = _
    rw [e]
    show some (pc + 1, L, Sum.inl (w32 ((sc.1 - 1 : Nat) : Int)) :: S, zA M) = _
    rw [h]
  · cases h
def zD_169 : List (Nat × Instr × Nat) := [(0, .lload (4), 2), (2, .lconst (0), 1), (3, .lcmp, 1), (4, .ifCond .ne (5), 3), (7, .lconst (0), 1), (8, .lreturn, 1), (9, .iload_n (2), 1), (10, .iload_n (3), 1), (11, .if_icmp .gt (9), 3), (14, .iload_n (2), 1), (15, .bipush (7), 2), (17, .if_icmp .le (19), 3), (20, .lload (4), 2), (22, .aload_n (0), 1), (23, .getfield (174), 3), (26, .iload_n (2), 1), (27, .iaload, 1), (28, .iload_n (1), 1), (29, .iand, 1), (30, .invokestatic (183), 3), (33, .i2l, 1), (34, .lmul, 1), (35, .lreturn, 1), (36, .aload_n (0), 1), (37, .getfield (437), 3), (40, .getfield (335), 3), (43, .istore (6), 2), (45, .aload_n (0), 1), (46, .iload_n (2), 1), (47, .iconst (0), 1), (48, .invokevirtual (438), 3), (51, .aload_n (0), 1), (52, .iload_n (1), 1), (53, .iload_n (2), 1), (54, .iconst (1), 1), (55, .iadd, 1), (56, .iload_n (3), 1), (57, .lload (4), 2), (59, .bipush (10), 2), (61, .iload (6), 2), (63, .isub, 1), (64, .i2l, 1), (65, .lmul, 1), (66, .invokestatic (433), 3), (69, .lstore (7), 2), (71, .aload_n (0), 1), (72, .iload_n (2), 1), (73, .iconst (1), 1), (74, .invokevirtual (438), 3), (77, .lload (7), 2), (79, .aload_n (0), 1), (80, .iload_n (1), 1), (81, .iload_n (2), 1), (82, .iconst (1), 1), (83, .iadd, 1), (84, .iload_n (3), 1), (85, .lload (4), 2), (87, .iload (6), 2), (89, .i2l, 1), (90, .lmul, 1), (91, .invokestatic (433), 3), (94, .ladd, 1), (95, .lreturn, 1)]
set_option maxRecDepth 100000 in
theorem zD_169_ok : zDo 169 zD_169 = true := by decide +kernel
theorem zc_169 : zcls 169 = 7 := by decide +kernel
theorem zm_169 : zml 169 = 9 := by decide +kernel
theorem zt_169 : zrt 169 = (some (.long)) := by decide +kernel
theorem zk_169 : zkd 169 = 0 ∧ znp 169 = 5 := by decide +kernel
def lX_rainSum : Nat → Nat → Int → Int → Int → Int → (Nat → Nat → Int) → Option (Int × (Nat → Nat → Int))
  | 0, _, _, _, _, _, _ => none
  | n + 1, r0, x1, x2, x3, x4, M =>
    (if zis 1 r0 = true then
    (if 0 ≤ x2 then
    (if x4 = (0 : Int) then
    (some ((0 : Int), M))
    else
    (if x3 < x2 then
    ((rdI (r0 + 7) x2 M).bind (fun v27 =>
    ((lJ_bitCount (zand v27 x1) M).bind (fun v30 =>
    (some ((w64 (x4 * v30)), M))))))
    else
    (if (7 : Int) < x2 then
    ((rdI (r0 + 7) x2 M).bind (fun v27 =>
    ((lJ_bitCount (zand v27 x1) M).bind (fun v30 =>
    (some ((w64 (x4 * v30)), M))))))
    else
    ((lD_goOn r0 x2 (0 : Int) M).bind (fun M48 =>
    ((lX_rainSum n r0 x1 (w32 (x2 + (1 : Int))) x3 (w64 (x4 * (w32 ((10 : Int) - (M 3 3))))) M48).bind (fun r66_ =>
    ((lD_goOn r0 x2 (1 : Int) r66_.2).bind (fun M74 =>
    ((lX_rainSum n r0 x1 (w32 (x2 + (1 : Int))) x3 (w64 (x4 * (M 3 3))) M74).bind (fun r91_ =>
    (some ((w64 (r66_.1 + r91_.1)), r91_.2)))))))))))))
    else none)
    else none)
theorem zrk_dec {x : Int} (h : 0 ≤ x) (h7 : x ≤ 7) : 3 + (9 - w32 (x + 1)).toNat < 3 + (9 - x).toNat := by
  rw [w32_id ⟨by omega, by omega⟩]
  omega
set_option maxRecDepth 100000 in
theorem ok_lX_rainSum {sc : zSc} : ∀ (n : Nat) {r0 : Nat} {x1 x2 x3 x4 : Int} {M : Nat → Nat → Int} {P : Int → (Nat → Nat → Int) → Prop}, zS (lX_rainSum n r0 x1 x2 x3 x4 M) (fun r => P r.1 r.2) → zCl sc 169 [.inr (.inr r0), .inl x1, .inl x2, .inl x3, .inr (.inl x4)] M P := by
  intro n
  induction n with
  | zero => intro r0 x1 x2 x3 x4 M P h; exact (zS_none h).elim
  | succ n ih =>
    intro r0 x1 x2 x3 x4 M P h
    rw [lX_rainSum] at h
    have ea : zarg (zml 169) [.inr (.inr r0), .inl x1, .inl x2, .inl x3, .inr (.inl x4)] = [some (.inr (.inr r0)), some (.inl x1), some (.inl x2), some (.inl x3), some (.inr (.inl x4)), none, none, none, none] := by rw [zm_169]; rfl
    have er : zrk 169 [.inr (.inr r0), .inl x1, .inl x2, .inl x3, .inr (.inl x4)] = 3 + (9 - x2).toNat := rfl
    unfold zCl zCw
    rw [ea, er]
    have hq : 3 + (9 - x2).toNat ≤ 3 + (9 - x2).toNat := Nat.le_refl _
    have h := zS_mono h (fun x hx => (⟨x.1, rfl, hx⟩ : ∃ y, (some (.inr (.inl x.1)) : Option zV) = some (.inr (.inl y)) ∧ P y x.2))
    obtain ⟨hr0, h⟩ := zS_c h
    obtain ⟨hg, h⟩ := zS_c h
    refine E_lload (pc := 0) (zDk zD_169_ok 0 rfl) rfl ?_
    refine E_lconst (pc := 2) (v := 0) (zDk zD_169_ok 1 rfl) (by decide +kernel) ?_
    refine W_lcmp (pc := 3) (zDk zD_169_ok 2 rfl) ?_
    refine E_if (pc := 4) (t := 9) (zDk zD_169_ok 3 rfl) rfl (fun hz => ?_) (fun hz => ?_)
    · have h := zS_f h (zlc_ne (T_ne hz))
      refine E_iload_n (pc := 9) (zDk zD_169_ok 6 rfl) rfl ?_
      refine E_iload_n (pc := 10) (zDk zD_169_ok 7 rfl) rfl ?_
      refine E_icmp (pc := 11) (t := 20) (zDk zD_169_ok 8 rfl) rfl (fun hz => ?_) (fun hz => ?_)
      · have h := zS_t h (T_gt hz)
        refine E_lload (pc := 20) (zDk zD_169_ok 12 rfl) rfl ?_
        refine E_aload_n (pc := 22) (zDk zD_169_ok 13 rfl) rfl ?_
        refine E_getR (pc := 23) (ci := 1) (f := 7) (r := (r0 + 7)) (zDk zD_169_ok 14 rfl) zc_169 (by decide +kernel) (by decide) hr0 (zg_1_7 hr0) (zh_1_7 hr0) ?_
        refine E_iload_n (pc := 26) (zDk zD_169_ok 15 rfl) rfl ?_
        obtain ⟨v27, e27, h⟩ := zS_bind h
        refine E_iaload (pc := 27) (zDk zD_169_ok 16 rfl) e27 ?_
        refine E_iload_n (pc := 28) (zDk zD_169_ok 17 rfl) rfl ?_
        refine E_iand (pc := 29) (zDk zD_169_ok 18 rfl) ?_
        obtain ⟨v30, e30, h⟩ := zS_bind h
        refine E_staI (pc := 30) (c := 321) (as := [.inl (zand v27 x1)]) (rest := [.inr (.inl x4)]) (zDk zD_169_ok 19 rfl) zc_169 (by decide +kernel) (by decide +kernel) zk_321 ⟨(Nat.le_of_ble_eq_true rfl), rfl, rfl⟩ (Nat.le_of_ble_eq_true rfl) (zr_321 _) (Nat.lt_of_lt_of_le (Nat.lt_of_lt_of_le (by decide : _ < 3) (Nat.le_add_right _ _)) hq) (by rw [zm_321]; exact (Nat.le_of_ble_eq_true rfl)) (ok_lJ_bitCount ⟨v30, e30, ?_⟩)
        refine E_i2l (pc := 33) (zDk zD_169_ok 20 rfl) ?_
        refine W_lmul (pc := 34) (zDk zD_169_ok 21 rfl) ?_
        have h := zS_some h
        exact E_lreturn (pc := 35) (zDk zD_169_ok 22 rfl) zt_169 h
      · have h := zS_f h (Int.not_lt.mpr (F_gt hz))
        refine E_iload_n (pc := 14) (zDk zD_169_ok 9 rfl) rfl ?_
        refine E_bipush (pc := 15) (zDk zD_169_ok 10 rfl) (by decide +kernel) ?_
        refine E_icmp (pc := 17) (t := 36) (zDk zD_169_ok 11 rfl) rfl (fun hz => ?_) (fun hz => ?_)
        · have hb17 : ¬ (7 < x2) := (Int.not_lt.mpr (T_le hz))
          have h := zS_f h (Int.not_lt.mpr (T_le hz))
          refine E_aload_n (pc := 36) (zDk zD_169_ok 23 rfl) rfl ?_
          refine E_getR (pc := 37) (ci := 1) (f := 0) (r := 3) (zDk zD_169_ok 24 rfl) zc_169 (by decide +kernel) (by decide) hr0 (zg_1_0 hr0) (by decide) ?_
          refine E_getI (pc := 40) (ci := 6) (f := 3) (zDk zD_169_ok 25 rfl) zc_169 (by decide +kernel) (by decide) zis_6_3 ?_
          refine W_istore (pc := 43) (L' := [some (.inr (.inr r0)), some (.inl x1), some (.inl x2), some (.inl x3), some (.inr (.inl x4)), none, some (.inl (M 3 3)), none, none]) (zDk zD_169_ok 26 rfl) zm_169 (by decide) rfl ?_
          refine E_aload_n (pc := 45) (zDk zD_169_ok 27 rfl) rfl ?_
          refine E_iload_n (pc := 46) (zDk zD_169_ok 28 rfl) rfl ?_
          refine E_iconst (pc := 47) (zDk zD_169_ok 29 rfl) (by decide +kernel) ?_
          obtain ⟨M48, e48, h⟩ := zS_bind h
          refine E_virV (pc := 48) (c := 11) (r := r0) (as := [.inl x2, .inl (0 : Int)]) (rest := []) (zDk zD_169_ok 30 rfl) zc_169 (by decide +kernel) zk_11 ⟨(Nat.le_of_ble_eq_true rfl), rfl, rfl⟩ (Nat.le_of_ble_eq_true rfl) (zr_11 _) (Nat.lt_of_lt_of_le (Nat.lt_of_lt_of_le (by decide : _ < 3) (Nat.le_add_right _ _)) hq) (by rw [zm_11]; exact (Nat.le_of_ble_eq_true rfl)) ⟨zc_11, by decide⟩ hr0 (ok_lD_goOn ⟨M48, e48, ?_⟩)
          refine E_aload_n (pc := 51) (zDk zD_169_ok 31 rfl) rfl ?_
          refine E_iload_n (pc := 52) (zDk zD_169_ok 32 rfl) rfl ?_
          refine E_iload_n (pc := 53) (zDk zD_169_ok 33 rfl) rfl ?_
          refine E_iconst (pc := 54) (zDk zD_169_ok 34 rfl) (by decide +kernel) ?_
          refine W_iadd (pc := 55) (zDk zD_169_ok 35 rfl) ?_
          refine E_iload_n (pc := 56) (zDk zD_169_ok 36 rfl) rfl ?_
          refine E_lload (pc := 57) (zDk zD_169_ok 37 rfl) rfl ?_
          refine E_bipush (pc := 59) (zDk zD_169_ok 38 rfl) (by decide +kernel) ?_
          refine E_iload (pc := 61) (zDk zD_169_ok 39 rfl) rfl ?_
          refine W_isub (pc := 63) (zDk zD_169_ok 40 rfl) ?_
          refine E_i2l (pc := 64) (zDk zD_169_ok 41 rfl) ?_
          refine W_lmul (pc := 65) (zDk zD_169_ok 42 rfl) ?_
          obtain ⟨r66_, e66, h⟩ := zS_bind h
          refine E_staL (pc := 66) (k0 := 3 + (9 - w32 (x2 + 1)).toNat) (c := 169) (as := [.inr (.inr r0), .inl x1, .inl (w32 (x2 + (1 : Int))), .inl x3, .inr (.inl (w64 (x4 * (w32 ((10 : Int) - (M 3 3))))))]) (rest := []) (zDk zD_169_ok 43 rfl) zc_169 (by decide +kernel) (by decide +kernel) zk_169 ⟨(Nat.le_of_ble_eq_true rfl), rfl, rfl⟩ (Nat.le_of_ble_eq_true rfl) rfl (Nat.lt_of_lt_of_le (zrk_dec hg (Int.not_lt.mp hb17)) hq) (by rw [zm_169]; exact (Nat.le_of_ble_eq_true rfl)) (ih ⟨r66_, e66, ?_⟩)
          refine W_lstore (pc := 69) (L' := [some (.inr (.inr r0)), some (.inl x1), some (.inl x2), some (.inl x3), some (.inr (.inl x4)), none, some (.inl (M 3 3)), some (.inr (.inl r66_.1)), none]) (zDk zD_169_ok 44 rfl) zm_169 (by decide) rfl ?_
          refine E_aload_n (pc := 71) (zDk zD_169_ok 45 rfl) rfl ?_
          refine E_iload_n (pc := 72) (zDk zD_169_ok 46 rfl) rfl ?_
          refine E_iconst (pc := 73) (zDk zD_169_ok 47 rfl) (by decide +kernel) ?_
          obtain ⟨M74, e74, h⟩ := zS_bind h
          refine E_virV (pc := 74) (c := 11) (r := r0) (as := [.inl x2, .inl (1 : Int)]) (rest := []) (zDk zD_169_ok 48 rfl) zc_169 (by decide +kernel) zk_11 ⟨(Nat.le_of_ble_eq_true rfl), rfl, rfl⟩ (Nat.le_of_ble_eq_true rfl) (zr_11 _) (Nat.lt_of_lt_of_le (Nat.lt_of_lt_of_le (by decide : _ < 3) (Nat.le_add_right _ _)) hq) (by rw [zm_11]; exact (Nat.le_of_ble_eq_true rfl)) ⟨zc_11, by decide⟩ hr0 (ok_lD_goOn ⟨M74, e74, ?_⟩)
          refine E_lload (pc := 77) (zDk zD_169_ok 49 rfl) rfl ?_
          refine E_aload_n (pc := 79) (zDk zD_169_ok 50 rfl) rfl ?_
          refine E_iload_n (pc := 80) (zDk zD_169_ok 51 rfl) rfl ?_
          refine E_iload_n (pc := 81) (zDk zD_169_ok 52 rfl) rfl ?_
          refine E_iconst (pc := 82) (zDk zD_169_ok 53 rfl) (by decide +kernel) ?_
          refine W_iadd (pc := 83) (zDk zD_169_ok 54 rfl) ?_
          refine E_iload_n (pc := 84) (zDk zD_169_ok 55 rfl) rfl ?_
          refine E_lload (pc := 85) (zDk zD_169_ok 56 rfl) rfl ?_
          refine E_iload (pc := 87) (zDk zD_169_ok 57 rfl) rfl ?_
          refine E_i2l (pc := 89) (zDk zD_169_ok 58 rfl) ?_
          refine W_lmul (pc := 90) (zDk zD_169_ok 59 rfl) ?_
          obtain ⟨r91_, e91, h⟩ := zS_bind h
          refine E_staL (pc := 91) (k0 := 3 + (9 - w32 (x2 + 1)).toNat) (c := 169) (as := [.inr (.inr r0), .inl x1, .inl (w32 (x2 + (1 : Int))), .inl x3, .inr (.inl (w64 (x4 * (M 3 3))))]) (rest := [.inr (.inl r66_.1)]) (zDk zD_169_ok 60 rfl) zc_169 (by decide +kernel) (by decide +kernel) zk_169 ⟨(Nat.le_of_ble_eq_true rfl), rfl, rfl⟩ (Nat.le_of_ble_eq_true rfl) rfl (Nat.lt_of_lt_of_le (zrk_dec hg (Int.not_lt.mp hb17)) hq) (by rw [zm_169]; exact (Nat.le_of_ble_eq_true rfl)) (ih ⟨r91_, e91, ?_⟩)
          refine W_ladd (pc := 94) (zDk zD_169_ok 61 rfl) ?_
          have h := zS_some h
          exact E_lreturn (pc := 95) (zDk zD_169_ok 62 rfl) zt_169 h
        · have h := zS_t h (F_le hz)
          refine E_lload (pc := 20) (zDk zD_169_ok 12 rfl) rfl ?_
          refine E_aload_n (pc := 22) (zDk zD_169_ok 13 rfl) rfl ?_
          refine E_getR (pc := 23) (ci := 1) (f := 7) (r := (r0 + 7)) (zDk zD_169_ok 14 rfl) zc_169 (by decide +kernel) (by decide) hr0 (zg_1_7 hr0) (zh_1_7 hr0) ?_
          refine E_iload_n (pc := 26) (zDk zD_169_ok 15 rfl) rfl ?_
          obtain ⟨v27, e27, h⟩ := zS_bind h
          refine E_iaload (pc := 27) (zDk zD_169_ok 16 rfl) e27 ?_
          refine E_iload_n (pc := 28) (zDk zD_169_ok 17 rfl) rfl ?_
          refine E_iand (pc := 29) (zDk zD_169_ok 18 rfl) ?_
          obtain ⟨v30, e30, h⟩ := zS_bind h
          refine E_staI (pc := 30) (c := 321) (as := [.inl (zand v27 x1)]) (rest := [.inr (.inl x4)]) (zDk zD_169_ok 19 rfl) zc_169 (by decide +kernel) (by decide +kernel) zk_321 ⟨(Nat.le_of_ble_eq_true rfl), rfl, rfl⟩ (Nat.le_of_ble_eq_true rfl) (zr_321 _) (Nat.lt_of_lt_of_le (Nat.lt_of_lt_of_le (by decide : _ < 3) (Nat.le_add_right _ _)) hq) (by rw [zm_321]; exact (Nat.le_of_ble_eq_true rfl)) (ok_lJ_bitCount ⟨v30, e30, ?_⟩)
          refine E_i2l (pc := 33) (zDk zD_169_ok 20 rfl) ?_
          refine W_lmul (pc := 34) (zDk zD_169_ok 21 rfl) ?_
          have h := zS_some h
          exact E_lreturn (pc := 35) (zDk zD_169_ok 22 rfl) zt_169 h
    · have h := zS_t h (zlc_eq (F_ne hz))
      refine E_lconst (pc := 7) (v := 0) (zDk zD_169_ok 4 rfl) (by decide +kernel) ?_
      have h := zS_some h
      exact E_lreturn (pc := 8) (zDk zD_169_ok 5 rfl) zt_169 h
def zD_168 : List (Nat × Instr × Nat) := [(0, .aload_n (0), 1), (1, .getfield (42), 3), (4, .invokevirtual (253), 3), (7, .aload_n (0), 1), (8, .getfield (42), 3), (11, .invokevirtual (428), 3), (14, .lconst (1), 1), (15, .lstore (4), 2), (17, .iconst (0), 1), (18, .istore (6), 2), (20, .iload (6), 2), (22, .iload_n (2), 1), (23, .if_icmp .gt (17), 3), (26, .lload (4), 2), (28, .ldc2_w (431), 3), (31, .lmul, 1), (32, .lstore (4), 2), (34, .iinc (6) (1), 3), (37, .goto (-17), 3), (40, .aload_n (0), 1), (41, .getfield (42), 3), (44, .iload_n (1), 1), (45, .iconst (0), 1), (46, .iload_n (2), 1), (47, .lconst (1), 1), (48, .invokestatic (433), 3), (51, .lload (4), 2), (53, .iload_n (3), 1), (54, .invokestatic (292), 3), (57, .lreturn, 1)]
set_option maxRecDepth 100000 in
theorem zD_168_ok : zDo 168 zD_168 = true := by decide +kernel
theorem zc_168 : zcls 168 = 7 := by decide +kernel
theorem zm_168 : zml 168 = 7 := by decide +kernel
theorem zt_168 : zrt 168 = (some (.long)) := by decide +kernel
theorem zk_168 : zkd 168 = 1 ∧ znp 168 + 1 = 4 := by decide +kernel
theorem zr_168 (as : List zV) : zrk 168 as = 13 := by unfold zrk; rw [if_neg (by decide)]; decide +kernel
def lX_rainMean_c20 (x1 : Int) (x2 : Int) (x3 : Int) : Nat → Int → Int → (Nat → Nat → Int) → Option (Int × (Nat → Nat → Int))
  | 0, _, _, _ => none
  | n + 1, y4, y6, M =>
    (if x2 < y6 then
    ((lX_rainSum zN 37 x1 (0 : Int) x2 (1 : Int) M).bind (fun r48_ =>
    ((lX_inLowestTerms r48_.1 y4 x3 r48_.2).bind (fun v54 =>
    (some (v54, r48_.2))))))
    else
    ((lX_rainMean_c20 x1 x2 x3 n) (w64 (y4 * (10 : Int))) (w32 (y6 + 1)) M))
set_option maxRecDepth 100000 in
theorem ok_lX_rainMean_c20 {sc : zSc} {q : Nat} {P : Option zV → (Nat → Nat → Int) → Prop} (hq : 13 ≤ q) (x1 : Int) (x2 : Int) (x3 : Int) : ∀ (n : Nat) (y4 : Int) (y6 : Int) (M : Nat → Nat → Int), zS (lX_rainMean_c20 x1 x2 x3 n y4 y6 M) (fun r => P (some (.inr (.inl r.1))) r.2) → zWp sc q 168 20 [some (.inr (.inr 0)), some (.inl x1), some (.inl x2), some (.inl x3), some (.inr (.inl y4)), none, some (.inl y6)] [] M P := by
  intro n
  induction n with
  | zero => intro y4 y6 M h; exact (zS_none h).elim
  | succ n ih =>
    intro y4 y6 M h
    rw [lX_rainMean_c20] at h
    refine E_iload (pc := 20) (zDk zD_168_ok 10 rfl) rfl ?_
    refine E_iload_n (pc := 22) (zDk zD_168_ok 11 rfl) rfl ?_
    refine E_icmp (pc := 23) (t := 40) (zDk zD_168_ok 12 rfl) rfl (fun hz => ?_) (fun hz => ?_)
    · have h := zS_t h (T_gt hz)
      refine E_aload_n (pc := 40) (zDk zD_168_ok 19 rfl) rfl ?_
      refine E_getR (pc := 41) (ci := 7) (f := 5) (r := 37) (zDk zD_168_ok 20 rfl) zc_168 (by decide +kernel) (by decide) zis_7_0 (by decide +kernel) (by decide) ?_
      refine E_iload_n (pc := 44) (zDk zD_168_ok 21 rfl) rfl ?_
      refine E_iconst (pc := 45) (zDk zD_168_ok 22 rfl) (by decide +kernel) ?_
      refine E_iload_n (pc := 46) (zDk zD_168_ok 23 rfl) rfl ?_
      refine E_lconst (pc := 47) (v := 1) (zDk zD_168_ok 24 rfl) (by decide +kernel) ?_
      obtain ⟨r48_, e48, h⟩ := zS_bind h
      refine E_staL (pc := 48) (k0 := 12) (c := 169) (as := [.inr (.inr 37), .inl x1, .inl (0 : Int), .inl x2, .inr (.inl (1 : Int))]) (rest := []) (zDk zD_168_ok 25 rfl) zc_168 (by decide +kernel) (by decide +kernel) zk_169 ⟨(Nat.le_of_ble_eq_true rfl), rfl, rfl⟩ (Nat.le_of_ble_eq_true rfl) rfl (Nat.lt_of_lt_of_le (by decide) hq) (by rw [zm_169]; exact (Nat.le_of_ble_eq_true rfl)) (ok_lX_rainSum zN ⟨r48_, e48, ?_⟩)
      refine E_lload (pc := 51) (zDk zD_168_ok 26 rfl) rfl ?_
      refine E_iload_n (pc := 53) (zDk zD_168_ok 27 rfl) rfl ?_
      obtain ⟨v54, e54, h⟩ := zS_bind h
      refine E_staL (pc := 54) (c := 170) (as := [.inr (.inl r48_.1), .inr (.inl y4), .inl x3]) (rest := []) (zDk zD_168_ok 28 rfl) zc_168 (by decide +kernel) (by decide +kernel) zk_170 ⟨(Nat.le_of_ble_eq_true rfl), rfl, rfl⟩ (Nat.le_of_ble_eq_true rfl) (zr_170 _) (Nat.lt_of_lt_of_le (by decide) hq) (by rw [zm_170]; exact (Nat.le_of_ble_eq_true rfl)) (ok_lX_inLowestTerms ⟨v54, e54, ?_⟩)
      have h := zS_some h
      exact E_lreturn (pc := 57) (zDk zD_168_ok 29 rfl) zt_168 h
    · have h := zS_f h (Int.not_lt.mpr (F_gt hz))
      refine E_lload (pc := 26) (zDk zD_168_ok 13 rfl) rfl ?_
      refine E_ldc2_w (pc := 28) (v := .inr (.inl (10 : Int))) (zDk zD_168_ok 14 rfl) zc_168 (by decide +kernel) ?_
      refine W_lmul (pc := 31) (zDk zD_168_ok 15 rfl) ?_
      refine W_lstore (pc := 32) (L' := [some (.inr (.inr 0)), some (.inl x1), some (.inl x2), some (.inl x3), some (.inr (.inl (w64 (y4 * (10 : Int))))), none, some (.inl y6)]) (zDk zD_168_ok 16 rfl) zm_168 (by decide) rfl ?_
      refine W_iinc (pc := 34) (L' := [some (.inr (.inr 0)), some (.inl x1), some (.inl x2), some (.inl x3), some (.inr (.inl (w64 (y4 * (10 : Int))))), none, some (.inl (w32 (y6 + 1)))]) (zDk zD_168_ok 17 rfl) rfl zm_168 (by decide) rfl ?_
      refine E_goto (pc := 37) (t := 20) (zDk zD_168_ok 18 rfl) rfl ?_
      exact (ih) (w64 (y4 * (10 : Int))) (w32 (y6 + 1)) M h
def lX_rainMean (x1 : Int) (x2 : Int) (x3 : Int) (M : Nat → Nat → Int) : Option (Int × (Nat → Nat → Int)) :=
    ((lD_asNow 37 M).bind (fun M4 =>
    ((lD_begin 37 M4).bind (fun M11 =>
    (lX_rainMean_c20 x1 x2 x3 zN (1 : Int) (0 : Int) M11)))))
set_option maxRecDepth 100000 in
theorem ok_lX_rainMean {sc : zSc} {x1 : Int} {x2 : Int} {x3 : Int} {M : Nat → Nat → Int} {P : Int → (Nat → Nat → Int) → Prop} (h : zS (lX_rainMean x1 x2 x3 M) (fun r => P r.1 r.2)) : zCl sc 168 [.inr (.inr 0), .inl x1, .inl x2, .inl x3] M P := by
  have ea : zarg (zml 168) [.inr (.inr 0), .inl x1, .inl x2, .inl x3] = [some (.inr (.inr 0)), some (.inl x1), some (.inl x2), some (.inl x3), none, none, none] := by rw [zm_168]; rfl
  unfold zCl zCw
  rw [ea, zr_168]
  have hq : 13 ≤ 13 := Nat.le_refl _
  unfold lX_rainMean at h
  have h := zS_mono h (fun x hx => (⟨x.1, rfl, hx⟩ : ∃ y, (some (.inr (.inl x.1)) : Option zV) = some (.inr (.inl y)) ∧ P y x.2))
  skip
  refine E_aload_n (pc := 0) (zDk zD_168_ok 0 rfl) rfl ?_
  refine E_getR (pc := 1) (ci := 7) (f := 5) (r := 37) (zDk zD_168_ok 1 rfl) zc_168 (by decide +kernel) (by decide) zis_7_0 (by decide +kernel) (by decide) ?_
  obtain ⟨M4, e4, h⟩ := zS_bind h
  refine E_virV (pc := 4) (c := 8) (r := 37) (as := []) (rest := []) (zDk zD_168_ok 2 rfl) zc_168 (by decide +kernel) zk_8 ⟨(Nat.le_of_ble_eq_true rfl), rfl, rfl⟩ (Nat.le_of_ble_eq_true rfl) (zr_8 _) (Nat.lt_of_lt_of_le (by decide) hq) (by rw [zm_8]; exact (Nat.le_of_ble_eq_true rfl)) ⟨zc_8, by decide⟩ zis_1_37 (ok_lD_asNow ⟨M4, e4, ?_⟩)
  refine E_aload_n (pc := 7) (zDk zD_168_ok 3 rfl) rfl ?_
  refine E_getR (pc := 8) (ci := 7) (f := 5) (r := 37) (zDk zD_168_ok 4 rfl) zc_168 (by decide +kernel) (by decide) zis_7_0 (by decide +kernel) (by decide) ?_
  obtain ⟨M11, e11, h⟩ := zS_bind h
  refine E_virV (pc := 11) (c := 10) (r := 37) (as := []) (rest := []) (zDk zD_168_ok 5 rfl) zc_168 (by decide +kernel) zk_10 ⟨(Nat.le_of_ble_eq_true rfl), rfl, rfl⟩ (Nat.le_of_ble_eq_true rfl) (zr_10 _) (Nat.lt_of_lt_of_le (by decide) hq) (by rw [zm_10]; exact (Nat.le_of_ble_eq_true rfl)) ⟨zc_10, by decide⟩ zis_1_37 (ok_lD_begin ⟨M11, e11, ?_⟩)
  refine E_lconst (pc := 14) (v := 1) (zDk zD_168_ok 6 rfl) (by decide +kernel) ?_
  refine W_lstore (pc := 15) (L' := [some (.inr (.inr 0)), some (.inl x1), some (.inl x2), some (.inl x3), some (.inr (.inl (1 : Int))), none, none]) (zDk zD_168_ok 7 rfl) zm_168 (by decide) rfl ?_
  refine E_iconst (pc := 17) (zDk zD_168_ok 8 rfl) (by decide +kernel) ?_
  refine W_istore (pc := 18) (L' := [some (.inr (.inr 0)), some (.inl x1), some (.inl x2), some (.inl x3), some (.inr (.inl (1 : Int))), none, some (.inl (0 : Int))]) (zDk zD_168_ok 9 rfl) zm_168 (by decide) rfl ?_
  exact ok_lX_rainMean_c20 hq x1 x2 x3 zN (1 : Int) (0 : Int) M11 h
def zD_130 : List (Nat × Instr × Nat) := [(0, .aload_n (0), 1), (1, .getfield (19), 3), (4, .iload_n (1), 1), (5, .invokevirtual (130), 3), (8, .ifCond .eq (20), 3), (11, .aload_n (0), 1), (12, .iload_n (2), 1), (13, .invokevirtual (304), 3), (16, .ifCond .eq (12), 3), (19, .iload_n (3), 1), (20, .ifCond .lt (8), 3), (23, .iload_n (3), 1), (24, .iconst (1), 1), (25, .if_icmp .le (7), 3), (28, .ldc2_w (307), 3), (31, .lreturn, 1), (32, .aload_n (0), 1), (33, .iconst (1), 1), (34, .iload_n (1), 1), (35, .ishl, 1), (36, .iload_n (2), 1), (37, .iload_n (3), 1), (38, .invokevirtual (309), 3), (41, .lreturn, 1)]
set_option maxRecDepth 100000 in
theorem zD_130_ok : zDo 130 zD_130 = true := by decide +kernel
theorem zc_130 : zcls 130 = 7 := by decide +kernel
theorem zm_130 : zml 130 = 4 := by decide +kernel
theorem zt_130 : zrt 130 = (some (.long)) := by decide +kernel
theorem zk_130 : zkd 130 = 1 ∧ znp 130 + 1 = 4 := by decide +kernel
theorem zr_130 (as : List zV) : zrk 130 as = 14 := by unfold zrk; rw [if_neg (by decide)]; decide +kernel
def lX_chance (x1 : Int) (x2 : Int) (x3 : Int) (M : Nat → Nat → Int) : Option (Int × (Nat → Nat → Int)) :=
    ((lT_hasContract 3 x1 M).bind (fun v5 =>
    (if v5 = 0 then
    (some ((-2 : Int), M))
    else
    ((lX_canRainTo x2 M).bind (fun v13 =>
    (if v13 = 0 then
    (some ((-2 : Int), M))
    else
    (if x3 < 0 then
    (some ((-2 : Int), M))
    else
    (if (1 : Int) < x3 then
    (some ((-2 : Int), M))
    else
    ((lX_rainMean (zshl (1 : Int) x1) x2 x3 M).bind (fun r38_ =>
    (some (r38_.1, r38_.2))))))))))))
set_option maxRecDepth 100000 in
theorem ok_lX_chance {sc : zSc} {x1 : Int} {x2 : Int} {x3 : Int} {M : Nat → Nat → Int} {P : Int → (Nat → Nat → Int) → Prop} (h : zS (lX_chance x1 x2 x3 M) (fun r => P r.1 r.2)) : zCl sc 130 [.inr (.inr 0), .inl x1, .inl x2, .inl x3] M P := by
  have ea : zarg (zml 130) [.inr (.inr 0), .inl x1, .inl x2, .inl x3] = [some (.inr (.inr 0)), some (.inl x1), some (.inl x2), some (.inl x3)] := by rw [zm_130]; rfl
  unfold zCl zCw
  rw [ea, zr_130]
  have hq : 14 ≤ 14 := Nat.le_refl _
  unfold lX_chance at h
  have h := zS_mono h (fun x hx => (⟨x.1, rfl, hx⟩ : ∃ y, (some (.inr (.inl x.1)) : Option zV) = some (.inr (.inl y)) ∧ P y x.2))
  skip
  refine E_aload_n (pc := 0) (zDk zD_130_ok 0 rfl) rfl ?_
  refine E_getR (pc := 1) (ci := 7) (f := 1) (r := 3) (zDk zD_130_ok 1 rfl) zc_130 (by decide +kernel) (by decide) zis_7_0 (by decide +kernel) (by decide) ?_
  refine E_iload_n (pc := 4) (zDk zD_130_ok 2 rfl) rfl ?_
  obtain ⟨v5, e5, h⟩ := zS_bind h
  refine E_virI (pc := 5) (c := 74) (r := 3) (as := [.inl x1]) (rest := []) (zDk zD_130_ok 3 rfl) zc_130 (by decide +kernel) zk_74 ⟨(Nat.le_of_ble_eq_true rfl), rfl, rfl⟩ (Nat.le_of_ble_eq_true rfl) (zr_74 _) (Nat.lt_of_lt_of_le (by decide) hq) (by rw [zm_74]; exact (Nat.le_of_ble_eq_true rfl)) ⟨zc_74, by decide⟩ zis_6_3 (ok_lT_hasContract ⟨v5, e5, ?_⟩)
  refine E_if (pc := 8) (t := 28) (zDk zD_130_ok 4 rfl) rfl (fun hz => ?_) (fun hz => ?_)
  · have h := zS_t h (T_eq hz)
    refine E_ldc2_w (pc := 28) (v := .inr (.inl (-2 : Int))) (zDk zD_130_ok 14 rfl) zc_130 (by decide +kernel) ?_
    have h := zS_some h
    exact E_lreturn (pc := 31) (zDk zD_130_ok 15 rfl) zt_130 h
  · have h := zS_f h (F_eq hz)
    refine E_aload_n (pc := 11) (zDk zD_130_ok 5 rfl) rfl ?_
    refine E_iload_n (pc := 12) (zDk zD_130_ok 6 rfl) rfl ?_
    obtain ⟨v13, e13, h⟩ := zS_bind h
    refine E_virI (pc := 13) (c := 167) (r := 0) (as := [.inl x2]) (rest := []) (zDk zD_130_ok 7 rfl) zc_130 (by decide +kernel) zk_167 ⟨(Nat.le_of_ble_eq_true rfl), rfl, rfl⟩ (Nat.le_of_ble_eq_true rfl) (zr_167 _) (Nat.lt_of_lt_of_le (by decide) hq) (by rw [zm_167]; exact (Nat.le_of_ble_eq_true rfl)) ⟨zc_167, by decide⟩ zis_7_0 (ok_lX_canRainTo ⟨v13, e13, ?_⟩)
    refine E_if (pc := 16) (t := 28) (zDk zD_130_ok 8 rfl) rfl (fun hz => ?_) (fun hz => ?_)
    · have h := zS_t h (T_eq hz)
      refine E_ldc2_w (pc := 28) (v := .inr (.inl (-2 : Int))) (zDk zD_130_ok 14 rfl) zc_130 (by decide +kernel) ?_
      have h := zS_some h
      exact E_lreturn (pc := 31) (zDk zD_130_ok 15 rfl) zt_130 h
    · have h := zS_f h (F_eq hz)
      refine E_iload_n (pc := 19) (zDk zD_130_ok 9 rfl) rfl ?_
      refine E_if (pc := 20) (t := 28) (zDk zD_130_ok 10 rfl) rfl (fun hz => ?_) (fun hz => ?_)
      · have h := zS_t h (T_lt hz)
        refine E_ldc2_w (pc := 28) (v := .inr (.inl (-2 : Int))) (zDk zD_130_ok 14 rfl) zc_130 (by decide +kernel) ?_
        have h := zS_some h
        exact E_lreturn (pc := 31) (zDk zD_130_ok 15 rfl) zt_130 h
      · have h := zS_f h (Int.not_lt.mpr (F_lt hz))
        refine E_iload_n (pc := 23) (zDk zD_130_ok 11 rfl) rfl ?_
        refine E_iconst (pc := 24) (zDk zD_130_ok 12 rfl) (by decide +kernel) ?_
        refine E_icmp (pc := 25) (t := 32) (zDk zD_130_ok 13 rfl) rfl (fun hz => ?_) (fun hz => ?_)
        · have h := zS_f h (Int.not_lt.mpr (T_le hz))
          refine E_aload_n (pc := 32) (zDk zD_130_ok 16 rfl) rfl ?_
          refine E_iconst (pc := 33) (zDk zD_130_ok 17 rfl) (by decide +kernel) ?_
          refine E_iload_n (pc := 34) (zDk zD_130_ok 18 rfl) rfl ?_
          refine E_ishl (pc := 35) (zDk zD_130_ok 19 rfl) ?_
          refine E_iload_n (pc := 36) (zDk zD_130_ok 20 rfl) rfl ?_
          refine E_iload_n (pc := 37) (zDk zD_130_ok 21 rfl) rfl ?_
          obtain ⟨r38_, e38, h⟩ := zS_bind h
          refine E_virL (pc := 38) (c := 168) (r := 0) (as := [.inl (zshl (1 : Int) x1), .inl x2, .inl x3]) (rest := []) (zDk zD_130_ok 22 rfl) zc_130 (by decide +kernel) zk_168 ⟨(Nat.le_of_ble_eq_true rfl), rfl, rfl⟩ (Nat.le_of_ble_eq_true rfl) (zr_168 _) (Nat.lt_of_lt_of_le (by decide) hq) (by rw [zm_168]; exact (Nat.le_of_ble_eq_true rfl)) ⟨zc_168, by decide⟩ zis_7_0 (ok_lX_rainMean ⟨r38_, e38, ?_⟩)
          have h := zS_some h
          exact E_lreturn (pc := 41) (zDk zD_130_ok 23 rfl) zt_130 h
        · have h := zS_t h (F_le hz)
          refine E_ldc2_w (pc := 28) (v := .inr (.inl (-2 : Int))) (zDk zD_130_ok 14 rfl) zc_130 (by decide +kernel) ?_
          have h := zS_some h
          exact E_lreturn (pc := 31) (zDk zD_130_ok 15 rfl) zt_130 h
def zD_131 : List (Nat × Instr × Nat) := [(0, .aload_n (0), 1), (1, .iload_n (1), 1), (2, .invokevirtual (304), 3), (5, .ifCond .eq (12), 3), (8, .iload_n (2), 1), (9, .ifCond .lt (8), 3), (12, .iload_n (2), 1), (13, .iconst (1), 1), (14, .if_icmp .le (7), 3), (17, .ldc2_w (307), 3), (20, .lreturn, 1), (21, .aload_n (0), 1), (22, .bipush (63), 2), (24, .iload_n (1), 1), (25, .iload_n (2), 1), (26, .invokevirtual (309), 3), (29, .lreturn, 1)]
set_option maxRecDepth 100000 in
theorem zD_131_ok : zDo 131 zD_131 = true := by decide +kernel
theorem zc_131 : zcls 131 = 7 := by decide +kernel
theorem zm_131 : zml 131 = 3 := by decide +kernel
theorem zt_131 : zrt 131 = (some (.long)) := by decide +kernel
theorem zk_131 : zkd 131 = 1 ∧ znp 131 + 1 = 3 := by decide +kernel
theorem zr_131 (as : List zV) : zrk 131 as = 14 := by unfold zrk; rw [if_neg (by decide)]; decide +kernel
def lX_mean (x1 : Int) (x2 : Int) (M : Nat → Nat → Int) : Option (Int × (Nat → Nat → Int)) :=
    ((lX_canRainTo x1 M).bind (fun v2 =>
    (if v2 = 0 then
    (some ((-2 : Int), M))
    else
    (if x2 < 0 then
    (some ((-2 : Int), M))
    else
    (if (1 : Int) < x2 then
    (some ((-2 : Int), M))
    else
    ((lX_rainMean (63 : Int) x1 x2 M).bind (fun r26_ =>
    (some (r26_.1, r26_.2)))))))))
set_option maxRecDepth 100000 in
theorem ok_lX_mean {sc : zSc} {x1 : Int} {x2 : Int} {M : Nat → Nat → Int} {P : Int → (Nat → Nat → Int) → Prop} (h : zS (lX_mean x1 x2 M) (fun r => P r.1 r.2)) : zCl sc 131 [.inr (.inr 0), .inl x1, .inl x2] M P := by
  have ea : zarg (zml 131) [.inr (.inr 0), .inl x1, .inl x2] = [some (.inr (.inr 0)), some (.inl x1), some (.inl x2)] := by rw [zm_131]; rfl
  unfold zCl zCw
  rw [ea, zr_131]
  have hq : 14 ≤ 14 := Nat.le_refl _
  unfold lX_mean at h
  have h := zS_mono h (fun x hx => (⟨x.1, rfl, hx⟩ : ∃ y, (some (.inr (.inl x.1)) : Option zV) = some (.inr (.inl y)) ∧ P y x.2))
  skip
  refine E_aload_n (pc := 0) (zDk zD_131_ok 0 rfl) rfl ?_
  refine E_iload_n (pc := 1) (zDk zD_131_ok 1 rfl) rfl ?_
  obtain ⟨v2, e2, h⟩ := zS_bind h
  refine E_virI (pc := 2) (c := 167) (r := 0) (as := [.inl x1]) (rest := []) (zDk zD_131_ok 2 rfl) zc_131 (by decide +kernel) zk_167 ⟨(Nat.le_of_ble_eq_true rfl), rfl, rfl⟩ (Nat.le_of_ble_eq_true rfl) (zr_167 _) (Nat.lt_of_lt_of_le (by decide) hq) (by rw [zm_167]; exact (Nat.le_of_ble_eq_true rfl)) ⟨zc_167, by decide⟩ zis_7_0 (ok_lX_canRainTo ⟨v2, e2, ?_⟩)
  refine E_if (pc := 5) (t := 17) (zDk zD_131_ok 3 rfl) rfl (fun hz => ?_) (fun hz => ?_)
  · have h := zS_t h (T_eq hz)
    refine E_ldc2_w (pc := 17) (v := .inr (.inl (-2 : Int))) (zDk zD_131_ok 9 rfl) zc_131 (by decide +kernel) ?_
    have h := zS_some h
    exact E_lreturn (pc := 20) (zDk zD_131_ok 10 rfl) zt_131 h
  · have h := zS_f h (F_eq hz)
    refine E_iload_n (pc := 8) (zDk zD_131_ok 4 rfl) rfl ?_
    refine E_if (pc := 9) (t := 17) (zDk zD_131_ok 5 rfl) rfl (fun hz => ?_) (fun hz => ?_)
    · have h := zS_t h (T_lt hz)
      refine E_ldc2_w (pc := 17) (v := .inr (.inl (-2 : Int))) (zDk zD_131_ok 9 rfl) zc_131 (by decide +kernel) ?_
      have h := zS_some h
      exact E_lreturn (pc := 20) (zDk zD_131_ok 10 rfl) zt_131 h
    · have h := zS_f h (Int.not_lt.mpr (F_lt hz))
      refine E_iload_n (pc := 12) (zDk zD_131_ok 6 rfl) rfl ?_
      refine E_iconst (pc := 13) (zDk zD_131_ok 7 rfl) (by decide +kernel) ?_
      refine E_icmp (pc := 14) (t := 21) (zDk zD_131_ok 8 rfl) rfl (fun hz => ?_) (fun hz => ?_)
      · have h := zS_f h (Int.not_lt.mpr (T_le hz))
        refine E_aload_n (pc := 21) (zDk zD_131_ok 11 rfl) rfl ?_
        refine E_bipush (pc := 22) (zDk zD_131_ok 12 rfl) (by decide +kernel) ?_
        refine E_iload_n (pc := 24) (zDk zD_131_ok 13 rfl) rfl ?_
        refine E_iload_n (pc := 25) (zDk zD_131_ok 14 rfl) rfl ?_
        obtain ⟨r26_, e26, h⟩ := zS_bind h
        refine E_virL (pc := 26) (c := 168) (r := 0) (as := [.inl (63 : Int), .inl x1, .inl x2]) (rest := []) (zDk zD_131_ok 15 rfl) zc_131 (by decide +kernel) zk_168 ⟨(Nat.le_of_ble_eq_true rfl), rfl, rfl⟩ (Nat.le_of_ble_eq_true rfl) (zr_168 _) (Nat.lt_of_lt_of_le (by decide) hq) (by rw [zm_168]; exact (Nat.le_of_ble_eq_true rfl)) ⟨zc_168, by decide⟩ zis_7_0 (ok_lX_rainMean ⟨r26_, e26, ?_⟩)
        have h := zS_some h
        exact E_lreturn (pc := 29) (zDk zD_131_ok 16 rfl) zt_131 h
      · have h := zS_t h (F_le hz)
        refine E_ldc2_w (pc := 17) (v := .inr (.inl (-2 : Int))) (zDk zD_131_ok 9 rfl) zc_131 (by decide +kernel) ?_
        have h := zS_some h
        exact E_lreturn (pc := 20) (zDk zD_131_ok 10 rfl) zt_131 h
