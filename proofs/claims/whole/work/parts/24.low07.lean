/-! Lifted methods 7 (written by wip/whole/lift.py): decode rows, functions, proofs. -/
def zD_174 : List (Nat × Instr × Nat) := [(0, .aload_n (0), 1), (1, .getfield (42), 3), (4, .invokevirtual (253), 3), (7, .aload_n (0), 1), (8, .getfield (42), 3), (11, .iload_n (1), 1), (12, .invokevirtual (259), 3), (15, .pop, 1), (16, .aload_n (0), 1), (17, .getfield (42), 3), (20, .getfield (174), 3), (23, .aload_n (0), 1), (24, .getfield (19), 3), (27, .getfield (177), 3), (30, .iaload, 1), (31, .ireturn, 1)]
set_option maxRecDepth 100000 in
theorem zD_174_ok : zDo 174 zD_174 = true := by decide +kernel
theorem zc_174 : zcls 174 = 7 := by decide +kernel
theorem zm_174 : zml 174 = 2 := by decide +kernel
theorem zt_174 : zrt 174 = (some (.int)) := by decide +kernel
theorem zk_174 : zkd 174 = 1 ∧ znp 174 + 1 = 2 := by decide +kernel
theorem zr_174 (as : List zV) : zrk 174 as = 4 := by unfold zrk; rw [if_neg (by decide)]; decide +kernel
def lX_signedInRain (x1 : Int) (M : Nat → Nat → Int) : Option (Int × (Nat → Nat → Int)) :=
    ((lD_asNow 37 M).bind (fun M4 =>
    ((lD_runAll 37 x1 M4).bind (fun r12_ =>
    ((rdI 44 (r12_.2 3 1) r12_.2).bind (fun v30 =>
    (some (v30, r12_.2))))))))
set_option maxRecDepth 100000 in
theorem ok_lX_signedInRain {sc : zSc} {x1 : Int} {M : Nat → Nat → Int} {P : Int → (Nat → Nat → Int) → Prop} (h : zS (lX_signedInRain x1 M) (fun r => P r.1 r.2)) : zCi sc 174 [.inr (.inr 0), .inl x1] M P := by
  have ea : zarg (zml 174) [.inr (.inr 0), .inl x1] = [some (.inr (.inr 0)), some (.inl x1)] := by rw [zm_174]; rfl
  unfold zCi zCw
  rw [ea, zr_174]
  have hq : 4 ≤ 4 := Nat.le_refl _
  unfold lX_signedInRain at h
  have h := zS_mono h (fun x hx => (⟨x.1, rfl, hx⟩ : ∃ y, (some (.inl x.1) : Option zV) = some (.inl y) ∧ P y x.2))
  skip
  refine E_aload_n (pc := 0) (zDk zD_174_ok 0 rfl) rfl ?_
  refine E_getR (pc := 1) (ci := 7) (f := 5) (r := 37) (zDk zD_174_ok 1 rfl) zc_174 (by decide +kernel) (by decide) zis_7_0 (by decide +kernel) (by decide) ?_
  obtain ⟨M4, e4, h⟩ := zS_bind h
  refine E_virV (pc := 4) (c := 8) (r := 37) (as := []) (rest := []) (zDk zD_174_ok 2 rfl) zc_174 (by decide +kernel) zk_8 ⟨(Nat.le_of_ble_eq_true rfl), rfl, rfl⟩ (Nat.le_of_ble_eq_true rfl) (zr_8 _) (Nat.lt_of_lt_of_le (by decide) hq) (by rw [zm_8]; exact (Nat.le_of_ble_eq_true rfl)) ⟨zc_8, by decide⟩ zis_1_37 (ok_lD_asNow ⟨M4, e4, ?_⟩)
  refine E_aload_n (pc := 7) (zDk zD_174_ok 3 rfl) rfl ?_
  refine E_getR (pc := 8) (ci := 7) (f := 5) (r := 37) (zDk zD_174_ok 4 rfl) zc_174 (by decide +kernel) (by decide) zis_7_0 (by decide +kernel) (by decide) ?_
  refine E_iload_n (pc := 11) (zDk zD_174_ok 5 rfl) rfl ?_
  obtain ⟨r12_, e12, h⟩ := zS_bind h
  refine E_virI (pc := 12) (c := 9) (r := 37) (as := [.inl x1]) (rest := []) (zDk zD_174_ok 6 rfl) zc_174 (by decide +kernel) zk_9 ⟨(Nat.le_of_ble_eq_true rfl), rfl, rfl⟩ (Nat.le_of_ble_eq_true rfl) (zr_9 _) (Nat.lt_of_lt_of_le (by decide) hq) (by rw [zm_9]; exact (Nat.le_of_ble_eq_true rfl)) ⟨zc_9, by decide⟩ zis_1_37 (ok_lD_runAll ⟨r12_, e12, ?_⟩)
  refine E_pop (pc := 15) (zDk zD_174_ok 7 rfl) rfl ?_
  refine E_aload_n (pc := 16) (zDk zD_174_ok 8 rfl) rfl ?_
  refine E_getR (pc := 17) (ci := 7) (f := 5) (r := 37) (zDk zD_174_ok 9 rfl) zc_174 (by decide +kernel) (by decide) zis_7_0 (by decide +kernel) (by decide) ?_
  refine E_getR (pc := 20) (ci := 1) (f := 7) (r := 44) (zDk zD_174_ok 10 rfl) zc_174 (by decide +kernel) (by decide) zis_1_37 (by decide +kernel) (by decide) ?_
  refine E_aload_n (pc := 23) (zDk zD_174_ok 11 rfl) rfl ?_
  refine E_getR (pc := 24) (ci := 7) (f := 1) (r := 3) (zDk zD_174_ok 12 rfl) zc_174 (by decide +kernel) (by decide) zis_7_0 (by decide +kernel) (by decide) ?_
  refine E_getI (pc := 27) (ci := 6) (f := 1) (zDk zD_174_ok 13 rfl) zc_174 (by decide +kernel) (by decide) zis_6_3 ?_
  obtain ⟨v30, e30, h⟩ := zS_bind h
  refine E_iaload (pc := 30) (zDk zD_174_ok 14 rfl) e30 ?_
  have h := zS_some h
  exact E_ireturn (pc := 31) (zDk zD_174_ok 15 rfl) zt_174 h
def zD_198 : List (Nat × Instr × Nat) := [(0, .aload_n (0), 1), (1, .invokevirtual (143), 3), (4, .ifCond .eq (31), 3), (7, .aload_n (0), 1), (8, .getfield (119), 3), (11, .iconst (1), 1), (12, .if_icmp .ne (23), 3), (15, .aload_n (0), 1), (16, .getfield (109), 3), (19, .aload_n (0), 1), (20, .getfield (116), 3), (23, .isub, 1), (24, .aload_n (1), 1), (25, .invokevirtual (146), 3), (28, .if_icmp .ne (7), 3), (31, .iconst (1), 1), (32, .goto (4), 3), (35, .iconst (0), 1), (36, .istore_n (2), 1), (37, .iconst (0), 1), (38, .istore_n (3), 1), (39, .iload_n (3), 1), (40, .aload_n (1), 1), (41, .invokevirtual (146), 3), (44, .if_icmp .ge (38), 3), (47, .iload_n (2), 1), (48, .ifCond .eq (34), 3), (51, .aload_n (0), 1), (52, .getfield (20), 3), (55, .aload_n (0), 1), (56, .getfield (116), 3), (59, .iload_n (3), 1), (60, .iadd, 1), (61, .baload, 1), (62, .aload_n (1), 1), (63, .iload_n (3), 1), (64, .invokevirtual (151), 3), (67, .if_icmp .ne (7), 3), (70, .iconst (1), 1), (71, .goto (4), 3), (74, .iconst (0), 1), (75, .istore_n (2), 1), (76, .iinc (3) (1), 3), (79, .goto (-40), 3), (82, .iload_n (2), 1), (83, .ireturn, 1)]
set_option maxRecDepth 100000 in
theorem zD_198_ok : zDo 198 zD_198 = true := by decide +kernel
theorem zc_198 : zcls 198 = 8 := by decide +kernel
theorem zm_198 : zml 198 = 4 := by decide +kernel
theorem zt_198 : zrt 198 = (some (.boolean)) := by decide +kernel
theorem zk_198 : zkd 198 = 1 ∧ znp 198 + 1 = 2 := by decide +kernel
theorem zr_198 (as : List zV) : zrk 198 as = 4 := by unfold zrk; rw [if_neg (by decide)]; decide +kernel
def lm_is_c39 (w1 : Nat) (M : Nat → Nat → Int) : Nat → Int → Int → Option Int
  | 0, _, _ => none
  | n + 1, y2, y3 =>
    ((lS_length w1 M).bind (fun v41 =>
    (if y3 < v41 then
    (if y2 = 0 then
    (if y2 = 0 ∨ y2 = 1 then some y2 else none)
    else
    ((rdB 110 (w32 ((M 106 9) + y3)) M).bind (fun v61 =>
    ((lS_charAt w1 y3 M).bind (fun v64 =>
    (if v61 = v64 then
    ((lm_is_c39 w1 M n) (1 : Int) (w32 (y3 + 1)))
    else
    ((lm_is_c39 w1 M n) (0 : Int) (w32 (y3 + 1)))))))))
    else
    (if y2 = 0 ∨ y2 = 1 then some y2 else none))))
set_option maxRecDepth 100000 in
theorem ok_lm_is_c39 {sc : zSc} {q : Nat} {P : Option zV → (Nat → Nat → Int) → Prop} (hq : 4 ≤ q) (w1 : Nat) (hw1 : 5003 ≤ w1 ∧ w1 < 5033) (M : Nat → Nat → Int) : ∀ (n : Nat) (y2 : Int) (y3 : Int), zS (lm_is_c39 w1 M n y2 y3) (fun x => P (some (.inl x)) M) → zWp sc q 198 39 [some (.inr (.inr 106)), some (.inr (.inr w1)), some (.inl y2), some (.inl y3)] [] M P := by
  intro n
  induction n with
  | zero => intro y2 y3 h; exact (zS_none h).elim
  | succ n ih =>
    intro y2 y3 h
    rw [lm_is_c39] at h
    refine E_iload_n (pc := 39) (zDk zD_198_ok 21 rfl) rfl ?_
    refine E_aload_n (pc := 40) (zDk zD_198_ok 22 rfl) rfl ?_
    obtain ⟨v41, e41, h⟩ := zS_bind h
    refine E_strI (pc := 41) (c := 322) (r := w1) (as := []) (rest := [.inl y3]) (zDk zD_198_ok 23 rfl) zc_198 (by decide +kernel) zk_322 ⟨(Nat.le_of_ble_eq_true rfl), rfl, rfl⟩ (Nat.le_of_ble_eq_true rfl) (zr_322 _) (Nat.lt_of_lt_of_le (by decide) hq) (by rw [zm_322]; exact (Nat.le_of_ble_eq_true rfl)) zc_322 hw1 (ok_lS_length ⟨v41, e41, ?_⟩)
    refine E_icmp (pc := 44) (t := 82) (zDk zD_198_ok 24 rfl) rfl (fun hz => ?_) (fun hz => ?_)
    · have h := zS_f h (Int.not_lt.mpr (T_ge hz))
      refine E_iload_n (pc := 82) (zDk zD_198_ok 44 rfl) rfl ?_
      obtain ⟨hx, h⟩ := zS_c h
      have h := zS_some h
      exact E_ireturnZ (pc := 83) (zDk zD_198_ok 45 rfl) zt_198 hx h
    · have h := zS_t h (F_ge hz)
      refine E_iload_n (pc := 47) (zDk zD_198_ok 25 rfl) rfl ?_
      refine E_if (pc := 48) (t := 82) (zDk zD_198_ok 26 rfl) rfl (fun hz => ?_) (fun hz => ?_)
      · have h := zS_t h (T_eq hz)
        refine E_iload_n (pc := 82) (zDk zD_198_ok 44 rfl) rfl ?_
        obtain ⟨hx, h⟩ := zS_c h
        have h := zS_some h
        exact E_ireturnZ (pc := 83) (zDk zD_198_ok 45 rfl) zt_198 hx h
      · have h := zS_f h (F_eq hz)
        refine E_aload_n (pc := 51) (zDk zD_198_ok 27 rfl) rfl ?_
        refine E_getR (pc := 52) (ci := 8) (f := 4) (r := 110) (zDk zD_198_ok 28 rfl) zc_198 (by decide +kernel) (by decide) zis_8_106 (by decide +kernel) (by decide) ?_
        refine E_aload_n (pc := 55) (zDk zD_198_ok 29 rfl) rfl ?_
        refine E_getI (pc := 56) (ci := 8) (f := 9) (zDk zD_198_ok 30 rfl) zc_198 (by decide +kernel) (by decide) zis_8_106 ?_
        refine E_iload_n (pc := 59) (zDk zD_198_ok 31 rfl) rfl ?_
        refine W_iadd (pc := 60) (zDk zD_198_ok 32 rfl) ?_
        obtain ⟨v61, e61, h⟩ := zS_bind h
        refine E_baload (pc := 61) (zDk zD_198_ok 33 rfl) e61 ?_
        refine E_aload_n (pc := 62) (zDk zD_198_ok 34 rfl) rfl ?_
        refine E_iload_n (pc := 63) (zDk zD_198_ok 35 rfl) rfl ?_
        obtain ⟨v64, e64, h⟩ := zS_bind h
        refine E_strI (pc := 64) (c := 323) (r := w1) (as := [.inl y3]) (rest := [.inl v61]) (zDk zD_198_ok 36 rfl) zc_198 (by decide +kernel) zk_323 ⟨(Nat.le_of_ble_eq_true rfl), rfl, rfl⟩ (Nat.le_of_ble_eq_true rfl) (zr_323 _) (Nat.lt_of_lt_of_le (by decide) hq) (by rw [zm_323]; exact (Nat.le_of_ble_eq_true rfl)) zc_323 hw1 (ok_lS_charAt ⟨v64, e64, ?_⟩)
        refine E_icmp (pc := 67) (t := 74) (zDk zD_198_ok 37 rfl) rfl (fun hz => ?_) (fun hz => ?_)
        · have h := zS_f h (T_ne hz)
          refine E_iconst (pc := 74) (zDk zD_198_ok 40 rfl) (by decide +kernel) ?_
          refine W_istore_n (pc := 75) (L' := [some (.inr (.inr 106)), some (.inr (.inr w1)), some (.inl (0 : Int)), some (.inl y3)]) (zDk zD_198_ok 41 rfl) zm_198 (by decide) rfl ?_
          refine W_iinc (pc := 76) (L' := [some (.inr (.inr 106)), some (.inr (.inr w1)), some (.inl (0 : Int)), some (.inl (w32 (y3 + 1)))]) (zDk zD_198_ok 42 rfl) rfl zm_198 (by decide) rfl ?_
          refine E_goto (pc := 79) (t := 39) (zDk zD_198_ok 43 rfl) rfl ?_
          exact (ih) (0 : Int) (w32 (y3 + 1)) h
        · have h := zS_t h (F_ne hz)
          refine E_iconst (pc := 70) (zDk zD_198_ok 38 rfl) (by decide +kernel) ?_
          refine E_goto (pc := 71) (t := 75) (zDk zD_198_ok 39 rfl) rfl ?_
          refine W_istore_n (pc := 75) (L' := [some (.inr (.inr 106)), some (.inr (.inr w1)), some (.inl (1 : Int)), some (.inl y3)]) (zDk zD_198_ok 41 rfl) zm_198 (by decide) rfl ?_
          refine W_iinc (pc := 76) (L' := [some (.inr (.inr 106)), some (.inr (.inr w1)), some (.inl (1 : Int)), some (.inl (w32 (y3 + 1)))]) (zDk zD_198_ok 42 rfl) rfl zm_198 (by decide) rfl ?_
          refine E_goto (pc := 79) (t := 39) (zDk zD_198_ok 43 rfl) rfl ?_
          exact (ih) (1 : Int) (w32 (y3 + 1)) h
def lm_is (w1 : Nat) (M : Nat → Nat → Int) : Option Int :=
    (if 5003 ≤ w1 ∧ w1 < 5033 then
    ((lm_good M).bind (fun v1 =>
    (if v1 = 0 then
    (lm_is_c39 w1 M zN (0 : Int) (0 : Int))
    else
    (if (M 106 10) = (1 : Int) then
    ((lS_length w1 M).bind (fun v25 =>
    (if (w32 ((M 106 8) - (M 106 9))) = v25 then
    (lm_is_c39 w1 M zN (1 : Int) (0 : Int))
    else
    (lm_is_c39 w1 M zN (0 : Int) (0 : Int)))))
    else
    (lm_is_c39 w1 M zN (0 : Int) (0 : Int))))))
    else none)
set_option maxRecDepth 100000 in
theorem ok_lm_is {sc : zSc} {w1 : Nat} {M : Nat → Nat → Int} {P : Int → (Nat → Nat → Int) → Prop} (h : zS (lm_is w1 M) (fun x => P x M)) : zCi sc 198 [.inr (.inr 106), .inr (.inr w1)] M P := by
  have ea : zarg (zml 198) [.inr (.inr 106), .inr (.inr w1)] = [some (.inr (.inr 106)), some (.inr (.inr w1)), none, none] := by rw [zm_198]; rfl
  unfold zCi zCw
  rw [ea, zr_198]
  have hq : 4 ≤ 4 := Nat.le_refl _
  unfold lm_is at h
  have h := zS_mono h (fun x hx => (⟨x, rfl, hx⟩ : ∃ y, (some (.inl x) : Option zV) = some (.inl y) ∧ P y M))
  obtain ⟨hw1, h⟩ := zS_c h
  skip
  refine E_aload_n (pc := 0) (zDk zD_198_ok 0 rfl) rfl ?_
  obtain ⟨v1, e1, h⟩ := zS_bind h
  refine E_virI (pc := 1) (c := 196) (r := 106) (as := []) (rest := []) (zDk zD_198_ok 1 rfl) zc_198 (by decide +kernel) zk_196 ⟨(Nat.le_of_ble_eq_true rfl), rfl, rfl⟩ (Nat.le_of_ble_eq_true rfl) (zr_196 _) (Nat.lt_of_lt_of_le (by decide) hq) (by rw [zm_196]; exact (Nat.le_of_ble_eq_true rfl)) ⟨zc_196, by decide⟩ zis_8_106 (ok_lm_good ⟨v1, e1, ?_⟩)
  refine E_if (pc := 4) (t := 35) (zDk zD_198_ok 2 rfl) rfl (fun hz => ?_) (fun hz => ?_)
  · have h := zS_t h (T_eq hz)
    refine E_iconst (pc := 35) (zDk zD_198_ok 17 rfl) (by decide +kernel) ?_
    refine W_istore_n (pc := 36) (L' := [some (.inr (.inr 106)), some (.inr (.inr w1)), some (.inl (0 : Int)), none]) (zDk zD_198_ok 18 rfl) zm_198 (by decide) rfl ?_
    refine E_iconst (pc := 37) (zDk zD_198_ok 19 rfl) (by decide +kernel) ?_
    refine W_istore_n (pc := 38) (L' := [some (.inr (.inr 106)), some (.inr (.inr w1)), some (.inl (0 : Int)), some (.inl (0 : Int))]) (zDk zD_198_ok 20 rfl) zm_198 (by decide) rfl ?_
    exact ok_lm_is_c39 hq w1 hw1 M zN (0 : Int) (0 : Int) h
  · have h := zS_f h (F_eq hz)
    refine E_aload_n (pc := 7) (zDk zD_198_ok 3 rfl) rfl ?_
    refine E_getI (pc := 8) (ci := 8) (f := 10) (zDk zD_198_ok 4 rfl) zc_198 (by decide +kernel) (by decide) zis_8_106 ?_
    refine E_iconst (pc := 11) (zDk zD_198_ok 5 rfl) (by decide +kernel) ?_
    refine E_icmp (pc := 12) (t := 35) (zDk zD_198_ok 6 rfl) rfl (fun hz => ?_) (fun hz => ?_)
    · have h := zS_f h (T_ne hz)
      refine E_iconst (pc := 35) (zDk zD_198_ok 17 rfl) (by decide +kernel) ?_
      refine W_istore_n (pc := 36) (L' := [some (.inr (.inr 106)), some (.inr (.inr w1)), some (.inl (0 : Int)), none]) (zDk zD_198_ok 18 rfl) zm_198 (by decide) rfl ?_
      refine E_iconst (pc := 37) (zDk zD_198_ok 19 rfl) (by decide +kernel) ?_
      refine W_istore_n (pc := 38) (L' := [some (.inr (.inr 106)), some (.inr (.inr w1)), some (.inl (0 : Int)), some (.inl (0 : Int))]) (zDk zD_198_ok 20 rfl) zm_198 (by decide) rfl ?_
      exact ok_lm_is_c39 hq w1 hw1 M zN (0 : Int) (0 : Int) h
    · have h := zS_t h (F_ne hz)
      refine E_aload_n (pc := 15) (zDk zD_198_ok 7 rfl) rfl ?_
      refine E_getI (pc := 16) (ci := 8) (f := 8) (zDk zD_198_ok 8 rfl) zc_198 (by decide +kernel) (by decide) zis_8_106 ?_
      refine E_aload_n (pc := 19) (zDk zD_198_ok 9 rfl) rfl ?_
      refine E_getI (pc := 20) (ci := 8) (f := 9) (zDk zD_198_ok 10 rfl) zc_198 (by decide +kernel) (by decide) zis_8_106 ?_
      refine W_isub (pc := 23) (zDk zD_198_ok 11 rfl) ?_
      refine E_aload_n (pc := 24) (zDk zD_198_ok 12 rfl) rfl ?_
      obtain ⟨v25, e25, h⟩ := zS_bind h
      refine E_strI (pc := 25) (c := 322) (r := w1) (as := []) (rest := [.inl (w32 ((M 106 8) - (M 106 9)))]) (zDk zD_198_ok 13 rfl) zc_198 (by decide +kernel) zk_322 ⟨(Nat.le_of_ble_eq_true rfl), rfl, rfl⟩ (Nat.le_of_ble_eq_true rfl) (zr_322 _) (Nat.lt_of_lt_of_le (by decide) hq) (by rw [zm_322]; exact (Nat.le_of_ble_eq_true rfl)) zc_322 hw1 (ok_lS_length ⟨v25, e25, ?_⟩)
      refine E_icmp (pc := 28) (t := 35) (zDk zD_198_ok 14 rfl) rfl (fun hz => ?_) (fun hz => ?_)
      · have h := zS_f h (T_ne hz)
        refine E_iconst (pc := 35) (zDk zD_198_ok 17 rfl) (by decide +kernel) ?_
        refine W_istore_n (pc := 36) (L' := [some (.inr (.inr 106)), some (.inr (.inr w1)), some (.inl (0 : Int)), none]) (zDk zD_198_ok 18 rfl) zm_198 (by decide) rfl ?_
        refine E_iconst (pc := 37) (zDk zD_198_ok 19 rfl) (by decide +kernel) ?_
        refine W_istore_n (pc := 38) (L' := [some (.inr (.inr 106)), some (.inr (.inr w1)), some (.inl (0 : Int)), some (.inl (0 : Int))]) (zDk zD_198_ok 20 rfl) zm_198 (by decide) rfl ?_
        exact ok_lm_is_c39 hq w1 hw1 M zN (0 : Int) (0 : Int) h
      · have h := zS_t h (F_ne hz)
        refine E_iconst (pc := 31) (zDk zD_198_ok 15 rfl) (by decide +kernel) ?_
        refine E_goto (pc := 32) (t := 36) (zDk zD_198_ok 16 rfl) rfl ?_
        refine W_istore_n (pc := 36) (L' := [some (.inr (.inr 106)), some (.inr (.inr w1)), some (.inl (1 : Int)), none]) (zDk zD_198_ok 18 rfl) zm_198 (by decide) rfl ?_
        refine E_iconst (pc := 37) (zDk zD_198_ok 19 rfl) (by decide +kernel) ?_
        refine W_istore_n (pc := 38) (L' := [some (.inr (.inr 106)), some (.inr (.inr w1)), some (.inl (1 : Int)), some (.inl (0 : Int))]) (zDk zD_198_ok 20 rfl) zm_198 (by decide) rfl ?_
        exact ok_lm_is_c39 hq w1 hw1 M zN (1 : Int) (0 : Int) h
def zD_209 : List (Nat × Instr × Nat) := [(0, .aload_n (0), 1), (1, .aload_n (0), 1), (2, .iconst (0), 1), (3, .invokevirtual (205), 3), (6, .invokevirtual (205), 3), (9, .istore_n (1), 1), (10, .aload_n (0), 1), (11, .invokevirtual (143), 3), (14, .ifCond .eq (17), 3), (17, .aload_n (0), 1), (18, .getfield (119), 3), (21, .iconst (2), 1), (22, .if_icmp .ne (9), 3), (25, .aload_n (0), 1), (26, .iload_n (1), 1), (27, .invokevirtual (205), 3), (30, .istore_n (1), 1), (31, .aload_n (0), 1), (32, .getfield (31), 3), (35, .bipush (102), 2), (37, .aload_n (0), 1), (38, .getfield (31), 3), (41, .bipush (7), 2), (43, .iaload, 1), (44, .iadd, 1), (45, .iload_n (1), 1), (46, .iastore, 1), (47, .aload_n (0), 1), (48, .getfield (31), 3), (51, .bipush (7), 2), (53, .dup2, 1), (54, .iaload, 1), (55, .iconst (1), 1), (56, .iadd, 1), (57, .iastore, 1), (58, .return_, 1)]
set_option maxRecDepth 100000 in
theorem zD_209_ok : zDo 209 zD_209 = true := by decide +kernel
theorem zc_209 : zcls 209 = 8 := by decide +kernel
theorem zm_209 : zml 209 = 2 := by decide +kernel
theorem zt_209 : zrt 209 = none := by decide +kernel
theorem zk_209 : zkd 209 = 1 ∧ znp 209 + 1 = 1 := by decide +kernel
theorem zr_209 (as : List zV) : zrk 209 as = 4 := by unfold zrk; rw [if_neg (by decide)]; decide +kernel
def lm_readContract_c31 (y1 : Int) (M : Nat → Nat → Int) : Option (Nat → Nat → Int) :=
    ((rdI 112 (7 : Int) M).bind (fun v43 =>
    ((wrI 112 (w32 ((102 : Int) + v43)) y1 M).bind (fun M46 =>
    ((rdI 112 (7 : Int) M46).bind (fun v54 =>
    ((wrI 112 (7 : Int) (w32 (v54 + (1 : Int))) M46).bind (fun M57 =>
    (some M57)))))))))
set_option maxRecDepth 100000 in
theorem ok_lm_readContract_c31 {sc : zSc} {q : Nat} {P : Option zV → (Nat → Nat → Int) → Prop} (hq : 4 ≤ q) : ∀ (y1 : Int) (M : Nat → Nat → Int), zS (lm_readContract_c31 y1 M) (fun M0 => P none M0) → zWp sc q 209 31 [some (.inr (.inr 106)), some (.inl y1)] [] M P := by
  intro y1 M h
  unfold lm_readContract_c31 at h
  refine E_aload_n (pc := 31) (zDk zD_209_ok 17 rfl) rfl ?_
  refine E_getR (pc := 32) (ci := 8) (f := 14) (r := 112) (zDk zD_209_ok 18 rfl) zc_209 (by decide +kernel) (by decide) zis_8_106 (by decide +kernel) (by decide) ?_
  refine E_bipush (pc := 35) (zDk zD_209_ok 19 rfl) (by decide +kernel) ?_
  refine E_aload_n (pc := 37) (zDk zD_209_ok 20 rfl) rfl ?_
  refine E_getR (pc := 38) (ci := 8) (f := 14) (r := 112) (zDk zD_209_ok 21 rfl) zc_209 (by decide +kernel) (by decide) zis_8_106 (by decide +kernel) (by decide) ?_
  refine E_bipush (pc := 41) (zDk zD_209_ok 22 rfl) (by decide +kernel) ?_
  obtain ⟨v43, e43, h⟩ := zS_bind h
  refine E_iaload (pc := 43) (zDk zD_209_ok 23 rfl) e43 ?_
  refine W_iadd (pc := 44) (zDk zD_209_ok 24 rfl) ?_
  refine E_iload_n (pc := 45) (zDk zD_209_ok 25 rfl) rfl ?_
  obtain ⟨M46, e46, h⟩ := zS_bind h
  refine E_iastore (pc := 46) (zDk zD_209_ok 26 rfl) e46 ?_
  refine E_aload_n (pc := 47) (zDk zD_209_ok 27 rfl) rfl ?_
  refine E_getR (pc := 48) (ci := 8) (f := 14) (r := 112) (zDk zD_209_ok 28 rfl) zc_209 (by decide +kernel) (by decide) zis_8_106 (by decide +kernel) (by decide) ?_
  refine E_bipush (pc := 51) (zDk zD_209_ok 29 rfl) (by decide +kernel) ?_
  refine E_dup2 (pc := 53) (zDk zD_209_ok 30 rfl) rfl rfl ?_
  obtain ⟨v54, e54, h⟩ := zS_bind h
  refine E_iaload (pc := 54) (zDk zD_209_ok 31 rfl) e54 ?_
  refine E_iconst (pc := 55) (zDk zD_209_ok 32 rfl) (by decide +kernel) ?_
  refine W_iadd (pc := 56) (zDk zD_209_ok 33 rfl) ?_
  obtain ⟨M57, e57, h⟩ := zS_bind h
  refine E_iastore (pc := 57) (zDk zD_209_ok 34 rfl) e57 ?_
  have h := zS_some h
  exact E_return (x := ()) (pc := 58) (zDk zD_209_ok 35 rfl) zt_209 h
def lm_readContract (M : Nat → Nat → Int) : Option (Nat → Nat → Int) :=
    ((lm_freshName (0 : Int) M).bind (fun r3_ =>
    ((lm_freshName r3_.1 r3_.2).bind (fun r6_ =>
    ((lm_good r6_.2).bind (fun v11 =>
    (if v11 = 0 then
    (lm_readContract_c31 r6_.1 r6_.2)
    else
    (if (r6_.2 106 10) = (2 : Int) then
    ((lm_freshName r6_.1 r6_.2).bind (fun r27_ =>
    (lm_readContract_c31 r27_.1 r27_.2)))
    else
    (lm_readContract_c31 r6_.1 r6_.2)))))))))
set_option maxRecDepth 100000 in
theorem ok_lm_readContract {sc : zSc} {M : Nat → Nat → Int} {P : (Nat → Nat → Int) → Prop} (h : zS (lm_readContract M) P) : zCv sc 209 [.inr (.inr 106)] M P := by
  have ea : zarg (zml 209) [.inr (.inr 106)] = [some (.inr (.inr 106)), none] := by rw [zm_209]; rfl
  unfold zCv zCw
  rw [ea, zr_209]
  have hq : 4 ≤ 4 := Nat.le_refl _
  unfold lm_readContract at h
  have h := zS_mono h (fun x hx => (⟨rfl, hx⟩ : (none : Option zV) = none ∧ P x))
  skip
  refine E_aload_n (pc := 0) (zDk zD_209_ok 0 rfl) rfl ?_
  refine E_aload_n (pc := 1) (zDk zD_209_ok 1 rfl) rfl ?_
  refine E_iconst (pc := 2) (zDk zD_209_ok 2 rfl) (by decide +kernel) ?_
  obtain ⟨r3_, e3, h⟩ := zS_bind h
  refine E_virI (pc := 3) (c := 208) (r := 106) (as := [.inl (0 : Int)]) (rest := [.inr (.inr 106)]) (zDk zD_209_ok 3 rfl) zc_209 (by decide +kernel) zk_208 ⟨(Nat.le_of_ble_eq_true rfl), rfl, rfl⟩ (Nat.le_of_ble_eq_true rfl) (zr_208 _) (Nat.lt_of_lt_of_le (by decide) hq) (by rw [zm_208]; exact (Nat.le_of_ble_eq_true rfl)) ⟨zc_208, by decide⟩ zis_8_106 (ok_lm_freshName ⟨r3_, e3, ?_⟩)
  obtain ⟨r6_, e6, h⟩ := zS_bind h
  refine E_virI (pc := 6) (c := 208) (r := 106) (as := [.inl r3_.1]) (rest := []) (zDk zD_209_ok 4 rfl) zc_209 (by decide +kernel) zk_208 ⟨(Nat.le_of_ble_eq_true rfl), rfl, rfl⟩ (Nat.le_of_ble_eq_true rfl) (zr_208 _) (Nat.lt_of_lt_of_le (by decide) hq) (by rw [zm_208]; exact (Nat.le_of_ble_eq_true rfl)) ⟨zc_208, by decide⟩ zis_8_106 (ok_lm_freshName ⟨r6_, e6, ?_⟩)
  refine W_istore_n (pc := 9) (L' := [some (.inr (.inr 106)), some (.inl r6_.1)]) (zDk zD_209_ok 5 rfl) zm_209 (by decide) rfl ?_
  refine E_aload_n (pc := 10) (zDk zD_209_ok 6 rfl) rfl ?_
  obtain ⟨v11, e11, h⟩ := zS_bind h
  refine E_virI (pc := 11) (c := 196) (r := 106) (as := []) (rest := []) (zDk zD_209_ok 7 rfl) zc_209 (by decide +kernel) zk_196 ⟨(Nat.le_of_ble_eq_true rfl), rfl, rfl⟩ (Nat.le_of_ble_eq_true rfl) (zr_196 _) (Nat.lt_of_lt_of_le (by decide) hq) (by rw [zm_196]; exact (Nat.le_of_ble_eq_true rfl)) ⟨zc_196, by decide⟩ zis_8_106 (ok_lm_good ⟨v11, e11, ?_⟩)
  refine E_if (pc := 14) (t := 31) (zDk zD_209_ok 8 rfl) rfl (fun hz => ?_) (fun hz => ?_)
  · have h := zS_t h (T_eq hz)
    exact ok_lm_readContract_c31 hq r6_.1 r6_.2 h
  · have h := zS_f h (F_eq hz)
    refine E_aload_n (pc := 17) (zDk zD_209_ok 9 rfl) rfl ?_
    refine E_getI (pc := 18) (ci := 8) (f := 10) (zDk zD_209_ok 10 rfl) zc_209 (by decide +kernel) (by decide) zis_8_106 ?_
    refine E_iconst (pc := 21) (zDk zD_209_ok 11 rfl) (by decide +kernel) ?_
    refine E_icmp (pc := 22) (t := 31) (zDk zD_209_ok 12 rfl) rfl (fun hz => ?_) (fun hz => ?_)
    · have h := zS_f h (T_ne hz)
      exact ok_lm_readContract_c31 hq r6_.1 r6_.2 h
    · have h := zS_t h (F_ne hz)
      refine E_aload_n (pc := 25) (zDk zD_209_ok 13 rfl) rfl ?_
      refine E_iload_n (pc := 26) (zDk zD_209_ok 14 rfl) rfl ?_
      obtain ⟨r27_, e27, h⟩ := zS_bind h
      refine E_virI (pc := 27) (c := 208) (r := 106) (as := [.inl r6_.1]) (rest := []) (zDk zD_209_ok 15 rfl) zc_209 (by decide +kernel) zk_208 ⟨(Nat.le_of_ble_eq_true rfl), rfl, rfl⟩ (Nat.le_of_ble_eq_true rfl) (zr_208 _) (Nat.lt_of_lt_of_le (by decide) hq) (by rw [zm_208]; exact (Nat.le_of_ble_eq_true rfl)) ⟨zc_208, by decide⟩ zis_8_106 (ok_lm_freshName ⟨r27_, e27, ?_⟩)
      refine W_istore_n (pc := 30) (L' := [some (.inr (.inr 106)), some (.inl r27_.1)]) (zDk zD_209_ok 16 rfl) zm_209 (by decide) rfl ?_
      exact ok_lm_readContract_c31 hq r27_.1 r27_.2 h
def zD_229 : List (Nat × Instr × Nat) := [(0, .aload_n (0), 1), (1, .invokevirtual (254), 3), (4, .aload_n (0), 1), (5, .invokevirtual (95), 3), (8, .ifCond .eq (7), 3), (11, .aload_n (0), 1), (12, .invokevirtual (305), 3), (15, .aload_n (0), 1), (16, .invokevirtual (95), 3), (19, .ireturn, 1)]
set_option maxRecDepth 100000 in
theorem zD_229_ok : zDo 229 zD_229 = true := by decide +kernel
theorem zc_229 : zcls 229 = 8 := by decide +kernel
theorem zm_229 : zml 229 = 1 := by decide +kernel
theorem zt_229 : zrt 229 = (some (.boolean)) := by decide +kernel
theorem zk_229 : zkd 229 = 1 ∧ znp 229 + 1 = 1 := by decide +kernel
theorem zr_229 (as : List zV) : zrk 229 as = 4 := by unfold zrk; rw [if_neg (by decide)]; decide +kernel
def lm_asksState (M : Nat → Nat → Int) : Option (Int × (Nat → Nat → Int)) :=
    ((lm_asItIs M).bind (fun M1 =>
    ((lm_isState M1).bind (fun v5 =>
    (if v5 = 0 then
    ((lm_isState M1).bind (fun v16 =>
    (if v16 = 0 ∨ v16 = 1 then some (v16, M1) else none)))
    else
    ((lm_goAll M1).bind (fun M12 =>
    ((lm_isState M12).bind (fun v16 =>
    (if v16 = 0 ∨ v16 = 1 then some (v16, M12) else none))))))))))
set_option maxRecDepth 100000 in
theorem ok_lm_asksState {sc : zSc} {M : Nat → Nat → Int} {P : Int → (Nat → Nat → Int) → Prop} (h : zS (lm_asksState M) (fun r => P r.1 r.2)) : zCi sc 229 [.inr (.inr 106)] M P := by
  have ea : zarg (zml 229) [.inr (.inr 106)] = [some (.inr (.inr 106))] := by rw [zm_229]; rfl
  unfold zCi zCw
  rw [ea, zr_229]
  have hq : 4 ≤ 4 := Nat.le_refl _
  unfold lm_asksState at h
  have h := zS_mono h (fun x hx => (⟨x.1, rfl, hx⟩ : ∃ y, (some (.inl x.1) : Option zV) = some (.inl y) ∧ P y x.2))
  skip
  refine E_aload_n (pc := 0) (zDk zD_229_ok 0 rfl) rfl ?_
  obtain ⟨M1, e1, h⟩ := zS_bind h
  refine E_virV (pc := 1) (c := 214) (r := 106) (as := []) (rest := []) (zDk zD_229_ok 1 rfl) zc_229 (by decide +kernel) zk_214 ⟨(Nat.le_of_ble_eq_true rfl), rfl, rfl⟩ (Nat.le_of_ble_eq_true rfl) (zr_214 _) (Nat.lt_of_lt_of_le (by decide) hq) (by rw [zm_214]; exact (Nat.le_of_ble_eq_true rfl)) ⟨zc_214, by decide⟩ zis_8_106 (ok_lm_asItIs ⟨M1, e1, ?_⟩)
  refine E_aload_n (pc := 4) (zDk zD_229_ok 2 rfl) rfl ?_
  obtain ⟨v5, e5, h⟩ := zS_bind h
  refine E_virI (pc := 5) (c := 181) (r := 106) (as := []) (rest := []) (zDk zD_229_ok 3 rfl) zc_229 (by decide +kernel) zk_181 ⟨(Nat.le_of_ble_eq_true rfl), rfl, rfl⟩ (Nat.le_of_ble_eq_true rfl) (zr_181 _) (Nat.lt_of_lt_of_le (by decide) hq) (by rw [zm_181]; exact (Nat.le_of_ble_eq_true rfl)) ⟨zc_181, by decide⟩ zis_8_106 (ok_lm_isState ⟨v5, e5, ?_⟩)
  refine E_if (pc := 8) (t := 15) (zDk zD_229_ok 4 rfl) rfl (fun hz => ?_) (fun hz => ?_)
  · have h := zS_t h (T_eq hz)
    refine E_aload_n (pc := 15) (zDk zD_229_ok 7 rfl) rfl ?_
    obtain ⟨v16, e16, h⟩ := zS_bind h
    refine E_virI (pc := 16) (c := 181) (r := 106) (as := []) (rest := []) (zDk zD_229_ok 8 rfl) zc_229 (by decide +kernel) zk_181 ⟨(Nat.le_of_ble_eq_true rfl), rfl, rfl⟩ (Nat.le_of_ble_eq_true rfl) (zr_181 _) (Nat.lt_of_lt_of_le (by decide) hq) (by rw [zm_181]; exact (Nat.le_of_ble_eq_true rfl)) ⟨zc_181, by decide⟩ zis_8_106 (ok_lm_isState ⟨v16, e16, ?_⟩)
    obtain ⟨hx, h⟩ := zS_c h
    have h := zS_some h
    exact E_ireturnZ (pc := 19) (zDk zD_229_ok 9 rfl) zt_229 hx h
  · have h := zS_f h (F_eq hz)
    refine E_aload_n (pc := 11) (zDk zD_229_ok 5 rfl) rfl ?_
    obtain ⟨M12, e12, h⟩ := zS_bind h
    refine E_virV (pc := 12) (c := 228) (r := 106) (as := []) (rest := []) (zDk zD_229_ok 6 rfl) zc_229 (by decide +kernel) zk_228 ⟨(Nat.le_of_ble_eq_true rfl), rfl, rfl⟩ (Nat.le_of_ble_eq_true rfl) (zr_228 _) (Nat.lt_of_lt_of_le (by decide) hq) (by rw [zm_228]; exact (Nat.le_of_ble_eq_true rfl)) ⟨zc_228, by decide⟩ zis_8_106 (ok_lm_goAll ⟨M12, e12, ?_⟩)
    refine E_aload_n (pc := 15) (zDk zD_229_ok 7 rfl) rfl ?_
    obtain ⟨v16, e16, h⟩ := zS_bind h
    refine E_virI (pc := 16) (c := 181) (r := 106) (as := []) (rest := []) (zDk zD_229_ok 8 rfl) zc_229 (by decide +kernel) zk_181 ⟨(Nat.le_of_ble_eq_true rfl), rfl, rfl⟩ (Nat.le_of_ble_eq_true rfl) (zr_181 _) (Nat.lt_of_lt_of_le (by decide) hq) (by rw [zm_181]; exact (Nat.le_of_ble_eq_true rfl)) ⟨zc_181, by decide⟩ zis_8_106 (ok_lm_isState ⟨v16, e16, ?_⟩)
    obtain ⟨hx, h⟩ := zS_c h
    have h := zS_some h
    exact E_ireturnZ (pc := 19) (zDk zD_229_ok 9 rfl) zt_229 hx h
def zD_268 : List (Nat × Instr × Nat) := [(0, .aload_n (0), 1), (1, .iload_n (1), 1), (2, .invokevirtual (265), 3), (5, .ifCond .eq (25), 3), (8, .aload_n (0), 1), (9, .iload_n (2), 1), (10, .invokevirtual (265), 3), (13, .ifCond .eq (17), 3), (16, .aload_n (0), 1), (17, .iconst (1), 1), (18, .iload_n (1), 1), (19, .ishl, 1), (20, .iconst (1), 1), (21, .iload_n (2), 1), (22, .ishl, 1), (23, .ior, 1), (24, .invokevirtual (357), 3), (27, .goto (5), 3), (30, .bipush (-2), 2), (32, .ireturn, 1)]
set_option maxRecDepth 100000 in
theorem zD_268_ok : zDo 268 zD_268 = true := by decide +kernel
theorem zc_268 : zcls 268 = 8 := by decide +kernel
theorem zm_268 : zml 268 = 3 := by decide +kernel
theorem zt_268 : zrt 268 = (some (.int)) := by decide +kernel
theorem zk_268 : zkd 268 = 1 ∧ znp 268 + 1 = 3 := by decide +kernel
theorem zr_268 (as : List zV) : zrk 268 as = 4 := by unfold zrk; rw [if_neg (by decide)]; decide +kernel
def lm_soon (x1 : Int) (x2 : Int) (M : Nat → Nat → Int) : Option (Int × (Nat → Nat → Int)) :=
    ((lm_isName x1 M).bind (fun v2 =>
    (if v2 = 0 then
    (some ((-2 : Int), M))
    else
    ((lm_isName x2 M).bind (fun v10 =>
    (if v10 = 0 then
    (some ((-2 : Int), M))
    else
    ((lm_soonOf (zor (zshl (1 : Int) x1) (zshl (1 : Int) x2)) M).bind (fun r24_ =>
    (some (r24_.1, r24_.2))))))))))
set_option maxRecDepth 100000 in
theorem ok_lm_soon {sc : zSc} {x1 : Int} {x2 : Int} {M : Nat → Nat → Int} {P : Int → (Nat → Nat → Int) → Prop} (h : zS (lm_soon x1 x2 M) (fun r => P r.1 r.2)) : zCi sc 268 [.inr (.inr 106), .inl x1, .inl x2] M P := by
  have ea : zarg (zml 268) [.inr (.inr 106), .inl x1, .inl x2] = [some (.inr (.inr 106)), some (.inl x1), some (.inl x2)] := by rw [zm_268]; rfl
  unfold zCi zCw
  rw [ea, zr_268]
  have hq : 4 ≤ 4 := Nat.le_refl _
  unfold lm_soon at h
  have h := zS_mono h (fun x hx => (⟨x.1, rfl, hx⟩ : ∃ y, (some (.inl x.1) : Option zV) = some (.inl y) ∧ P y x.2))
  skip
  refine E_aload_n (pc := 0) (zDk zD_268_ok 0 rfl) rfl ?_
  refine E_iload_n (pc := 1) (zDk zD_268_ok 1 rfl) rfl ?_
  obtain ⟨v2, e2, h⟩ := zS_bind h
  refine E_virI (pc := 2) (c := 186) (r := 106) (as := [.inl x1]) (rest := []) (zDk zD_268_ok 2 rfl) zc_268 (by decide +kernel) zk_186 ⟨(Nat.le_of_ble_eq_true rfl), rfl, rfl⟩ (Nat.le_of_ble_eq_true rfl) (zr_186 _) (Nat.lt_of_lt_of_le (by decide) hq) (by rw [zm_186]; exact (Nat.le_of_ble_eq_true rfl)) ⟨zc_186, by decide⟩ zis_8_106 (ok_lm_isName ⟨v2, e2, ?_⟩)
  refine E_if (pc := 5) (t := 30) (zDk zD_268_ok 3 rfl) rfl (fun hz => ?_) (fun hz => ?_)
  · have h := zS_t h (T_eq hz)
    refine E_bipush (pc := 30) (zDk zD_268_ok 18 rfl) (by decide +kernel) ?_
    have h := zS_some h
    exact E_ireturn (pc := 32) (zDk zD_268_ok 19 rfl) zt_268 h
  · have h := zS_f h (F_eq hz)
    refine E_aload_n (pc := 8) (zDk zD_268_ok 4 rfl) rfl ?_
    refine E_iload_n (pc := 9) (zDk zD_268_ok 5 rfl) rfl ?_
    obtain ⟨v10, e10, h⟩ := zS_bind h
    refine E_virI (pc := 10) (c := 186) (r := 106) (as := [.inl x2]) (rest := []) (zDk zD_268_ok 6 rfl) zc_268 (by decide +kernel) zk_186 ⟨(Nat.le_of_ble_eq_true rfl), rfl, rfl⟩ (Nat.le_of_ble_eq_true rfl) (zr_186 _) (Nat.lt_of_lt_of_le (by decide) hq) (by rw [zm_186]; exact (Nat.le_of_ble_eq_true rfl)) ⟨zc_186, by decide⟩ zis_8_106 (ok_lm_isName ⟨v10, e10, ?_⟩)
    refine E_if (pc := 13) (t := 30) (zDk zD_268_ok 7 rfl) rfl (fun hz => ?_) (fun hz => ?_)
    · have h := zS_t h (T_eq hz)
      refine E_bipush (pc := 30) (zDk zD_268_ok 18 rfl) (by decide +kernel) ?_
      have h := zS_some h
      exact E_ireturn (pc := 32) (zDk zD_268_ok 19 rfl) zt_268 h
    · have h := zS_f h (F_eq hz)
      refine E_aload_n (pc := 16) (zDk zD_268_ok 8 rfl) rfl ?_
      refine E_iconst (pc := 17) (zDk zD_268_ok 9 rfl) (by decide +kernel) ?_
      refine E_iload_n (pc := 18) (zDk zD_268_ok 10 rfl) rfl ?_
      refine E_ishl (pc := 19) (zDk zD_268_ok 11 rfl) ?_
      refine E_iconst (pc := 20) (zDk zD_268_ok 12 rfl) (by decide +kernel) ?_
      refine E_iload_n (pc := 21) (zDk zD_268_ok 13 rfl) rfl ?_
      refine E_ishl (pc := 22) (zDk zD_268_ok 14 rfl) ?_
      refine E_ior (pc := 23) (zDk zD_268_ok 15 rfl) ?_
      obtain ⟨r24_, e24, h⟩ := zS_bind h
      refine E_virI (pc := 24) (c := 267) (r := 106) (as := [.inl (zor (zshl (1 : Int) x1) (zshl (1 : Int) x2))]) (rest := []) (zDk zD_268_ok 16 rfl) zc_268 (by decide +kernel) zk_267 ⟨(Nat.le_of_ble_eq_true rfl), rfl, rfl⟩ (Nat.le_of_ble_eq_true rfl) (zr_267 _) (Nat.lt_of_lt_of_le (by decide) hq) (by rw [zm_267]; exact (Nat.le_of_ble_eq_true rfl)) ⟨zc_267, by decide⟩ zis_8_106 (ok_lm_soonOf ⟨r24_, e24, ?_⟩)
      refine E_goto (pc := 27) (t := 32) (zDk zD_268_ok 17 rfl) rfl ?_
      have h := zS_some h
      exact E_ireturn (pc := 32) (zDk zD_268_ok 19 rfl) zt_268 h
def zD_269 : List (Nat × Instr × Nat) := [(0, .aload_n (0), 1), (1, .iload_n (1), 1), (2, .invokevirtual (270), 3), (5, .ifCond .eq (15), 3), (8, .aload_n (0), 1), (9, .aload_n (0), 1), (10, .iload_n (1), 1), (11, .invokevirtual (273), 3), (14, .invokevirtual (357), 3), (17, .goto (5), 3), (20, .bipush (-2), 2), (22, .ireturn, 1)]
set_option maxRecDepth 100000 in
theorem zD_269_ok : zDo 269 zD_269 = true := by decide +kernel
theorem zc_269 : zcls 269 = 8 := by decide +kernel
theorem zm_269 : zml 269 = 2 := by decide +kernel
theorem zt_269 : zrt 269 = (some (.int)) := by decide +kernel
theorem zk_269 : zkd 269 = 1 ∧ znp 269 + 1 = 2 := by decide +kernel
theorem zr_269 (as : List zV) : zrk 269 as = 4 := by unfold zrk; rw [if_neg (by decide)]; decide +kernel
def lm_gather (x1 : Int) (M : Nat → Nat → Int) : Option (Int × (Nat → Nat → Int)) :=
    ((lm_isContract x1 M).bind (fun v2 =>
    (if v2 = 0 then
    (some ((-2 : Int), M))
    else
    ((lm_namesOf x1 M).bind (fun v11 =>
    ((lm_soonOf v11 M).bind (fun r14_ =>
    (some (r14_.1, r14_.2)))))))))
set_option maxRecDepth 100000 in
theorem ok_lm_gather {sc : zSc} {x1 : Int} {M : Nat → Nat → Int} {P : Int → (Nat → Nat → Int) → Prop} (h : zS (lm_gather x1 M) (fun r => P r.1 r.2)) : zCi sc 269 [.inr (.inr 106), .inl x1] M P := by
  have ea : zarg (zml 269) [.inr (.inr 106), .inl x1] = [some (.inr (.inr 106)), some (.inl x1)] := by rw [zm_269]; rfl
  unfold zCi zCw
  rw [ea, zr_269]
  have hq : 4 ≤ 4 := Nat.le_refl _
  unfold lm_gather at h
  have h := zS_mono h (fun x hx => (⟨x.1, rfl, hx⟩ : ∃ y, (some (.inl x.1) : Option zV) = some (.inl y) ∧ P y x.2))
  skip
  refine E_aload_n (pc := 0) (zDk zD_269_ok 0 rfl) rfl ?_
  refine E_iload_n (pc := 1) (zDk zD_269_ok 1 rfl) rfl ?_
  obtain ⟨v2, e2, h⟩ := zS_bind h
  refine E_virI (pc := 2) (c := 187) (r := 106) (as := [.inl x1]) (rest := []) (zDk zD_269_ok 2 rfl) zc_269 (by decide +kernel) zk_187 ⟨(Nat.le_of_ble_eq_true rfl), rfl, rfl⟩ (Nat.le_of_ble_eq_true rfl) (zr_187 _) (Nat.lt_of_lt_of_le (by decide) hq) (by rw [zm_187]; exact (Nat.le_of_ble_eq_true rfl)) ⟨zc_187, by decide⟩ zis_8_106 (ok_lm_isContract ⟨v2, e2, ?_⟩)
  refine E_if (pc := 5) (t := 20) (zDk zD_269_ok 3 rfl) rfl (fun hz => ?_) (fun hz => ?_)
  · have h := zS_t h (T_eq hz)
    refine E_bipush (pc := 20) (zDk zD_269_ok 10 rfl) (by decide +kernel) ?_
    have h := zS_some h
    exact E_ireturn (pc := 22) (zDk zD_269_ok 11 rfl) zt_269 h
  · have h := zS_f h (F_eq hz)
    refine E_aload_n (pc := 8) (zDk zD_269_ok 4 rfl) rfl ?_
    refine E_aload_n (pc := 9) (zDk zD_269_ok 5 rfl) rfl ?_
    refine E_iload_n (pc := 10) (zDk zD_269_ok 6 rfl) rfl ?_
    obtain ⟨v11, e11, h⟩ := zS_bind h
    refine E_virI (pc := 11) (c := 191) (r := 106) (as := [.inl x1]) (rest := [.inr (.inr 106)]) (zDk zD_269_ok 7 rfl) zc_269 (by decide +kernel) zk_191 ⟨(Nat.le_of_ble_eq_true rfl), rfl, rfl⟩ (Nat.le_of_ble_eq_true rfl) (zr_191 _) (Nat.lt_of_lt_of_le (by decide) hq) (by rw [zm_191]; exact (Nat.le_of_ble_eq_true rfl)) ⟨zc_191, by decide⟩ zis_8_106 (ok_lm_namesOf ⟨v11, e11, ?_⟩)
    obtain ⟨r14_, e14, h⟩ := zS_bind h
    refine E_virI (pc := 14) (c := 267) (r := 106) (as := [.inl v11]) (rest := []) (zDk zD_269_ok 8 rfl) zc_269 (by decide +kernel) zk_267 ⟨(Nat.le_of_ble_eq_true rfl), rfl, rfl⟩ (Nat.le_of_ble_eq_true rfl) (zr_267 _) (Nat.lt_of_lt_of_le (by decide) hq) (by rw [zm_267]; exact (Nat.le_of_ble_eq_true rfl)) ⟨zc_267, by decide⟩ zis_8_106 (ok_lm_soonOf ⟨r14_, e14, ?_⟩)
    refine E_goto (pc := 17) (t := 22) (zDk zD_269_ok 9 rfl) rfl ?_
    have h := zS_some h
    exact E_ireturn (pc := 22) (zDk zD_269_ok 11 rfl) zt_269 h
def zD_270 : List (Nat × Instr × Nat) := [(0, .aload_n (0), 1), (1, .iload_n (1), 1), (2, .invokevirtual (270), 3), (5, .ifCond .ne (6), 3), (8, .bipush (-2), 2), (10, .ireturn, 1), (11, .aload_n (0), 1), (12, .aload_n (0), 1), (13, .iload_n (1), 1), (14, .invokevirtual (273), 3), (17, .invokevirtual (357), 3), (20, .pop, 1), (21, .aload_n (0), 1), (22, .aload_n (0), 1), (23, .iload_n (1), 1), (24, .invokevirtual (273), 3), (27, .invokevirtual (354), 3), (30, .ireturn, 1)]
set_option maxRecDepth 100000 in
theorem zD_270_ok : zDo 270 zD_270 = true := by decide +kernel
theorem zc_270 : zcls 270 = 8 := by decide +kernel
theorem zm_270 : zml 270 = 2 := by decide +kernel
theorem zt_270 : zrt 270 = (some (.int)) := by decide +kernel
theorem zk_270 : zkd 270 = 1 ∧ znp 270 + 1 = 2 := by decide +kernel
theorem zr_270 (as : List zV) : zrk 270 as = 4 := by unfold zrk; rw [if_neg (by decide)]; decide +kernel
def lm_hall (x1 : Int) (M : Nat → Nat → Int) : Option (Int × (Nat → Nat → Int)) :=
    ((lm_isContract x1 M).bind (fun v2 =>
    (if v2 = 0 then
    (some ((-2 : Int), M))
    else
    ((lm_namesOf x1 M).bind (fun v14 =>
    ((lm_soonOf v14 M).bind (fun r17_ =>
    ((lm_namesOf x1 r17_.2).bind (fun v24 =>
    ((lm_hallOf v24 r17_.2).bind (fun v27 =>
    (some (v27, r17_.2)))))))))))))
set_option maxRecDepth 100000 in
theorem ok_lm_hall {sc : zSc} {x1 : Int} {M : Nat → Nat → Int} {P : Int → (Nat → Nat → Int) → Prop} (h : zS (lm_hall x1 M) (fun r => P r.1 r.2)) : zCi sc 270 [.inr (.inr 106), .inl x1] M P := by
  have ea : zarg (zml 270) [.inr (.inr 106), .inl x1] = [some (.inr (.inr 106)), some (.inl x1)] := by rw [zm_270]; rfl
  unfold zCi zCw
  rw [ea, zr_270]
  have hq : 4 ≤ 4 := Nat.le_refl _
  unfold lm_hall at h
  have h := zS_mono h (fun x hx => (⟨x.1, rfl, hx⟩ : ∃ y, (some (.inl x.1) : Option zV) = some (.inl y) ∧ P y x.2))
  skip
  refine E_aload_n (pc := 0) (zDk zD_270_ok 0 rfl) rfl ?_
  refine E_iload_n (pc := 1) (zDk zD_270_ok 1 rfl) rfl ?_
  obtain ⟨v2, e2, h⟩ := zS_bind h
  refine E_virI (pc := 2) (c := 187) (r := 106) (as := [.inl x1]) (rest := []) (zDk zD_270_ok 2 rfl) zc_270 (by decide +kernel) zk_187 ⟨(Nat.le_of_ble_eq_true rfl), rfl, rfl⟩ (Nat.le_of_ble_eq_true rfl) (zr_187 _) (Nat.lt_of_lt_of_le (by decide) hq) (by rw [zm_187]; exact (Nat.le_of_ble_eq_true rfl)) ⟨zc_187, by decide⟩ zis_8_106 (ok_lm_isContract ⟨v2, e2, ?_⟩)
  refine E_if (pc := 5) (t := 11) (zDk zD_270_ok 3 rfl) rfl (fun hz => ?_) (fun hz => ?_)
  · have h := zS_f h (T_ne hz)
    refine E_aload_n (pc := 11) (zDk zD_270_ok 6 rfl) rfl ?_
    refine E_aload_n (pc := 12) (zDk zD_270_ok 7 rfl) rfl ?_
    refine E_iload_n (pc := 13) (zDk zD_270_ok 8 rfl) rfl ?_
    obtain ⟨v14, e14, h⟩ := zS_bind h
    refine E_virI (pc := 14) (c := 191) (r := 106) (as := [.inl x1]) (rest := [.inr (.inr 106)]) (zDk zD_270_ok 9 rfl) zc_270 (by decide +kernel) zk_191 ⟨(Nat.le_of_ble_eq_true rfl), rfl, rfl⟩ (Nat.le_of_ble_eq_true rfl) (zr_191 _) (Nat.lt_of_lt_of_le (by decide) hq) (by rw [zm_191]; exact (Nat.le_of_ble_eq_true rfl)) ⟨zc_191, by decide⟩ zis_8_106 (ok_lm_namesOf ⟨v14, e14, ?_⟩)
    obtain ⟨r17_, e17, h⟩ := zS_bind h
    refine E_virI (pc := 17) (c := 267) (r := 106) (as := [.inl v14]) (rest := []) (zDk zD_270_ok 10 rfl) zc_270 (by decide +kernel) zk_267 ⟨(Nat.le_of_ble_eq_true rfl), rfl, rfl⟩ (Nat.le_of_ble_eq_true rfl) (zr_267 _) (Nat.lt_of_lt_of_le (by decide) hq) (by rw [zm_267]; exact (Nat.le_of_ble_eq_true rfl)) ⟨zc_267, by decide⟩ zis_8_106 (ok_lm_soonOf ⟨r17_, e17, ?_⟩)
    refine E_pop (pc := 20) (zDk zD_270_ok 11 rfl) rfl ?_
    refine E_aload_n (pc := 21) (zDk zD_270_ok 12 rfl) rfl ?_
    refine E_aload_n (pc := 22) (zDk zD_270_ok 13 rfl) rfl ?_
    refine E_iload_n (pc := 23) (zDk zD_270_ok 14 rfl) rfl ?_
    obtain ⟨v24, e24, h⟩ := zS_bind h
    refine E_virI (pc := 24) (c := 191) (r := 106) (as := [.inl x1]) (rest := [.inr (.inr 106)]) (zDk zD_270_ok 15 rfl) zc_270 (by decide +kernel) zk_191 ⟨(Nat.le_of_ble_eq_true rfl), rfl, rfl⟩ (Nat.le_of_ble_eq_true rfl) (zr_191 _) (Nat.lt_of_lt_of_le (by decide) hq) (by rw [zm_191]; exact (Nat.le_of_ble_eq_true rfl)) ⟨zc_191, by decide⟩ zis_8_106 (ok_lm_namesOf ⟨v24, e24, ?_⟩)
    obtain ⟨v27, e27, h⟩ := zS_bind h
    refine E_virI (pc := 27) (c := 265) (r := 106) (as := [.inl v24]) (rest := []) (zDk zD_270_ok 16 rfl) zc_270 (by decide +kernel) zk_265 ⟨(Nat.le_of_ble_eq_true rfl), rfl, rfl⟩ (Nat.le_of_ble_eq_true rfl) (zr_265 _) (Nat.lt_of_lt_of_le (by decide) hq) (by rw [zm_265]; exact (Nat.le_of_ble_eq_true rfl)) ⟨zc_265, by decide⟩ zis_8_106 (ok_lm_hallOf ⟨v27, e27, ?_⟩)
    have h := zS_some h
    exact E_ireturn (pc := 30) (zDk zD_270_ok 17 rfl) zt_270 h
  · have h := zS_t h (F_ne hz)
    refine E_bipush (pc := 8) (zDk zD_270_ok 4 rfl) (by decide +kernel) ?_
    have h := zS_some h
    exact E_ireturn (pc := 10) (zDk zD_270_ok 5 rfl) zt_270 h
def zD_273 : List (Nat × Instr × Nat) := [(0, .aload_n (0), 1), (1, .iload_n (1), 1), (2, .iload_n (2), 1), (3, .invokevirtual (360), 3), (6, .ifCond .ne (6), 3), (9, .bipush (-2), 2), (11, .ireturn, 1), (12, .aload_n (0), 1), (13, .iload_n (1), 1), (14, .iload_n (2), 1), (15, .invokevirtual (363), 3), (18, .istore_n (3), 1), (19, .iload_n (3), 1), (20, .iconst (-1), 1), (21, .if_icmp .ne (7), 3), (24, .iconst (-1), 1), (25, .goto (7), 3), (28, .iload_n (3), 1), (29, .invokestatic (332), 3), (32, .ireturn, 1)]
set_option maxRecDepth 100000 in
theorem zD_273_ok : zDo 273 zD_273 = true := by decide +kernel
theorem zc_273 : zcls 273 = 8 := by decide +kernel
theorem zm_273 : zml 273 = 4 := by decide +kernel
theorem zt_273 : zrt 273 = (some (.int)) := by decide +kernel
theorem zk_273 : zkd 273 = 1 ∧ znp 273 + 1 = 3 := by decide +kernel
theorem zr_273 (as : List zV) : zrk 273 as = 4 := by unfold zrk; rw [if_neg (by decide)]; decide +kernel
def lm_cut (x1 : Int) (x2 : Int) (M : Nat → Nat → Int) : Option (Int × (Nat → Nat → Int)) :=
    ((lm_areTwo x1 x2 M).bind (fun v3 =>
    (if v3 = 0 then
    (some ((-2 : Int), M))
    else
    ((lm_cutOf x1 x2 M).bind (fun r15_ =>
    (if r15_.1 = (-1 : Int) then
    (some ((-1 : Int), r15_.2))
    else
    ((lm_bits r15_.1 r15_.2).bind (fun v29 =>
    (some (v29, r15_.2))))))))))
set_option maxRecDepth 100000 in
theorem ok_lm_cut {sc : zSc} {x1 : Int} {x2 : Int} {M : Nat → Nat → Int} {P : Int → (Nat → Nat → Int) → Prop} (h : zS (lm_cut x1 x2 M) (fun r => P r.1 r.2)) : zCi sc 273 [.inr (.inr 106), .inl x1, .inl x2] M P := by
  have ea : zarg (zml 273) [.inr (.inr 106), .inl x1, .inl x2] = [some (.inr (.inr 106)), some (.inl x1), some (.inl x2), none] := by rw [zm_273]; rfl
  unfold zCi zCw
  rw [ea, zr_273]
  have hq : 4 ≤ 4 := Nat.le_refl _
  unfold lm_cut at h
  have h := zS_mono h (fun x hx => (⟨x.1, rfl, hx⟩ : ∃ y, (some (.inl x.1) : Option zV) = some (.inl y) ∧ P y x.2))
  skip
  refine E_aload_n (pc := 0) (zDk zD_273_ok 0 rfl) rfl ?_
  refine E_iload_n (pc := 1) (zDk zD_273_ok 1 rfl) rfl ?_
  refine E_iload_n (pc := 2) (zDk zD_273_ok 2 rfl) rfl ?_
  obtain ⟨v3, e3, h⟩ := zS_bind h
  refine E_virI (pc := 3) (c := 272) (r := 106) (as := [.inl x1, .inl x2]) (rest := []) (zDk zD_273_ok 3 rfl) zc_273 (by decide +kernel) zk_272 ⟨(Nat.le_of_ble_eq_true rfl), rfl, rfl⟩ (Nat.le_of_ble_eq_true rfl) (zr_272 _) (Nat.lt_of_lt_of_le (by decide) hq) (by rw [zm_272]; exact (Nat.le_of_ble_eq_true rfl)) ⟨zc_272, by decide⟩ zis_8_106 (ok_lm_areTwo ⟨v3, e3, ?_⟩)
  refine E_if (pc := 6) (t := 12) (zDk zD_273_ok 4 rfl) rfl (fun hz => ?_) (fun hz => ?_)
  · have h := zS_f h (T_ne hz)
    refine E_aload_n (pc := 12) (zDk zD_273_ok 7 rfl) rfl ?_
    refine E_iload_n (pc := 13) (zDk zD_273_ok 8 rfl) rfl ?_
    refine E_iload_n (pc := 14) (zDk zD_273_ok 9 rfl) rfl ?_
    obtain ⟨r15_, e15, h⟩ := zS_bind h
    refine E_virI (pc := 15) (c := 271) (r := 106) (as := [.inl x1, .inl x2]) (rest := []) (zDk zD_273_ok 10 rfl) zc_273 (by decide +kernel) zk_271 ⟨(Nat.le_of_ble_eq_true rfl), rfl, rfl⟩ (Nat.le_of_ble_eq_true rfl) (zr_271 _) (Nat.lt_of_lt_of_le (by decide) hq) (by rw [zm_271]; exact (Nat.le_of_ble_eq_true rfl)) ⟨zc_271, by decide⟩ zis_8_106 (ok_lm_cutOf ⟨r15_, e15, ?_⟩)
    refine W_istore_n (pc := 18) (L' := [some (.inr (.inr 106)), some (.inl x1), some (.inl x2), some (.inl r15_.1)]) (zDk zD_273_ok 11 rfl) zm_273 (by decide) rfl ?_
    refine E_iload_n (pc := 19) (zDk zD_273_ok 12 rfl) rfl ?_
    refine E_iconst (pc := 20) (zDk zD_273_ok 13 rfl) (by decide +kernel) ?_
    refine E_icmp (pc := 21) (t := 28) (zDk zD_273_ok 14 rfl) rfl (fun hz => ?_) (fun hz => ?_)
    · have h := zS_f h (T_ne hz)
      refine E_iload_n (pc := 28) (zDk zD_273_ok 17 rfl) rfl ?_
      obtain ⟨v29, e29, h⟩ := zS_bind h
      refine E_staI (pc := 29) (c := 177) (as := [.inl r15_.1]) (rest := []) (zDk zD_273_ok 18 rfl) zc_273 (by decide +kernel) (by decide +kernel) zk_177 ⟨(Nat.le_of_ble_eq_true rfl), rfl, rfl⟩ (Nat.le_of_ble_eq_true rfl) (zr_177 _) (Nat.lt_of_lt_of_le (by decide) hq) (by rw [zm_177]; exact (Nat.le_of_ble_eq_true rfl)) (ok_lm_bits ⟨v29, e29, ?_⟩)
      have h := zS_some h
      exact E_ireturn (pc := 32) (zDk zD_273_ok 19 rfl) zt_273 h
    · have h := zS_t h (F_ne hz)
      refine E_iconst (pc := 24) (zDk zD_273_ok 15 rfl) (by decide +kernel) ?_
      refine E_goto (pc := 25) (t := 32) (zDk zD_273_ok 16 rfl) rfl ?_
      have h := zS_some h
      exact E_ireturn (pc := 32) (zDk zD_273_ok 19 rfl) zt_273 h
  · have h := zS_t h (F_ne hz)
    refine E_bipush (pc := 9) (zDk zD_273_ok 5 rfl) (by decide +kernel) ?_
    have h := zS_some h
    exact E_ireturn (pc := 11) (zDk zD_273_ok 6 rfl) zt_273 h
def zD_274 : List (Nat × Instr × Nat) := [(0, .aload_n (0), 1), (1, .iload_n (1), 1), (2, .iload_n (2), 1), (3, .invokevirtual (360), 3), (6, .ifCond .eq (12), 3), (9, .aload_n (0), 1), (10, .iload_n (1), 1), (11, .iload_n (2), 1), (12, .invokevirtual (363), 3), (15, .goto (5), 3), (18, .bipush (-2), 2), (20, .ireturn, 1)]
set_option maxRecDepth 100000 in
theorem zD_274_ok : zDo 274 zD_274 = true := by decide +kernel
theorem zc_274 : zcls 274 = 8 := by decide +kernel
theorem zm_274 : zml 274 = 3 := by decide +kernel
theorem zt_274 : zrt 274 = (some (.int)) := by decide +kernel
theorem zk_274 : zkd 274 = 1 ∧ znp 274 + 1 = 3 := by decide +kernel
theorem zr_274 (as : List zV) : zrk 274 as = 4 := by unfold zrk; rw [if_neg (by decide)]; decide +kernel
def lm_cuts (x1 : Int) (x2 : Int) (M : Nat → Nat → Int) : Option (Int × (Nat → Nat → Int)) :=
    ((lm_areTwo x1 x2 M).bind (fun v3 =>
    (if v3 = 0 then
    (some ((-2 : Int), M))
    else
    ((lm_cutOf x1 x2 M).bind (fun r12_ =>
    (some (r12_.1, r12_.2)))))))
set_option maxRecDepth 100000 in
theorem ok_lm_cuts {sc : zSc} {x1 : Int} {x2 : Int} {M : Nat → Nat → Int} {P : Int → (Nat → Nat → Int) → Prop} (h : zS (lm_cuts x1 x2 M) (fun r => P r.1 r.2)) : zCi sc 274 [.inr (.inr 106), .inl x1, .inl x2] M P := by
  have ea : zarg (zml 274) [.inr (.inr 106), .inl x1, .inl x2] = [some (.inr (.inr 106)), some (.inl x1), some (.inl x2)] := by rw [zm_274]; rfl
  unfold zCi zCw
  rw [ea, zr_274]
  have hq : 4 ≤ 4 := Nat.le_refl _
  unfold lm_cuts at h
  have h := zS_mono h (fun x hx => (⟨x.1, rfl, hx⟩ : ∃ y, (some (.inl x.1) : Option zV) = some (.inl y) ∧ P y x.2))
  skip
  refine E_aload_n (pc := 0) (zDk zD_274_ok 0 rfl) rfl ?_
  refine E_iload_n (pc := 1) (zDk zD_274_ok 1 rfl) rfl ?_
  refine E_iload_n (pc := 2) (zDk zD_274_ok 2 rfl) rfl ?_
  obtain ⟨v3, e3, h⟩ := zS_bind h
  refine E_virI (pc := 3) (c := 272) (r := 106) (as := [.inl x1, .inl x2]) (rest := []) (zDk zD_274_ok 3 rfl) zc_274 (by decide +kernel) zk_272 ⟨(Nat.le_of_ble_eq_true rfl), rfl, rfl⟩ (Nat.le_of_ble_eq_true rfl) (zr_272 _) (Nat.lt_of_lt_of_le (by decide) hq) (by rw [zm_272]; exact (Nat.le_of_ble_eq_true rfl)) ⟨zc_272, by decide⟩ zis_8_106 (ok_lm_areTwo ⟨v3, e3, ?_⟩)
  refine E_if (pc := 6) (t := 18) (zDk zD_274_ok 4 rfl) rfl (fun hz => ?_) (fun hz => ?_)
  · have h := zS_t h (T_eq hz)
    refine E_bipush (pc := 18) (zDk zD_274_ok 10 rfl) (by decide +kernel) ?_
    have h := zS_some h
    exact E_ireturn (pc := 20) (zDk zD_274_ok 11 rfl) zt_274 h
  · have h := zS_f h (F_eq hz)
    refine E_aload_n (pc := 9) (zDk zD_274_ok 5 rfl) rfl ?_
    refine E_iload_n (pc := 10) (zDk zD_274_ok 6 rfl) rfl ?_
    refine E_iload_n (pc := 11) (zDk zD_274_ok 7 rfl) rfl ?_
    obtain ⟨r12_, e12, h⟩ := zS_bind h
    refine E_virI (pc := 12) (c := 271) (r := 106) (as := [.inl x1, .inl x2]) (rest := []) (zDk zD_274_ok 8 rfl) zc_274 (by decide +kernel) zk_271 ⟨(Nat.le_of_ble_eq_true rfl), rfl, rfl⟩ (Nat.le_of_ble_eq_true rfl) (zr_271 _) (Nat.lt_of_lt_of_le (by decide) hq) (by rw [zm_271]; exact (Nat.le_of_ble_eq_true rfl)) ⟨zc_271, by decide⟩ zis_8_106 (ok_lm_cutOf ⟨r12_, e12, ?_⟩)
    refine E_goto (pc := 15) (t := 20) (zDk zD_274_ok 9 rfl) rfl ?_
    have h := zS_some h
    exact E_ireturn (pc := 20) (zDk zD_274_ok 11 rfl) zt_274 h
def zD_275 : List (Nat × Instr × Nat) := [(0, .aload_n (0), 1), (1, .invokevirtual (305), 3), (4, .aload_n (0), 1), (5, .invokevirtual (366), 3), (8, .ireturn, 1)]
set_option maxRecDepth 100000 in
theorem zD_275_ok : zDo 275 zD_275 = true := by decide +kernel
theorem zc_275 : zcls 275 = 8 := by decide +kernel
theorem zm_275 : zml 275 = 1 := by decide +kernel
theorem zt_275 : zrt 275 = (some (.int)) := by decide +kernel
theorem zk_275 : zkd 275 = 1 ∧ znp 275 + 1 = 1 := by decide +kernel
theorem zr_275 (as : List zV) : zrk 275 as = 4 := by unfold zrk; rw [if_neg (by decide)]; decide +kernel
def lm_signsNow (M : Nat → Nat → Int) : Option (Int × (Nat → Nat → Int)) :=
    ((lm_goAll M).bind (fun M1 =>
    ((lm_manySigned M1).bind (fun v5 =>
    (some (v5, M1))))))
set_option maxRecDepth 100000 in
theorem ok_lm_signsNow {sc : zSc} {M : Nat → Nat → Int} {P : Int → (Nat → Nat → Int) → Prop} (h : zS (lm_signsNow M) (fun r => P r.1 r.2)) : zCi sc 275 [.inr (.inr 106)] M P := by
  have ea : zarg (zml 275) [.inr (.inr 106)] = [some (.inr (.inr 106))] := by rw [zm_275]; rfl
  unfold zCi zCw
  rw [ea, zr_275]
  have hq : 4 ≤ 4 := Nat.le_refl _
  unfold lm_signsNow at h
  have h := zS_mono h (fun x hx => (⟨x.1, rfl, hx⟩ : ∃ y, (some (.inl x.1) : Option zV) = some (.inl y) ∧ P y x.2))
  skip
  refine E_aload_n (pc := 0) (zDk zD_275_ok 0 rfl) rfl ?_
  obtain ⟨M1, e1, h⟩ := zS_bind h
  refine E_virV (pc := 1) (c := 228) (r := 106) (as := []) (rest := []) (zDk zD_275_ok 1 rfl) zc_275 (by decide +kernel) zk_228 ⟨(Nat.le_of_ble_eq_true rfl), rfl, rfl⟩ (Nat.le_of_ble_eq_true rfl) (zr_228 _) (Nat.lt_of_lt_of_le (by decide) hq) (by rw [zm_228]; exact (Nat.le_of_ble_eq_true rfl)) ⟨zc_228, by decide⟩ zis_8_106 (ok_lm_goAll ⟨M1, e1, ?_⟩)
  refine E_aload_n (pc := 4) (zDk zD_275_ok 2 rfl) rfl ?_
  obtain ⟨v5, e5, h⟩ := zS_bind h
  refine E_virI (pc := 5) (c := 247) (r := 106) (as := []) (rest := []) (zDk zD_275_ok 3 rfl) zc_275 (by decide +kernel) zk_247 ⟨(Nat.le_of_ble_eq_true rfl), rfl, rfl⟩ (Nat.le_of_ble_eq_true rfl) (zr_247 _) (Nat.lt_of_lt_of_le (by decide) hq) (by rw [zm_247]; exact (Nat.le_of_ble_eq_true rfl)) ⟨zc_247, by decide⟩ zis_8_106 (ok_lm_manySigned ⟨v5, e5, ?_⟩)
  have h := zS_some h
  exact E_ireturn (pc := 8) (zDk zD_275_ok 4 rfl) zt_275 h
def zD_284 : List (Nat × Instr × Nat) := [(0, .iload_n (1), 1), (1, .invokestatic (375), 3), (4, .ifCond .eq (11), 3), (7, .aload_n (0), 1), (8, .iload_n (2), 1), (9, .invokevirtual (265), 3), (12, .ifCond .ne (6), 3), (15, .bipush (-2), 2), (17, .ireturn, 1), (18, .aload_n (0), 1), (19, .getfield (73), 3), (22, .iload_n (1), 1), (23, .iaload, 1), (24, .iconst (-1), 1), (25, .if_icmp .ne (6), 3), (28, .bipush (-6), 2), (30, .ireturn, 1), (31, .aload_n (0), 1), (32, .getfield (73), 3), (35, .iload_n (1), 1), (36, .iaload, 1), (37, .iconst (2), 1), (38, .irem, 1), (39, .ifCond .eq (6), 3), (42, .bipush (-2), 2), (44, .ireturn, 1), (45, .iconst (0), 1), (46, .istore_n (3), 1), (47, .iload_n (3), 1), (48, .aload_n (0), 1), (49, .getfield (73), 3), (52, .iload_n (1), 1), (53, .iaload, 1), (54, .if_icmp .ge (40), 3), (57, .aload_n (0), 1), (58, .aload_n (0), 1), (59, .iload_n (1), 1), (60, .iload_n (3), 1), (61, .invokevirtual (378), 3), (64, .invokevirtual (311), 3), (67, .ifCond .eq (18), 3), (70, .aload_n (0), 1), (71, .aload_n (0), 1), (72, .iload_n (1), 1), (73, .iload_n (3), 1), (74, .iconst (1), 1), (75, .iadd, 1), (76, .invokevirtual (378), 3), (79, .invokevirtual (261), 3), (82, .ifCond .ne (6), 3), (85, .bipush (-2), 2), (87, .ireturn, 1), (88, .iinc (3) (2), 3), (91, .goto (-44), 3), (94, .aload_n (0), 1), (95, .invokevirtual (254), 3), (98, .iconst (0), 1), (99, .istore_n (3), 1), (100, .iconst (0), 1), (101, .istore (4), 2), (103, .iload (4), 2), (105, .aload_n (0), 1), (106, .getfield (9), 3), (109, .iconst (0), 1), (110, .iaload, 1), (111, .if_icmp .ge (137), 3), (114, .aload_n (0), 1), (115, .getfield (34), 3), (118, .iload_n (2), 1), (119, .iload (4), 2), (121, .iastore, 1), (122, .aload_n (0), 1), (123, .invokevirtual (305), 3), (126, .iconst (1), 1), (127, .istore (5), 2), (129, .iconst (0), 1), (130, .istore (6), 2), (132, .iload (6), 2), (134, .aload_n (0), 1), (135, .getfield (73), 3), (138, .iload_n (1), 1), (139, .iaload, 1), (140, .if_icmp .ge (48), 3), (143, .iload (5), 2), (145, .ifCond .eq (34), 3), (148, .aload_n (0), 1), (149, .iload_n (2), 1), (150, .aload_n (0), 1), (151, .iload_n (1), 1), (152, .iload (6), 2), (154, .invokevirtual (378), 3), (157, .l2i, 1), (158, .invokevirtual (276), 3), (161, .i2l, 1), (162, .aload_n (0), 1), (163, .iload_n (1), 1), (164, .iload (6), 2), (166, .iconst (1), 1), (167, .iadd, 1), (168, .invokevirtual (378), 3), (171, .lcmp, 1), (172, .ifCond .ne (7), 3), (175, .iconst (1), 1), (176, .goto (4), 3), (179, .iconst (0), 1), (180, .istore (5), 2), (182, .iinc (6) (2), 3), (185, .goto (-53), 3), (188, .iconst (0), 1), (189, .istore (6), 2), (191, .iload (6), 2), (193, .aload_n (0), 1), (194, .invokevirtual (99), 3), (197, .if_icmp .gt (29), 3), (200, .aload_n (0), 1), (201, .getfield (70), 3), (204, .bipush (21), 2), (206, .iload (4), 2), (208, .imul, 1), (209, .iload (6), 2), (211, .iadd, 1), (212, .aload_n (0), 1), (213, .iload_n (2), 1), (214, .iload (6), 2), (216, .invokevirtual (276), 3), (219, .iastore, 1), (220, .iinc (6) (1), 3), (223, .goto (-32), 3), (226, .iload_n (3), 1), (227, .iload (5), 2), (229, .ifCond .eq (10), 3), (232, .iconst (1), 1), (233, .iload (4), 2), (235, .ishl, 1), (236, .goto (4), 3), (239, .iconst (0), 1), (240, .ior, 1), (241, .istore_n (3), 1), (242, .iinc (4) (1), 3), (245, .goto (-142), 3), (248, .iload_n (3), 1), (249, .ireturn, 1)]
set_option maxRecDepth 100000 in
theorem zD_284_ok : zDo 284 zD_284 = true := by decide +kernel
theorem zc_284 : zcls 284 = 8 := by decide +kernel
theorem zm_284 : zml 284 = 7 := by decide +kernel
theorem zt_284 : zrt 284 = (some (.int)) := by decide +kernel
theorem zk_284 : zkd 284 = 1 ∧ znp 284 + 1 = 3 := by decide +kernel
theorem zr_284 (as : List zV) : zrk 284 as = 4 := by unfold zrk; rw [if_neg (by decide)]; decide +kernel
def lm_layHomes_c191 (x1 : Int) (x2 : Int) (h103 : Int → Int → (Nat → Nat → Int) → Option (Int × (Nat → Nat → Int))) : Nat → Int → Int → Int → Int → (Nat → Nat → Int) → Option (Int × (Nat → Nat → Int))
  | 0, _, _, _, _, _ => none
  | n + 1, y3, y4, y5, y6, M =>
    ((lm_last M).bind (fun v194 =>
    (if v194 < y6 then
    (if y5 = 0 then
    (h103 (zor y3 (0 : Int)) (w32 (y4 + 1)) M)
    else
    (h103 (zor y3 (zshl (1 : Int) y4)) (w32 (y4 + 1)) M))
    else
    ((lm_placeOf x2 y6 M).bind (fun v216 =>
    ((wrI 125 (w32 ((w32 ((21 : Int) * y4)) + y6)) v216 M).bind (fun M219 =>
    ((lm_layHomes_c191 x1 x2 h103 n) y3 y4 y5 (w32 (y6 + 1)) M219))))))))
set_option maxRecDepth 100000 in
theorem ok_lm_layHomes_c191 {sc : zSc} {q : Nat} {P : Option zV → (Nat → Nat → Int) → Prop} (hq : 4 ≤ q) (x1 : Int) (x2 : Int) (h103 : Int → Int → (Nat → Nat → Int) → Option (Int × (Nat → Nat → Int))) (H103 : ∀ (y3 : Int) (y4 : Int) (M : Nat → Nat → Int) (d5 d6 : Option zV), zS (h103 y3 y4 M) (fun r => P (some (.inl r.1)) r.2) → zWp sc q 284 103 [some (.inr (.inr 106)), some (.inl x1), some (.inl x2), some (.inl y3), some (.inl y4), d5, d6] [] M P) : ∀ (n : Nat) (y3 : Int) (y4 : Int) (y5 : Int) (y6 : Int) (M : Nat → Nat → Int), zS (lm_layHomes_c191 x1 x2 h103 n y3 y4 y5 y6 M) (fun r => P (some (.inl r.1)) r.2) → zWp sc q 284 191 [some (.inr (.inr 106)), some (.inl x1), some (.inl x2), some (.inl y3), some (.inl y4), some (.inl y5), some (.inl y6)] [] M P := by
  intro n
  induction n with
  | zero => intro y3 y4 y5 y6 M h; exact (zS_none h).elim
  | succ n ih =>
    intro y3 y4 y5 y6 M h
    rw [lm_layHomes_c191] at h
    refine E_iload (pc := 191) (zDk zD_284_ok 110 rfl) rfl ?_
    refine E_aload_n (pc := 193) (zDk zD_284_ok 111 rfl) rfl ?_
    obtain ⟨v194, e194, h⟩ := zS_bind h
    refine E_virI (pc := 194) (c := 182) (r := 106) (as := []) (rest := [.inl y6]) (zDk zD_284_ok 112 rfl) zc_284 (by decide +kernel) zk_182 ⟨(Nat.le_of_ble_eq_true rfl), rfl, rfl⟩ (Nat.le_of_ble_eq_true rfl) (zr_182 _) (Nat.lt_of_lt_of_le (by decide) hq) (by rw [zm_182]; exact (Nat.le_of_ble_eq_true rfl)) ⟨zc_182, by decide⟩ zis_8_106 (ok_lm_last ⟨v194, e194, ?_⟩)
    refine E_icmp (pc := 197) (t := 226) (zDk zD_284_ok 113 rfl) rfl (fun hz => ?_) (fun hz => ?_)
    · have h := zS_t h (T_gt hz)
      refine E_iload_n (pc := 226) (zDk zD_284_ok 128 rfl) rfl ?_
      refine E_iload (pc := 227) (zDk zD_284_ok 129 rfl) rfl ?_
      refine E_if (pc := 229) (t := 239) (zDk zD_284_ok 130 rfl) rfl (fun hz => ?_) (fun hz => ?_)
      · have h := zS_t h (T_eq hz)
        refine E_iconst (pc := 239) (zDk zD_284_ok 135 rfl) (by decide +kernel) ?_
        refine E_ior (pc := 240) (zDk zD_284_ok 136 rfl) ?_
        refine W_istore_n (pc := 241) (L' := [some (.inr (.inr 106)), some (.inl x1), some (.inl x2), some (.inl (zor y3 (0 : Int))), some (.inl y4), some (.inl y5), some (.inl y6)]) (zDk zD_284_ok 137 rfl) zm_284 (by decide) rfl ?_
        refine W_iinc (pc := 242) (L' := [some (.inr (.inr 106)), some (.inl x1), some (.inl x2), some (.inl (zor y3 (0 : Int))), some (.inl (w32 (y4 + 1))), some (.inl y5), some (.inl y6)]) (zDk zD_284_ok 138 rfl) rfl zm_284 (by decide) rfl ?_
        refine E_goto (pc := 245) (t := 103) (zDk zD_284_ok 139 rfl) rfl ?_
        exact H103 (zor y3 (0 : Int)) (w32 (y4 + 1)) M (some (.inl y5)) (some (.inl y6)) h
      · have h := zS_f h (F_eq hz)
        refine E_iconst (pc := 232) (zDk zD_284_ok 131 rfl) (by decide +kernel) ?_
        refine E_iload (pc := 233) (zDk zD_284_ok 132 rfl) rfl ?_
        refine E_ishl (pc := 235) (zDk zD_284_ok 133 rfl) ?_
        refine E_goto (pc := 236) (t := 240) (zDk zD_284_ok 134 rfl) rfl ?_
        refine E_ior (pc := 240) (zDk zD_284_ok 136 rfl) ?_
        refine W_istore_n (pc := 241) (L' := [some (.inr (.inr 106)), some (.inl x1), some (.inl x2), some (.inl (zor y3 (zshl (1 : Int) y4))), some (.inl y4), some (.inl y5), some (.inl y6)]) (zDk zD_284_ok 137 rfl) zm_284 (by decide) rfl ?_
        refine W_iinc (pc := 242) (L' := [some (.inr (.inr 106)), some (.inl x1), some (.inl x2), some (.inl (zor y3 (zshl (1 : Int) y4))), some (.inl (w32 (y4 + 1))), some (.inl y5), some (.inl y6)]) (zDk zD_284_ok 138 rfl) rfl zm_284 (by decide) rfl ?_
        refine E_goto (pc := 245) (t := 103) (zDk zD_284_ok 139 rfl) rfl ?_
        exact H103 (zor y3 (zshl (1 : Int) y4)) (w32 (y4 + 1)) M (some (.inl y5)) (some (.inl y6)) h
    · have h := zS_f h (Int.not_lt.mpr (F_gt hz))
      refine E_aload_n (pc := 200) (zDk zD_284_ok 114 rfl) rfl ?_
      refine E_getR (pc := 201) (ci := 8) (f := 31) (r := 125) (zDk zD_284_ok 115 rfl) zc_284 (by decide +kernel) (by decide) zis_8_106 (by decide +kernel) (by decide) ?_
      refine E_bipush (pc := 204) (zDk zD_284_ok 116 rfl) (by decide +kernel) ?_
      refine E_iload (pc := 206) (zDk zD_284_ok 117 rfl) rfl ?_
      refine W_imul (pc := 208) (zDk zD_284_ok 118 rfl) ?_
      refine E_iload (pc := 209) (zDk zD_284_ok 119 rfl) rfl ?_
      refine W_iadd (pc := 211) (zDk zD_284_ok 120 rfl) ?_
      refine E_aload_n (pc := 212) (zDk zD_284_ok 121 rfl) rfl ?_
      refine E_iload_n (pc := 213) (zDk zD_284_ok 122 rfl) rfl ?_
      refine E_iload (pc := 214) (zDk zD_284_ok 123 rfl) rfl ?_
      obtain ⟨v216, e216, h⟩ := zS_bind h
      refine E_virI (pc := 216) (c := 221) (r := 106) (as := [.inl x2, .inl y6]) (rest := [.inl (w32 ((w32 ((21 : Int) * y4)) + y6)), .inr (.inr 125)]) (zDk zD_284_ok 124 rfl) zc_284 (by decide +kernel) zk_221 ⟨(Nat.le_of_ble_eq_true rfl), rfl, rfl⟩ (Nat.le_of_ble_eq_true rfl) (zr_221 _) (Nat.lt_of_lt_of_le (by decide) hq) (by rw [zm_221]; exact (Nat.le_of_ble_eq_true rfl)) ⟨zc_221, by decide⟩ zis_8_106 (ok_lm_placeOf ⟨v216, e216, ?_⟩)
      obtain ⟨M219, e219, h⟩ := zS_bind h
      refine E_iastore (pc := 219) (zDk zD_284_ok 125 rfl) e219 ?_
      refine W_iinc (pc := 220) (L' := [some (.inr (.inr 106)), some (.inl x1), some (.inl x2), some (.inl y3), some (.inl y4), some (.inl y5), some (.inl (w32 (y6 + 1)))]) (zDk zD_284_ok 126 rfl) rfl zm_284 (by decide) rfl ?_
      refine E_goto (pc := 223) (t := 191) (zDk zD_284_ok 127 rfl) rfl ?_
      exact (ih) y3 y4 y5 (w32 (y6 + 1)) M219 h
def lm_layHomes_c132 (x1 : Int) (x2 : Int) (h103 : Int → Int → (Nat → Nat → Int) → Option (Int × (Nat → Nat → Int))) : Nat → Int → Int → Int → Int → (Nat → Nat → Int) → Option (Int × (Nat → Nat → Int))
  | 0, _, _, _, _, _ => none
  | n + 1, y3, y4, y5, y6, M =>
    ((rdI 126 x1 M).bind (fun v139 =>
    (if y6 < v139 then
    (if y5 = 0 then
    ((lm_layHomes_c132 x1 x2 h103 n) y3 y4 (0 : Int) (w32 (y6 + 2)) M)
    else
    ((lm_numberAt x1 y6 M).bind (fun v154 =>
    ((lm_placeOf x2 (w32 v154) M).bind (fun v158 =>
    ((lm_numberAt x1 (w32 (y6 + (1 : Int))) M).bind (fun v168 =>
    (if v158 = v168 then
    ((lm_layHomes_c132 x1 x2 h103 n) y3 y4 (1 : Int) (w32 (y6 + 2)) M)
    else
    ((lm_layHomes_c132 x1 x2 h103 n) y3 y4 (0 : Int) (w32 (y6 + 2)) M)))))))))
    else
    (lm_layHomes_c191 x1 x2 h103 zN y3 y4 y5 (0 : Int) M))))
set_option maxRecDepth 100000 in
theorem ok_lm_layHomes_c132 {sc : zSc} {q : Nat} {P : Option zV → (Nat → Nat → Int) → Prop} (hq : 4 ≤ q) (x1 : Int) (x2 : Int) (h103 : Int → Int → (Nat → Nat → Int) → Option (Int × (Nat → Nat → Int))) (H103 : ∀ (y3 : Int) (y4 : Int) (M : Nat → Nat → Int) (d5 d6 : Option zV), zS (h103 y3 y4 M) (fun r => P (some (.inl r.1)) r.2) → zWp sc q 284 103 [some (.inr (.inr 106)), some (.inl x1), some (.inl x2), some (.inl y3), some (.inl y4), d5, d6] [] M P) : ∀ (n : Nat) (y3 : Int) (y4 : Int) (y5 : Int) (y6 : Int) (M : Nat → Nat → Int), zS (lm_layHomes_c132 x1 x2 h103 n y3 y4 y5 y6 M) (fun r => P (some (.inl r.1)) r.2) → zWp sc q 284 132 [some (.inr (.inr 106)), some (.inl x1), some (.inl x2), some (.inl y3), some (.inl y4), some (.inl y5), some (.inl y6)] [] M P := by
  intro n
  induction n with
  | zero => intro y3 y4 y5 y6 M h; exact (zS_none h).elim
  | succ n ih =>
    intro y3 y4 y5 y6 M h
    rw [lm_layHomes_c132] at h
    refine E_iload (pc := 132) (zDk zD_284_ok 77 rfl) rfl ?_
    refine E_aload_n (pc := 134) (zDk zD_284_ok 78 rfl) rfl ?_
    refine E_getR (pc := 135) (ci := 8) (f := 36) (r := 126) (zDk zD_284_ok 79 rfl) zc_284 (by decide +kernel) (by decide) zis_8_106 (by decide +kernel) (by decide) ?_
    refine E_iload_n (pc := 138) (zDk zD_284_ok 80 rfl) rfl ?_
    obtain ⟨v139, e139, h⟩ := zS_bind h
    refine E_iaload (pc := 139) (zDk zD_284_ok 81 rfl) e139 ?_
    refine E_icmp (pc := 140) (t := 188) (zDk zD_284_ok 82 rfl) rfl (fun hz => ?_) (fun hz => ?_)
    · have h := zS_f h (Int.not_lt.mpr (T_ge hz))
      refine E_iconst (pc := 188) (zDk zD_284_ok 108 rfl) (by decide +kernel) ?_
      refine W_istore (pc := 189) (L' := [some (.inr (.inr 106)), some (.inl x1), some (.inl x2), some (.inl y3), some (.inl y4), some (.inl y5), some (.inl (0 : Int))]) (zDk zD_284_ok 109 rfl) zm_284 (by decide) rfl ?_
      exact ok_lm_layHomes_c191 hq x1 x2 h103 H103 zN y3 y4 y5 (0 : Int) M h
    · have h := zS_t h (F_ge hz)
      refine E_iload (pc := 143) (zDk zD_284_ok 83 rfl) rfl ?_
      refine E_if (pc := 145) (t := 179) (zDk zD_284_ok 84 rfl) rfl (fun hz => ?_) (fun hz => ?_)
      · have h := zS_t h (T_eq hz)
        refine E_iconst (pc := 179) (zDk zD_284_ok 104 rfl) (by decide +kernel) ?_
        refine W_istore (pc := 180) (L' := [some (.inr (.inr 106)), some (.inl x1), some (.inl x2), some (.inl y3), some (.inl y4), some (.inl (0 : Int)), some (.inl y6)]) (zDk zD_284_ok 105 rfl) zm_284 (by decide) rfl ?_
        refine W_iinc (pc := 182) (L' := [some (.inr (.inr 106)), some (.inl x1), some (.inl x2), some (.inl y3), some (.inl y4), some (.inl (0 : Int)), some (.inl (w32 (y6 + 2)))]) (zDk zD_284_ok 106 rfl) rfl zm_284 (by decide) rfl ?_
        refine E_goto (pc := 185) (t := 132) (zDk zD_284_ok 107 rfl) rfl ?_
        exact (ih) y3 y4 (0 : Int) (w32 (y6 + 2)) M h
      · have h := zS_f h (F_eq hz)
        refine E_aload_n (pc := 148) (zDk zD_284_ok 85 rfl) rfl ?_
        refine E_iload_n (pc := 149) (zDk zD_284_ok 86 rfl) rfl ?_
        refine E_aload_n (pc := 150) (zDk zD_284_ok 87 rfl) rfl ?_
        refine E_iload_n (pc := 151) (zDk zD_284_ok 88 rfl) rfl ?_
        refine E_iload (pc := 152) (zDk zD_284_ok 89 rfl) rfl ?_
        obtain ⟨v154, e154, h⟩ := zS_bind h
        refine E_virL (pc := 154) (c := 283) (r := 106) (as := [.inl x1, .inl y6]) (rest := [.inl x2, .inr (.inr 106)]) (zDk zD_284_ok 90 rfl) zc_284 (by decide +kernel) zk_283 ⟨(Nat.le_of_ble_eq_true rfl), rfl, rfl⟩ (Nat.le_of_ble_eq_true rfl) (zr_283 _) (Nat.lt_of_lt_of_le (by decide) hq) (by rw [zm_283]; exact (Nat.le_of_ble_eq_true rfl)) ⟨zc_283, by decide⟩ zis_8_106 (ok_lm_numberAt ⟨v154, e154, ?_⟩)
        refine E_l2i (pc := 157) (zDk zD_284_ok 91 rfl) ?_
        obtain ⟨v158, e158, h⟩ := zS_bind h
        refine E_virI (pc := 158) (c := 221) (r := 106) (as := [.inl x2, .inl (w32 v154)]) (rest := []) (zDk zD_284_ok 92 rfl) zc_284 (by decide +kernel) zk_221 ⟨(Nat.le_of_ble_eq_true rfl), rfl, rfl⟩ (Nat.le_of_ble_eq_true rfl) (zr_221 _) (Nat.lt_of_lt_of_le (by decide) hq) (by rw [zm_221]; exact (Nat.le_of_ble_eq_true rfl)) ⟨zc_221, by decide⟩ zis_8_106 (ok_lm_placeOf ⟨v158, e158, ?_⟩)
        refine E_i2l (pc := 161) (zDk zD_284_ok 93 rfl) ?_
        refine E_aload_n (pc := 162) (zDk zD_284_ok 94 rfl) rfl ?_
        refine E_iload_n (pc := 163) (zDk zD_284_ok 95 rfl) rfl ?_
        refine E_iload (pc := 164) (zDk zD_284_ok 96 rfl) rfl ?_
        refine E_iconst (pc := 166) (zDk zD_284_ok 97 rfl) (by decide +kernel) ?_
        refine W_iadd (pc := 167) (zDk zD_284_ok 98 rfl) ?_
        obtain ⟨v168, e168, h⟩ := zS_bind h
        refine E_virL (pc := 168) (c := 283) (r := 106) (as := [.inl x1, .inl (w32 (y6 + (1 : Int)))]) (rest := [.inr (.inl v158)]) (zDk zD_284_ok 99 rfl) zc_284 (by decide +kernel) zk_283 ⟨(Nat.le_of_ble_eq_true rfl), rfl, rfl⟩ (Nat.le_of_ble_eq_true rfl) (zr_283 _) (Nat.lt_of_lt_of_le (by decide) hq) (by rw [zm_283]; exact (Nat.le_of_ble_eq_true rfl)) ⟨zc_283, by decide⟩ zis_8_106 (ok_lm_numberAt ⟨v168, e168, ?_⟩)
        refine W_lcmp (pc := 171) (zDk zD_284_ok 100 rfl) ?_
        refine E_if (pc := 172) (t := 179) (zDk zD_284_ok 101 rfl) rfl (fun hz => ?_) (fun hz => ?_)
        · have h := zS_f h (zlc_ne (T_ne hz))
          refine E_iconst (pc := 179) (zDk zD_284_ok 104 rfl) (by decide +kernel) ?_
          refine W_istore (pc := 180) (L' := [some (.inr (.inr 106)), some (.inl x1), some (.inl x2), some (.inl y3), some (.inl y4), some (.inl (0 : Int)), some (.inl y6)]) (zDk zD_284_ok 105 rfl) zm_284 (by decide) rfl ?_
          refine W_iinc (pc := 182) (L' := [some (.inr (.inr 106)), some (.inl x1), some (.inl x2), some (.inl y3), some (.inl y4), some (.inl (0 : Int)), some (.inl (w32 (y6 + 2)))]) (zDk zD_284_ok 106 rfl) rfl zm_284 (by decide) rfl ?_
          refine E_goto (pc := 185) (t := 132) (zDk zD_284_ok 107 rfl) rfl ?_
          exact (ih) y3 y4 (0 : Int) (w32 (y6 + 2)) M h
        · have h := zS_t h (zlc_eq (F_ne hz))
          refine E_iconst (pc := 175) (zDk zD_284_ok 102 rfl) (by decide +kernel) ?_
          refine E_goto (pc := 176) (t := 180) (zDk zD_284_ok 103 rfl) rfl ?_
          refine W_istore (pc := 180) (L' := [some (.inr (.inr 106)), some (.inl x1), some (.inl x2), some (.inl y3), some (.inl y4), some (.inl (1 : Int)), some (.inl y6)]) (zDk zD_284_ok 105 rfl) zm_284 (by decide) rfl ?_
          refine W_iinc (pc := 182) (L' := [some (.inr (.inr 106)), some (.inl x1), some (.inl x2), some (.inl y3), some (.inl y4), some (.inl (1 : Int)), some (.inl (w32 (y6 + 2)))]) (zDk zD_284_ok 106 rfl) rfl zm_284 (by decide) rfl ?_
          refine E_goto (pc := 185) (t := 132) (zDk zD_284_ok 107 rfl) rfl ?_
          exact (ih) y3 y4 (1 : Int) (w32 (y6 + 2)) M h
def lm_layHomes_c103 (x1 : Int) (x2 : Int) : Nat → Int → Int → (Nat → Nat → Int) → Option (Int × (Nat → Nat → Int))
  | 0, _, _, _ => none
  | n + 1, y3, y4, M =>
    ((rdI 107 (0 : Int) M).bind (fun v110 =>
    (if y4 < v110 then
    ((wrI 113 x2 y4 M).bind (fun M121 =>
    ((lm_goAll M121).bind (fun M123 =>
    (lm_layHomes_c132 x1 x2 (lm_layHomes_c103 x1 x2 n) zN y3 y4 (1 : Int) (0 : Int) M123)))))
    else
    (some (y3, M)))))
set_option maxRecDepth 100000 in
theorem ok_lm_layHomes_c103 {sc : zSc} {q : Nat} {P : Option zV → (Nat → Nat → Int) → Prop} (hq : 4 ≤ q) (x1 : Int) (x2 : Int) : ∀ (n : Nat) (y3 : Int) (y4 : Int) (M : Nat → Nat → Int) (d5 d6 : Option zV), zS (lm_layHomes_c103 x1 x2 n y3 y4 M) (fun r => P (some (.inl r.1)) r.2) → zWp sc q 284 103 [some (.inr (.inr 106)), some (.inl x1), some (.inl x2), some (.inl y3), some (.inl y4), d5, d6] [] M P := by
  intro n
  induction n with
  | zero => intro y3 y4 M d5 d6 h; exact (zS_none h).elim
  | succ n ih =>
    intro y3 y4 M d5 d6 h
    rw [lm_layHomes_c103] at h
    refine E_iload (pc := 103) (zDk zD_284_ok 60 rfl) rfl ?_
    refine E_aload_n (pc := 105) (zDk zD_284_ok 61 rfl) rfl ?_
    refine E_getR (pc := 106) (ci := 8) (f := 1) (r := 107) (zDk zD_284_ok 62 rfl) zc_284 (by decide +kernel) (by decide) zis_8_106 (by decide +kernel) (by decide) ?_
    refine E_iconst (pc := 109) (zDk zD_284_ok 63 rfl) (by decide +kernel) ?_
    obtain ⟨v110, e110, h⟩ := zS_bind h
    refine E_iaload (pc := 110) (zDk zD_284_ok 64 rfl) e110 ?_
    refine E_icmp (pc := 111) (t := 248) (zDk zD_284_ok 65 rfl) rfl (fun hz => ?_) (fun hz => ?_)
    · have h := zS_f h (Int.not_lt.mpr (T_ge hz))
      refine E_iload_n (pc := 248) (zDk zD_284_ok 140 rfl) rfl ?_
      have h := zS_some h
      exact E_ireturn (pc := 249) (zDk zD_284_ok 141 rfl) zt_284 h
    · have h := zS_t h (F_ge hz)
      refine E_aload_n (pc := 114) (zDk zD_284_ok 66 rfl) rfl ?_
      refine E_getR (pc := 115) (ci := 8) (f := 19) (r := 113) (zDk zD_284_ok 67 rfl) zc_284 (by decide +kernel) (by decide) zis_8_106 (by decide +kernel) (by decide) ?_
      refine E_iload_n (pc := 118) (zDk zD_284_ok 68 rfl) rfl ?_
      refine E_iload (pc := 119) (zDk zD_284_ok 69 rfl) rfl ?_
      obtain ⟨M121, e121, h⟩ := zS_bind h
      refine E_iastore (pc := 121) (zDk zD_284_ok 70 rfl) e121 ?_
      refine E_aload_n (pc := 122) (zDk zD_284_ok 71 rfl) rfl ?_
      obtain ⟨M123, e123, h⟩ := zS_bind h
      refine E_virV (pc := 123) (c := 228) (r := 106) (as := []) (rest := []) (zDk zD_284_ok 72 rfl) zc_284 (by decide +kernel) zk_228 ⟨(Nat.le_of_ble_eq_true rfl), rfl, rfl⟩ (Nat.le_of_ble_eq_true rfl) (zr_228 _) (Nat.lt_of_lt_of_le (by decide) hq) (by rw [zm_228]; exact (Nat.le_of_ble_eq_true rfl)) ⟨zc_228, by decide⟩ zis_8_106 (ok_lm_goAll ⟨M123, e123, ?_⟩)
      refine E_iconst (pc := 126) (zDk zD_284_ok 73 rfl) (by decide +kernel) ?_
      refine W_istore (pc := 127) (L' := [some (.inr (.inr 106)), some (.inl x1), some (.inl x2), some (.inl y3), some (.inl y4), some (.inl (1 : Int)), d6]) (zDk zD_284_ok 74 rfl) zm_284 (by decide) rfl ?_
      refine E_iconst (pc := 129) (zDk zD_284_ok 75 rfl) (by decide +kernel) ?_
      refine W_istore (pc := 130) (L' := [some (.inr (.inr 106)), some (.inl x1), some (.inl x2), some (.inl y3), some (.inl y4), some (.inl (1 : Int)), some (.inl (0 : Int))]) (zDk zD_284_ok 76 rfl) zm_284 (by decide) rfl ?_
      exact ok_lm_layHomes_c132 hq x1 x2 (lm_layHomes_c103 x1 x2 n) (ih) zN y3 y4 (1 : Int) (0 : Int) M123 h
def lm_layHomes_c47 (x1 : Int) (x2 : Int) : Nat → Int → (Nat → Nat → Int) → Option (Int × (Nat → Nat → Int))
  | 0, _, _ => none
  | n + 1, y3, M =>
    ((rdI 126 x1 M).bind (fun v53 =>
    (if y3 < v53 then
    ((lm_numberAt x1 y3 M).bind (fun v61 =>
    ((lm_isStep v61 M).bind (fun v64 =>
    (if v64 = 0 then
    (some ((-2 : Int), M))
    else
    ((lm_numberAt x1 (w32 (y3 + (1 : Int))) M).bind (fun v76 =>
    ((lm_isCorner v76 M).bind (fun v79 =>
    (if v79 = 0 then
    (some ((-2 : Int), M))
    else
    ((lm_layHomes_c47 x1 x2 n) (w32 (y3 + 2)) M)))))))))))
    else
    ((lm_asItIs M).bind (fun M95 =>
    (lm_layHomes_c103 x1 x2 zN (0 : Int) (0 : Int) M95))))))
set_option maxRecDepth 100000 in
theorem ok_lm_layHomes_c47 {sc : zSc} {q : Nat} {P : Option zV → (Nat → Nat → Int) → Prop} (hq : 4 ≤ q) (x1 : Int) (x2 : Int) : ∀ (n : Nat) (y3 : Int) (M : Nat → Nat → Int) (d4 d5 d6 : Option zV), zS (lm_layHomes_c47 x1 x2 n y3 M) (fun r => P (some (.inl r.1)) r.2) → zWp sc q 284 47 [some (.inr (.inr 106)), some (.inl x1), some (.inl x2), some (.inl y3), d4, d5, d6] [] M P := by
  intro n
  induction n with
  | zero => intro y3 M d4 d5 d6 h; exact (zS_none h).elim
  | succ n ih =>
    intro y3 M d4 d5 d6 h
    rw [lm_layHomes_c47] at h
    refine E_iload_n (pc := 47) (zDk zD_284_ok 28 rfl) rfl ?_
    refine E_aload_n (pc := 48) (zDk zD_284_ok 29 rfl) rfl ?_
    refine E_getR (pc := 49) (ci := 8) (f := 36) (r := 126) (zDk zD_284_ok 30 rfl) zc_284 (by decide +kernel) (by decide) zis_8_106 (by decide +kernel) (by decide) ?_
    refine E_iload_n (pc := 52) (zDk zD_284_ok 31 rfl) rfl ?_
    obtain ⟨v53, e53, h⟩ := zS_bind h
    refine E_iaload (pc := 53) (zDk zD_284_ok 32 rfl) e53 ?_
    refine E_icmp (pc := 54) (t := 94) (zDk zD_284_ok 33 rfl) rfl (fun hz => ?_) (fun hz => ?_)
    · have h := zS_f h (Int.not_lt.mpr (T_ge hz))
      refine E_aload_n (pc := 94) (zDk zD_284_ok 54 rfl) rfl ?_
      obtain ⟨M95, e95, h⟩ := zS_bind h
      refine E_virV (pc := 95) (c := 214) (r := 106) (as := []) (rest := []) (zDk zD_284_ok 55 rfl) zc_284 (by decide +kernel) zk_214 ⟨(Nat.le_of_ble_eq_true rfl), rfl, rfl⟩ (Nat.le_of_ble_eq_true rfl) (zr_214 _) (Nat.lt_of_lt_of_le (by decide) hq) (by rw [zm_214]; exact (Nat.le_of_ble_eq_true rfl)) ⟨zc_214, by decide⟩ zis_8_106 (ok_lm_asItIs ⟨M95, e95, ?_⟩)
      refine E_iconst (pc := 98) (zDk zD_284_ok 56 rfl) (by decide +kernel) ?_
      refine W_istore_n (pc := 99) (L' := [some (.inr (.inr 106)), some (.inl x1), some (.inl x2), some (.inl (0 : Int)), d4, d5, d6]) (zDk zD_284_ok 57 rfl) zm_284 (by decide) rfl ?_
      refine E_iconst (pc := 100) (zDk zD_284_ok 58 rfl) (by decide +kernel) ?_
      refine W_istore (pc := 101) (L' := [some (.inr (.inr 106)), some (.inl x1), some (.inl x2), some (.inl (0 : Int)), some (.inl (0 : Int)), d5, d6]) (zDk zD_284_ok 59 rfl) zm_284 (by decide) rfl ?_
      exact ok_lm_layHomes_c103 hq x1 x2 zN (0 : Int) (0 : Int) M95 d5 d6 h
    · have h := zS_t h (F_ge hz)
      refine E_aload_n (pc := 57) (zDk zD_284_ok 34 rfl) rfl ?_
      refine E_aload_n (pc := 58) (zDk zD_284_ok 35 rfl) rfl ?_
      refine E_iload_n (pc := 59) (zDk zD_284_ok 36 rfl) rfl ?_
      refine E_iload_n (pc := 60) (zDk zD_284_ok 37 rfl) rfl ?_
      obtain ⟨v61, e61, h⟩ := zS_bind h
      refine E_virL (pc := 61) (c := 283) (r := 106) (as := [.inl x1, .inl y3]) (rest := [.inr (.inr 106)]) (zDk zD_284_ok 38 rfl) zc_284 (by decide +kernel) zk_283 ⟨(Nat.le_of_ble_eq_true rfl), rfl, rfl⟩ (Nat.le_of_ble_eq_true rfl) (zr_283 _) (Nat.lt_of_lt_of_le (by decide) hq) (by rw [zm_283]; exact (Nat.le_of_ble_eq_true rfl)) ⟨zc_283, by decide⟩ zis_8_106 (ok_lm_numberAt ⟨v61, e61, ?_⟩)
      obtain ⟨v64, e64, h⟩ := zS_bind h
      refine E_virI (pc := 64) (c := 183) (r := 106) (as := [.inr (.inl v61)]) (rest := []) (zDk zD_284_ok 39 rfl) zc_284 (by decide +kernel) zk_183 ⟨(Nat.le_of_ble_eq_true rfl), rfl, rfl⟩ (Nat.le_of_ble_eq_true rfl) (zr_183 _) (Nat.lt_of_lt_of_le (by decide) hq) (by rw [zm_183]; exact (Nat.le_of_ble_eq_true rfl)) ⟨zc_183, by decide⟩ zis_8_106 (ok_lm_isStep ⟨v64, e64, ?_⟩)
      refine E_if (pc := 67) (t := 85) (zDk zD_284_ok 40 rfl) rfl (fun hz => ?_) (fun hz => ?_)
      · have h := zS_t h (T_eq hz)
        refine E_bipush (pc := 85) (zDk zD_284_ok 50 rfl) (by decide +kernel) ?_
        have h := zS_some h
        exact E_ireturn (pc := 87) (zDk zD_284_ok 51 rfl) zt_284 h
      · have h := zS_f h (F_eq hz)
        refine E_aload_n (pc := 70) (zDk zD_284_ok 41 rfl) rfl ?_
        refine E_aload_n (pc := 71) (zDk zD_284_ok 42 rfl) rfl ?_
        refine E_iload_n (pc := 72) (zDk zD_284_ok 43 rfl) rfl ?_
        refine E_iload_n (pc := 73) (zDk zD_284_ok 44 rfl) rfl ?_
        refine E_iconst (pc := 74) (zDk zD_284_ok 45 rfl) (by decide +kernel) ?_
        refine W_iadd (pc := 75) (zDk zD_284_ok 46 rfl) ?_
        obtain ⟨v76, e76, h⟩ := zS_bind h
        refine E_virL (pc := 76) (c := 283) (r := 106) (as := [.inl x1, .inl (w32 (y3 + (1 : Int)))]) (rest := [.inr (.inr 106)]) (zDk zD_284_ok 47 rfl) zc_284 (by decide +kernel) zk_283 ⟨(Nat.le_of_ble_eq_true rfl), rfl, rfl⟩ (Nat.le_of_ble_eq_true rfl) (zr_283 _) (Nat.lt_of_lt_of_le (by decide) hq) (by rw [zm_283]; exact (Nat.le_of_ble_eq_true rfl)) ⟨zc_283, by decide⟩ zis_8_106 (ok_lm_numberAt ⟨v76, e76, ?_⟩)
        obtain ⟨v79, e79, h⟩ := zS_bind h
        refine E_virI (pc := 79) (c := 185) (r := 106) (as := [.inr (.inl v76)]) (rest := []) (zDk zD_284_ok 48 rfl) zc_284 (by decide +kernel) zk_185 ⟨(Nat.le_of_ble_eq_true rfl), rfl, rfl⟩ (Nat.le_of_ble_eq_true rfl) (zr_185 _) (Nat.lt_of_lt_of_le (by decide) hq) (by rw [zm_185]; exact (Nat.le_of_ble_eq_true rfl)) ⟨zc_185, by decide⟩ zis_8_106 (ok_lm_isCorner ⟨v79, e79, ?_⟩)
        refine E_if (pc := 82) (t := 88) (zDk zD_284_ok 49 rfl) rfl (fun hz => ?_) (fun hz => ?_)
        · have h := zS_f h (T_ne hz)
          refine W_iinc (pc := 88) (L' := [some (.inr (.inr 106)), some (.inl x1), some (.inl x2), some (.inl (w32 (y3 + 2))), d4, d5, d6]) (zDk zD_284_ok 52 rfl) rfl zm_284 (by decide) rfl ?_
          refine E_goto (pc := 91) (t := 47) (zDk zD_284_ok 53 rfl) rfl ?_
          exact (ih) (w32 (y3 + 2)) M d4 d5 d6 h
        · have h := zS_t h (F_ne hz)
          refine E_bipush (pc := 85) (zDk zD_284_ok 50 rfl) (by decide +kernel) ?_
          have h := zS_some h
          exact E_ireturn (pc := 87) (zDk zD_284_ok 51 rfl) zt_284 h
def lm_layHomes (x1 : Int) (x2 : Int) (M : Nat → Nat → Int) : Option (Int × (Nat → Nat → Int)) :=
    ((lm_isSlot x1 M).bind (fun v1 =>
    (if v1 = 0 then
    (some ((-2 : Int), M))
    else
    ((lm_isName x2 M).bind (fun v9 =>
    (if v9 = 0 then
    (some ((-2 : Int), M))
    else
    ((rdI 126 x1 M).bind (fun v23 =>
    (if v23 = (-1 : Int) then
    (some ((-6 : Int), M))
    else
    ((rdI 126 x1 M).bind (fun v36 =>
    (if (zrem v36 (2 : Int)) = 0 then
    (lm_layHomes_c47 x1 x2 zN (0 : Int) M)
    else
    (some ((-2 : Int), M))))))))))))))
set_option maxRecDepth 100000 in
theorem ok_lm_layHomes {sc : zSc} {x1 : Int} {x2 : Int} {M : Nat → Nat → Int} {P : Int → (Nat → Nat → Int) → Prop} (h : zS (lm_layHomes x1 x2 M) (fun r => P r.1 r.2)) : zCi sc 284 [.inr (.inr 106), .inl x1, .inl x2] M P := by
  have ea : zarg (zml 284) [.inr (.inr 106), .inl x1, .inl x2] = [some (.inr (.inr 106)), some (.inl x1), some (.inl x2), none, none, none, none] := by rw [zm_284]; rfl
  unfold zCi zCw
  rw [ea, zr_284]
  have hq : 4 ≤ 4 := Nat.le_refl _
  unfold lm_layHomes at h
  have h := zS_mono h (fun x hx => (⟨x.1, rfl, hx⟩ : ∃ y, (some (.inl x.1) : Option zV) = some (.inl y) ∧ P y x.2))
  skip
  refine E_iload_n (pc := 0) (zDk zD_284_ok 0 rfl) rfl ?_
  obtain ⟨v1, e1, h⟩ := zS_bind h
  refine E_staI (pc := 1) (c := 316) (as := [.inl x1]) (rest := []) (zDk zD_284_ok 1 rfl) zc_284 (by decide +kernel) (by decide +kernel) zk_316 ⟨(Nat.le_of_ble_eq_true rfl), rfl, rfl⟩ (Nat.le_of_ble_eq_true rfl) (zr_316 _) (Nat.lt_of_lt_of_le (by decide) hq) (by rw [zm_316]; exact (Nat.le_of_ble_eq_true rfl)) (ok_lm_isSlot ⟨v1, e1, ?_⟩)
  refine E_if (pc := 4) (t := 15) (zDk zD_284_ok 2 rfl) rfl (fun hz => ?_) (fun hz => ?_)
  · have h := zS_t h (T_eq hz)
    refine E_bipush (pc := 15) (zDk zD_284_ok 7 rfl) (by decide +kernel) ?_
    have h := zS_some h
    exact E_ireturn (pc := 17) (zDk zD_284_ok 8 rfl) zt_284 h
  · have h := zS_f h (F_eq hz)
    refine E_aload_n (pc := 7) (zDk zD_284_ok 3 rfl) rfl ?_
    refine E_iload_n (pc := 8) (zDk zD_284_ok 4 rfl) rfl ?_
    obtain ⟨v9, e9, h⟩ := zS_bind h
    refine E_virI (pc := 9) (c := 186) (r := 106) (as := [.inl x2]) (rest := []) (zDk zD_284_ok 5 rfl) zc_284 (by decide +kernel) zk_186 ⟨(Nat.le_of_ble_eq_true rfl), rfl, rfl⟩ (Nat.le_of_ble_eq_true rfl) (zr_186 _) (Nat.lt_of_lt_of_le (by decide) hq) (by rw [zm_186]; exact (Nat.le_of_ble_eq_true rfl)) ⟨zc_186, by decide⟩ zis_8_106 (ok_lm_isName ⟨v9, e9, ?_⟩)
    refine E_if (pc := 12) (t := 18) (zDk zD_284_ok 6 rfl) rfl (fun hz => ?_) (fun hz => ?_)
    · have h := zS_f h (T_ne hz)
      refine E_aload_n (pc := 18) (zDk zD_284_ok 9 rfl) rfl ?_
      refine E_getR (pc := 19) (ci := 8) (f := 36) (r := 126) (zDk zD_284_ok 10 rfl) zc_284 (by decide +kernel) (by decide) zis_8_106 (by decide +kernel) (by decide) ?_
      refine E_iload_n (pc := 22) (zDk zD_284_ok 11 rfl) rfl ?_
      obtain ⟨v23, e23, h⟩ := zS_bind h
      refine E_iaload (pc := 23) (zDk zD_284_ok 12 rfl) e23 ?_
      refine E_iconst (pc := 24) (zDk zD_284_ok 13 rfl) (by decide +kernel) ?_
      refine E_icmp (pc := 25) (t := 31) (zDk zD_284_ok 14 rfl) rfl (fun hz => ?_) (fun hz => ?_)
      · have h := zS_f h (T_ne hz)
        refine E_aload_n (pc := 31) (zDk zD_284_ok 17 rfl) rfl ?_
        refine E_getR (pc := 32) (ci := 8) (f := 36) (r := 126) (zDk zD_284_ok 18 rfl) zc_284 (by decide +kernel) (by decide) zis_8_106 (by decide +kernel) (by decide) ?_
        refine E_iload_n (pc := 35) (zDk zD_284_ok 19 rfl) rfl ?_
        obtain ⟨v36, e36, h⟩ := zS_bind h
        refine E_iaload (pc := 36) (zDk zD_284_ok 20 rfl) e36 ?_
        refine E_iconst (pc := 37) (zDk zD_284_ok 21 rfl) (by decide +kernel) ?_
        refine E_irem (pc := 38) (zDk zD_284_ok 22 rfl) (by decide) ?_
        refine E_if (pc := 39) (t := 45) (zDk zD_284_ok 23 rfl) rfl (fun hz => ?_) (fun hz => ?_)
        · have h := zS_t h (T_eq hz)
          refine E_iconst (pc := 45) (zDk zD_284_ok 26 rfl) (by decide +kernel) ?_
          refine W_istore_n (pc := 46) (L' := [some (.inr (.inr 106)), some (.inl x1), some (.inl x2), some (.inl (0 : Int)), none, none, none]) (zDk zD_284_ok 27 rfl) zm_284 (by decide) rfl ?_
          exact ok_lm_layHomes_c47 hq x1 x2 zN (0 : Int) M none none none h
        · have h := zS_f h (F_eq hz)
          refine E_bipush (pc := 42) (zDk zD_284_ok 24 rfl) (by decide +kernel) ?_
          have h := zS_some h
          exact E_ireturn (pc := 44) (zDk zD_284_ok 25 rfl) zt_284 h
      · have h := zS_t h (F_ne hz)
        refine E_bipush (pc := 28) (zDk zD_284_ok 15 rfl) (by decide +kernel) ?_
        have h := zS_some h
        exact E_ireturn (pc := 30) (zDk zD_284_ok 16 rfl) zt_284 h
    · have h := zS_t h (F_ne hz)
      refine E_bipush (pc := 15) (zDk zD_284_ok 7 rfl) (by decide +kernel) ?_
      have h := zS_some h
      exact E_ireturn (pc := 17) (zDk zD_284_ok 8 rfl) zt_284 h
def zD_298 : List (Nat × Instr × Nat) := [(0, .aload_n (0), 1), (1, .invokevirtual (254), 3), (4, .aload_n (0), 1), (5, .iload_n (3), 1), (6, .iload_n (1), 1), (7, .ishl, 1), (8, .iload (4), 2), (10, .iload_n (2), 1), (11, .ishl, 1), (12, .ior, 1), (13, .putfield (248), 3), (16, .aload_n (0), 1), (17, .invokevirtual (305), 3), (20, .iload (5), 2), (22, .ifCond .ne (7), 3), (25, .iload_n (1), 1), (26, .goto (4), 3), (29, .iload_n (2), 1), (30, .istore (6), 2), (32, .iconst (5), 1), (33, .aload_n (0), 1), (34, .iload (6), 2), (36, .invokevirtual (335), 3), (39, .imul, 1), (40, .aload_n (0), 1), (41, .getfield (58), 3), (44, .iload (6), 2), (46, .iaload, 1), (47, .isub, 1), (48, .ireturn, 1)]
set_option maxRecDepth 100000 in
theorem zD_298_ok : zDo 298 zD_298 = true := by decide +kernel
theorem zc_298 : zcls 298 = 8 := by decide +kernel
theorem zm_298 : zml 298 = 7 := by decide +kernel
theorem zt_298 : zrt 298 = (some (.int)) := by decide +kernel
theorem zk_298 : zkd 298 = 1 ∧ znp 298 + 1 = 6 := by decide +kernel
theorem zr_298 (as : List zV) : zrk 298 as = 4 := by unfold zrk; rw [if_neg (by decide)]; decide +kernel
def lm_getsBy_c30 (x1 : Int) (x2 : Int) (x3 : Int) (x4 : Int) (x5 : Int) (s0 : Int) (M : Nat → Nat → Int) : Option (Int × (Nat → Nat → Int)) :=
    ((lm_deedsOf s0 M).bind (fun v36 =>
    ((rdI 121 s0 M).bind (fun v46 =>
    (some ((w32 ((w32 ((5 : Int) * v36)) - v46)), M))))))
set_option maxRecDepth 100000 in
theorem ok_lm_getsBy_c30 {sc : zSc} {q : Nat} {P : Option zV → (Nat → Nat → Int) → Prop} (hq : 4 ≤ q) (x1 : Int) (x2 : Int) (x3 : Int) (x4 : Int) (x5 : Int) : ∀ (s0 : Int) (M : Nat → Nat → Int) (d6 : Option zV), zS (lm_getsBy_c30 x1 x2 x3 x4 x5 s0 M) (fun r => P (some (.inl r.1)) r.2) → zWp sc q 298 30 [some (.inr (.inr 106)), some (.inl x1), some (.inl x2), some (.inl x3), some (.inl x4), some (.inl x5), d6] [(.inl s0 : zV)] M P := by
  intro s0 M d6 h
  unfold lm_getsBy_c30 at h
  refine W_istore (pc := 30) (L' := [some (.inr (.inr 106)), some (.inl x1), some (.inl x2), some (.inl x3), some (.inl x4), some (.inl x5), some (.inl s0)]) (zDk zD_298_ok 18 rfl) zm_298 (by decide) rfl ?_
  refine E_iconst (pc := 32) (zDk zD_298_ok 19 rfl) (by decide +kernel) ?_
  refine E_aload_n (pc := 33) (zDk zD_298_ok 20 rfl) rfl ?_
  refine E_iload (pc := 34) (zDk zD_298_ok 21 rfl) rfl ?_
  obtain ⟨v36, e36, h⟩ := zS_bind h
  refine E_virI (pc := 36) (c := 249) (r := 106) (as := [.inl s0]) (rest := [.inl (5 : Int)]) (zDk zD_298_ok 22 rfl) zc_298 (by decide +kernel) zk_249 ⟨(Nat.le_of_ble_eq_true rfl), rfl, rfl⟩ (Nat.le_of_ble_eq_true rfl) (zr_249 _) (Nat.lt_of_lt_of_le (by decide) hq) (by rw [zm_249]; exact (Nat.le_of_ble_eq_true rfl)) ⟨zc_249, by decide⟩ zis_8_106 (ok_lm_deedsOf ⟨v36, e36, ?_⟩)
  refine W_imul (pc := 39) (zDk zD_298_ok 23 rfl) ?_
  refine E_aload_n (pc := 40) (zDk zD_298_ok 24 rfl) rfl ?_
  refine E_getR (pc := 41) (ci := 8) (f := 27) (r := 121) (zDk zD_298_ok 25 rfl) zc_298 (by decide +kernel) (by decide) zis_8_106 (by decide +kernel) (by decide) ?_
  refine E_iload (pc := 44) (zDk zD_298_ok 26 rfl) rfl ?_
  obtain ⟨v46, e46, h⟩ := zS_bind h
  refine E_iaload (pc := 46) (zDk zD_298_ok 27 rfl) e46 ?_
  refine W_isub (pc := 47) (zDk zD_298_ok 28 rfl) ?_
  have h := zS_some h
  exact E_ireturn (pc := 48) (zDk zD_298_ok 29 rfl) zt_298 h
def lm_getsBy (x1 : Int) (x2 : Int) (x3 : Int) (x4 : Int) (x5 : Int) (M : Nat → Nat → Int) : Option (Int × (Nat → Nat → Int)) :=
    ((lm_asItIs M).bind (fun M1 =>
    ((some (zup M1 106 18 (zor (zshl x3 x1) (zshl x4 x2)))).bind (fun M13 =>
    ((lm_goAll M13).bind (fun M17 =>
    (if x5 = 0 then
    (lm_getsBy_c30 x1 x2 x3 x4 x5 x1 M17)
    else
    (lm_getsBy_c30 x1 x2 x3 x4 x5 x2 M17))))))))
set_option maxRecDepth 100000 in
theorem ok_lm_getsBy {sc : zSc} {x1 : Int} {x2 : Int} {x3 : Int} {x4 : Int} {x5 : Int} {M : Nat → Nat → Int} {P : Int → (Nat → Nat → Int) → Prop} (h : zS (lm_getsBy x1 x2 x3 x4 x5 M) (fun r => P r.1 r.2)) : zCi sc 298 [.inr (.inr 106), .inl x1, .inl x2, .inl x3, .inl x4, .inl x5] M P := by
  have ea : zarg (zml 298) [.inr (.inr 106), .inl x1, .inl x2, .inl x3, .inl x4, .inl x5] = [some (.inr (.inr 106)), some (.inl x1), some (.inl x2), some (.inl x3), some (.inl x4), some (.inl x5), none] := by rw [zm_298]; rfl
  unfold zCi zCw
  rw [ea, zr_298]
  have hq : 4 ≤ 4 := Nat.le_refl _
  unfold lm_getsBy at h
  have h := zS_mono h (fun x hx => (⟨x.1, rfl, hx⟩ : ∃ y, (some (.inl x.1) : Option zV) = some (.inl y) ∧ P y x.2))
  skip
  refine E_aload_n (pc := 0) (zDk zD_298_ok 0 rfl) rfl ?_
  obtain ⟨M1, e1, h⟩ := zS_bind h
  refine E_virV (pc := 1) (c := 214) (r := 106) (as := []) (rest := []) (zDk zD_298_ok 1 rfl) zc_298 (by decide +kernel) zk_214 ⟨(Nat.le_of_ble_eq_true rfl), rfl, rfl⟩ (Nat.le_of_ble_eq_true rfl) (zr_214 _) (Nat.lt_of_lt_of_le (by decide) hq) (by rw [zm_214]; exact (Nat.le_of_ble_eq_true rfl)) ⟨zc_214, by decide⟩ zis_8_106 (ok_lm_asItIs ⟨M1, e1, ?_⟩)
  refine E_aload_n (pc := 4) (zDk zD_298_ok 2 rfl) rfl ?_
  refine E_iload_n (pc := 5) (zDk zD_298_ok 3 rfl) rfl ?_
  refine E_iload_n (pc := 6) (zDk zD_298_ok 4 rfl) rfl ?_
  refine E_ishl (pc := 7) (zDk zD_298_ok 5 rfl) ?_
  refine E_iload (pc := 8) (zDk zD_298_ok 6 rfl) rfl ?_
  refine E_iload_n (pc := 10) (zDk zD_298_ok 7 rfl) rfl ?_
  refine E_ishl (pc := 11) (zDk zD_298_ok 8 rfl) ?_
  refine E_ior (pc := 12) (zDk zD_298_ok 9 rfl) ?_
  obtain ⟨M13, e13, h⟩ := zS_bind h
  refine W_putI (pc := 13) (ci := 8) (f := 18) (zDk zD_298_ok 10 rfl) zc_298 (by decide +kernel) (by decide) zis_8_106 (Option.some.inj e13) ?_
  refine E_aload_n (pc := 16) (zDk zD_298_ok 11 rfl) rfl ?_
  obtain ⟨M17, e17, h⟩ := zS_bind h
  refine E_virV (pc := 17) (c := 228) (r := 106) (as := []) (rest := []) (zDk zD_298_ok 12 rfl) zc_298 (by decide +kernel) zk_228 ⟨(Nat.le_of_ble_eq_true rfl), rfl, rfl⟩ (Nat.le_of_ble_eq_true rfl) (zr_228 _) (Nat.lt_of_lt_of_le (by decide) hq) (by rw [zm_228]; exact (Nat.le_of_ble_eq_true rfl)) ⟨zc_228, by decide⟩ zis_8_106 (ok_lm_goAll ⟨M17, e17, ?_⟩)
  refine E_iload (pc := 20) (zDk zD_298_ok 13 rfl) rfl ?_
  refine E_if (pc := 22) (t := 29) (zDk zD_298_ok 14 rfl) rfl (fun hz => ?_) (fun hz => ?_)
  · have h := zS_f h (T_ne hz)
    refine E_iload_n (pc := 29) (zDk zD_298_ok 17 rfl) rfl ?_
    exact ok_lm_getsBy_c30 hq x1 x2 x3 x4 x5 x2 M17 none h
  · have h := zS_t h (F_ne hz)
    refine E_iload_n (pc := 25) (zDk zD_298_ok 15 rfl) rfl ?_
    refine E_goto (pc := 26) (t := 30) (zDk zD_298_ok 16 rfl) rfl ?_
    exact ok_lm_getsBy_c30 hq x1 x2 x3 x4 x5 x1 M17 none h
def zD_301 : List (Nat × Instr × Nat) := [(0, .aload_n (0), 1), (1, .lconst (0), 1), (2, .putfield (423), 3), (5, .aload_n (0), 1), (6, .lconst (0), 1), (7, .putfield (427), 3), (10, .aload_n (0), 1), (11, .lconst (0), 1), (12, .putfield (430), 3), (15, .aload_n (0), 1), (16, .invokevirtual (254), 3), (19, .aload_n (0), 1), (20, .iconst (0), 1), (21, .putfield (245), 3), (24, .aload_n (0), 1), (25, .getfield (245), 3), (28, .iconst (2), 1), (29, .iload_n (2), 1), (30, .ishl, 1), (31, .if_icmp .ge (136), 3), (34, .lconst (1), 1), (35, .lstore_n (3), 1), (36, .iconst (0), 1), (37, .istore (5), 2), (39, .iload (5), 2), (41, .iload_n (2), 1), (42, .if_icmp .gt (45), 3), (45, .lload_n (3), 1), (46, .aload_n (0), 1), (47, .getfield (245), 3), (50, .iload (5), 2), (52, .invokestatic (202), 3), (55, .iconst (1), 1), (56, .if_icmp .ne (13), 3), (59, .aload_n (0), 1), (60, .getfield (9), 3), (63, .iconst (3), 1), (64, .iaload, 1), (65, .i2l, 1), (66, .goto (13), 3), (69, .bipush (10), 2), (71, .aload_n (0), 1), (72, .getfield (9), 3), (75, .iconst (3), 1), (76, .iaload, 1), (77, .isub, 1), (78, .i2l, 1), (79, .lmul, 1), (80, .lstore_n (3), 1), (81, .iinc (5) (1), 3), (84, .goto (-45), 3), (87, .lload_n (3), 1), (88, .lconst (0), 1), (89, .lcmp, 1), (90, .ifCond .ne (6), 3), (93, .goto (61), 3), (96, .aload_n (0), 1), (97, .invokevirtual (305), 3), (100, .aload_n (0), 1), (101, .iload_n (2), 1), (102, .iconst (1), 1), (103, .iadd, 1), (104, .invokevirtual (329), 3), (107, .istore (5), 2), (109, .aload_n (0), 1), (110, .dup, 1), (111, .getfield (423), 3), (114, .lload_n (3), 1), (115, .ladd, 1), (116, .putfield (423), 3), (119, .aload_n (0), 1), (120, .dup, 1), (121, .getfield (427), 3), (124, .lload_n (3), 1), (125, .iload (5), 2), (127, .iload_n (1), 1), (128, .invokestatic (202), 3), (131, .i2l, 1), (132, .lmul, 1), (133, .ladd, 1), (134, .putfield (427), 3), (137, .aload_n (0), 1), (138, .dup, 1), (139, .getfield (430), 3), (142, .lload_n (3), 1), (143, .iload (5), 2), (145, .invokestatic (332), 3), (148, .i2l, 1), (149, .lmul, 1), (150, .ladd, 1), (151, .putfield (430), 3), (154, .aload_n (0), 1), (155, .dup, 1), (156, .getfield (245), 3), (159, .iconst (1), 1), (160, .iadd, 1), (161, .putfield (245), 3), (164, .goto (-140), 3), (167, .return_, 1)]
set_option maxRecDepth 100000 in
theorem zD_301_ok : zDo 301 zD_301 = true := by decide +kernel
theorem zc_301 : zcls 301 = 8 := by decide +kernel
theorem zm_301 : zml 301 = 6 := by decide +kernel
theorem zt_301 : zrt 301 = none := by decide +kernel
theorem zk_301 : zkd 301 = 1 ∧ znp 301 + 1 = 3 := by decide +kernel
theorem zr_301 (as : List zV) : zrk 301 as = 4 := by unfold zrk; rw [if_neg (by decide)]; decide +kernel
def lm_layRain_c39 (x1 : Int) (x2 : Int) (h24 : (Nat → Nat → Int) → Option (Nat → Nat → Int)) : Nat → Int → Int → (Nat → Nat → Int) → Option (Nat → Nat → Int)
  | 0, _, _, _ => none
  | n + 1, y3, y5, M =>
    (if x2 < y5 then
    (if y3 = (0 : Int) then
    ((some (zup M 106 17 (w32 ((M 106 17) + (1 : Int))))).bind (fun M161 =>
    (h24 M161)))
    else
    ((lm_goAll M).bind (fun M97 =>
    ((lm_signsTo (w32 (x2 + (1 : Int))) M97).bind (fun v104 =>
    ((some (zup M97 106 33 (w64 ((M97 106 33) + y3)))).bind (fun M116 =>
    ((lm_bit v104 x1 M116).bind (fun v128 =>
    ((some (zup M116 106 34 (w64 ((M116 106 34) + (w64 (y3 * v128)))))).bind (fun M134 =>
    ((lm_bits v104 M134).bind (fun v145 =>
    ((some (zup M134 106 35 (w64 ((M134 106 35) + (w64 (y3 * v145)))))).bind (fun M151 =>
    ((some (zup M151 106 17 (w32 ((M151 106 17) + (1 : Int))))).bind (fun M161 =>
    (h24 M161))))))))))))))))))
    else
    ((lm_bit (M 106 17) y5 M).bind (fun v52 =>
    (if v52 = (1 : Int) then
    ((rdI 107 (3 : Int) M).bind (fun v64 =>
    ((lm_layRain_c39 x1 x2 h24 n) (w64 (y3 * v64)) (w32 (y5 + 1)) M)))
    else
    ((rdI 107 (3 : Int) M).bind (fun v76 =>
    ((lm_layRain_c39 x1 x2 h24 n) (w64 (y3 * (w32 ((10 : Int) - v76)))) (w32 (y5 + 1)) M)))))))
set_option maxRecDepth 100000 in
theorem ok_lm_layRain_c39 {sc : zSc} {q : Nat} {P : Option zV → (Nat → Nat → Int) → Prop} (hq : 4 ≤ q) (x1 : Int) (x2 : Int) (h24 : (Nat → Nat → Int) → Option (Nat → Nat → Int)) (H24 : ∀ (M : Nat → Nat → Int) (d3 d4 d5 : Option zV), zS (h24 M) (fun M0 => P none M0) → zWp sc q 301 24 [some (.inr (.inr 106)), some (.inl x1), some (.inl x2), d3, d4, d5] [] M P) : ∀ (n : Nat) (y3 : Int) (y5 : Int) (M : Nat → Nat → Int), zS (lm_layRain_c39 x1 x2 h24 n y3 y5 M) (fun M0 => P none M0) → zWp sc q 301 39 [some (.inr (.inr 106)), some (.inl x1), some (.inl x2), some (.inr (.inl y3)), none, some (.inl y5)] [] M P := by
  intro n
  induction n with
  | zero => intro y3 y5 M h; exact (zS_none h).elim
  | succ n ih =>
    intro y3 y5 M h
    rw [lm_layRain_c39] at h
    refine E_iload (pc := 39) (zDk zD_301_ok 24 rfl) rfl ?_
    refine E_iload_n (pc := 41) (zDk zD_301_ok 25 rfl) rfl ?_
    refine E_icmp (pc := 42) (t := 87) (zDk zD_301_ok 26 rfl) rfl (fun hz => ?_) (fun hz => ?_)
    · have h := zS_t h (T_gt hz)
      refine E_lload_n (pc := 87) (zDk zD_301_ok 51 rfl) rfl ?_
      refine E_lconst (pc := 88) (v := 0) (zDk zD_301_ok 52 rfl) (by decide +kernel) ?_
      refine W_lcmp (pc := 89) (zDk zD_301_ok 53 rfl) ?_
      refine E_if (pc := 90) (t := 96) (zDk zD_301_ok 54 rfl) rfl (fun hz => ?_) (fun hz => ?_)
      · have h := zS_f h (zlc_ne (T_ne hz))
        refine E_aload_n (pc := 96) (zDk zD_301_ok 56 rfl) rfl ?_
        obtain ⟨M97, e97, h⟩ := zS_bind h
        refine E_virV (pc := 97) (c := 228) (r := 106) (as := []) (rest := []) (zDk zD_301_ok 57 rfl) zc_301 (by decide +kernel) zk_228 ⟨(Nat.le_of_ble_eq_true rfl), rfl, rfl⟩ (Nat.le_of_ble_eq_true rfl) (zr_228 _) (Nat.lt_of_lt_of_le (by decide) hq) (by rw [zm_228]; exact (Nat.le_of_ble_eq_true rfl)) ⟨zc_228, by decide⟩ zis_8_106 (ok_lm_goAll ⟨M97, e97, ?_⟩)
        refine E_aload_n (pc := 100) (zDk zD_301_ok 58 rfl) rfl ?_
        refine E_iload_n (pc := 101) (zDk zD_301_ok 59 rfl) rfl ?_
        refine E_iconst (pc := 102) (zDk zD_301_ok 60 rfl) (by decide +kernel) ?_
        refine W_iadd (pc := 103) (zDk zD_301_ok 61 rfl) ?_
        obtain ⟨v104, e104, h⟩ := zS_bind h
        refine E_virI (pc := 104) (c := 246) (r := 106) (as := [.inl (w32 (x2 + (1 : Int)))]) (rest := []) (zDk zD_301_ok 62 rfl) zc_301 (by decide +kernel) zk_246 ⟨(Nat.le_of_ble_eq_true rfl), rfl, rfl⟩ (Nat.le_of_ble_eq_true rfl) (zr_246 _) (Nat.lt_of_lt_of_le (by decide) hq) (by rw [zm_246]; exact (Nat.le_of_ble_eq_true rfl)) ⟨zc_246, by decide⟩ zis_8_106 (ok_lm_signsTo ⟨v104, e104, ?_⟩)
        refine W_istore (pc := 107) (L' := [some (.inr (.inr 106)), some (.inl x1), some (.inl x2), some (.inr (.inl y3)), none, some (.inl v104)]) (zDk zD_301_ok 63 rfl) zm_301 (by decide) rfl ?_
        refine E_aload_n (pc := 109) (zDk zD_301_ok 64 rfl) rfl ?_
        refine E_dup (pc := 110) (zDk zD_301_ok 65 rfl) rfl ?_
        refine E_getL (pc := 111) (ci := 8) (f := 33) (zDk zD_301_ok 66 rfl) zc_301 (by decide +kernel) (by decide) zis_8_106 ?_
        refine E_lload_n (pc := 114) (zDk zD_301_ok 67 rfl) rfl ?_
        refine W_ladd (pc := 115) (zDk zD_301_ok 68 rfl) ?_
        obtain ⟨M116, e116, h⟩ := zS_bind h
        refine W_putL (pc := 116) (ci := 8) (f := 33) (zDk zD_301_ok 69 rfl) zc_301 (by decide +kernel) (by decide) zis_8_106 (Option.some.inj e116) ?_
        refine E_aload_n (pc := 119) (zDk zD_301_ok 70 rfl) rfl ?_
        refine E_dup (pc := 120) (zDk zD_301_ok 71 rfl) rfl ?_
        refine E_getL (pc := 121) (ci := 8) (f := 34) (zDk zD_301_ok 72 rfl) zc_301 (by decide +kernel) (by decide) zis_8_106 ?_
        refine E_lload_n (pc := 124) (zDk zD_301_ok 73 rfl) rfl ?_
        refine E_iload (pc := 125) (zDk zD_301_ok 74 rfl) rfl ?_
        refine E_iload_n (pc := 127) (zDk zD_301_ok 75 rfl) rfl ?_
        obtain ⟨v128, e128, h⟩ := zS_bind h
        refine E_staI (pc := 128) (c := 178) (as := [.inl v104, .inl x1]) (rest := [.inr (.inl y3), .inr (.inl (M116 106 34)), .inr (.inr 106)]) (zDk zD_301_ok 76 rfl) zc_301 (by decide +kernel) (by decide +kernel) zk_178 ⟨(Nat.le_of_ble_eq_true rfl), rfl, rfl⟩ (Nat.le_of_ble_eq_true rfl) (zr_178 _) (Nat.lt_of_lt_of_le (by decide) hq) (by rw [zm_178]; exact (Nat.le_of_ble_eq_true rfl)) (ok_lm_bit ⟨v128, e128, ?_⟩)
        refine E_i2l (pc := 131) (zDk zD_301_ok 77 rfl) ?_
        refine W_lmul (pc := 132) (zDk zD_301_ok 78 rfl) ?_
        refine W_ladd (pc := 133) (zDk zD_301_ok 79 rfl) ?_
        obtain ⟨M134, e134, h⟩ := zS_bind h
        refine W_putL (pc := 134) (ci := 8) (f := 34) (zDk zD_301_ok 80 rfl) zc_301 (by decide +kernel) (by decide) zis_8_106 (Option.some.inj e134) ?_
        refine E_aload_n (pc := 137) (zDk zD_301_ok 81 rfl) rfl ?_
        refine E_dup (pc := 138) (zDk zD_301_ok 82 rfl) rfl ?_
        refine E_getL (pc := 139) (ci := 8) (f := 35) (zDk zD_301_ok 83 rfl) zc_301 (by decide +kernel) (by decide) zis_8_106 ?_
        refine E_lload_n (pc := 142) (zDk zD_301_ok 84 rfl) rfl ?_
        refine E_iload (pc := 143) (zDk zD_301_ok 85 rfl) rfl ?_
        obtain ⟨v145, e145, h⟩ := zS_bind h
        refine E_staI (pc := 145) (c := 177) (as := [.inl v104]) (rest := [.inr (.inl y3), .inr (.inl (M134 106 35)), .inr (.inr 106)]) (zDk zD_301_ok 86 rfl) zc_301 (by decide +kernel) (by decide +kernel) zk_177 ⟨(Nat.le_of_ble_eq_true rfl), rfl, rfl⟩ (Nat.le_of_ble_eq_true rfl) (zr_177 _) (Nat.lt_of_lt_of_le (by decide) hq) (by rw [zm_177]; exact (Nat.le_of_ble_eq_true rfl)) (ok_lm_bits ⟨v145, e145, ?_⟩)
        refine E_i2l (pc := 148) (zDk zD_301_ok 87 rfl) ?_
        refine W_lmul (pc := 149) (zDk zD_301_ok 88 rfl) ?_
        refine W_ladd (pc := 150) (zDk zD_301_ok 89 rfl) ?_
        obtain ⟨M151, e151, h⟩ := zS_bind h
        refine W_putL (pc := 151) (ci := 8) (f := 35) (zDk zD_301_ok 90 rfl) zc_301 (by decide +kernel) (by decide) zis_8_106 (Option.some.inj e151) ?_
        refine E_aload_n (pc := 154) (zDk zD_301_ok 91 rfl) rfl ?_
        refine E_dup (pc := 155) (zDk zD_301_ok 92 rfl) rfl ?_
        refine E_getI (pc := 156) (ci := 8) (f := 17) (zDk zD_301_ok 93 rfl) zc_301 (by decide +kernel) (by decide) zis_8_106 ?_
        refine E_iconst (pc := 159) (zDk zD_301_ok 94 rfl) (by decide +kernel) ?_
        refine W_iadd (pc := 160) (zDk zD_301_ok 95 rfl) ?_
        obtain ⟨M161, e161, h⟩ := zS_bind h
        refine W_putI (pc := 161) (ci := 8) (f := 17) (zDk zD_301_ok 96 rfl) zc_301 (by decide +kernel) (by decide) zis_8_106 (Option.some.inj e161) ?_
        refine E_goto (pc := 164) (t := 24) (zDk zD_301_ok 97 rfl) rfl ?_
        exact H24 M161 (some (.inr (.inl y3))) none (some (.inl v104)) h
      · have h := zS_t h (zlc_eq (F_ne hz))
        refine E_goto (pc := 93) (t := 154) (zDk zD_301_ok 55 rfl) rfl ?_
        refine E_aload_n (pc := 154) (zDk zD_301_ok 91 rfl) rfl ?_
        refine E_dup (pc := 155) (zDk zD_301_ok 92 rfl) rfl ?_
        refine E_getI (pc := 156) (ci := 8) (f := 17) (zDk zD_301_ok 93 rfl) zc_301 (by decide +kernel) (by decide) zis_8_106 ?_
        refine E_iconst (pc := 159) (zDk zD_301_ok 94 rfl) (by decide +kernel) ?_
        refine W_iadd (pc := 160) (zDk zD_301_ok 95 rfl) ?_
        obtain ⟨M161, e161, h⟩ := zS_bind h
        refine W_putI (pc := 161) (ci := 8) (f := 17) (zDk zD_301_ok 96 rfl) zc_301 (by decide +kernel) (by decide) zis_8_106 (Option.some.inj e161) ?_
        refine E_goto (pc := 164) (t := 24) (zDk zD_301_ok 97 rfl) rfl ?_
        exact H24 M161 (some (.inr (.inl y3))) none (some (.inl y5)) h
    · have h := zS_f h (Int.not_lt.mpr (F_gt hz))
      refine E_lload_n (pc := 45) (zDk zD_301_ok 27 rfl) rfl ?_
      refine E_aload_n (pc := 46) (zDk zD_301_ok 28 rfl) rfl ?_
      refine E_getI (pc := 47) (ci := 8) (f := 17) (zDk zD_301_ok 29 rfl) zc_301 (by decide +kernel) (by decide) zis_8_106 ?_
      refine E_iload (pc := 50) (zDk zD_301_ok 30 rfl) rfl ?_
      obtain ⟨v52, e52, h⟩ := zS_bind h
      refine E_staI (pc := 52) (c := 178) (as := [.inl (M 106 17), .inl y5]) (rest := [.inr (.inl y3)]) (zDk zD_301_ok 31 rfl) zc_301 (by decide +kernel) (by decide +kernel) zk_178 ⟨(Nat.le_of_ble_eq_true rfl), rfl, rfl⟩ (Nat.le_of_ble_eq_true rfl) (zr_178 _) (Nat.lt_of_lt_of_le (by decide) hq) (by rw [zm_178]; exact (Nat.le_of_ble_eq_true rfl)) (ok_lm_bit ⟨v52, e52, ?_⟩)
      refine E_iconst (pc := 55) (zDk zD_301_ok 32 rfl) (by decide +kernel) ?_
      refine E_icmp (pc := 56) (t := 69) (zDk zD_301_ok 33 rfl) rfl (fun hz => ?_) (fun hz => ?_)
      · have h := zS_f h (T_ne hz)
        refine E_bipush (pc := 69) (zDk zD_301_ok 40 rfl) (by decide +kernel) ?_
        refine E_aload_n (pc := 71) (zDk zD_301_ok 41 rfl) rfl ?_
        refine E_getR (pc := 72) (ci := 8) (f := 1) (r := 107) (zDk zD_301_ok 42 rfl) zc_301 (by decide +kernel) (by decide) zis_8_106 (by decide +kernel) (by decide) ?_
        refine E_iconst (pc := 75) (zDk zD_301_ok 43 rfl) (by decide +kernel) ?_
        obtain ⟨v76, e76, h⟩ := zS_bind h
        refine E_iaload (pc := 76) (zDk zD_301_ok 44 rfl) e76 ?_
        refine W_isub (pc := 77) (zDk zD_301_ok 45 rfl) ?_
        refine E_i2l (pc := 78) (zDk zD_301_ok 46 rfl) ?_
        refine W_lmul (pc := 79) (zDk zD_301_ok 47 rfl) ?_
        refine W_lstore_n (pc := 80) (L' := [some (.inr (.inr 106)), some (.inl x1), some (.inl x2), some (.inr (.inl (w64 (y3 * (w32 ((10 : Int) - v76)))))), none, some (.inl y5)]) (zDk zD_301_ok 48 rfl) zm_301 (by decide) rfl ?_
        refine W_iinc (pc := 81) (L' := [some (.inr (.inr 106)), some (.inl x1), some (.inl x2), some (.inr (.inl (w64 (y3 * (w32 ((10 : Int) - v76)))))), none, some (.inl (w32 (y5 + 1)))]) (zDk zD_301_ok 49 rfl) rfl zm_301 (by decide) rfl ?_
        refine E_goto (pc := 84) (t := 39) (zDk zD_301_ok 50 rfl) rfl ?_
        exact (ih) (w64 (y3 * (w32 ((10 : Int) - v76)))) (w32 (y5 + 1)) M h
      · have h := zS_t h (F_ne hz)
        refine E_aload_n (pc := 59) (zDk zD_301_ok 34 rfl) rfl ?_
        refine E_getR (pc := 60) (ci := 8) (f := 1) (r := 107) (zDk zD_301_ok 35 rfl) zc_301 (by decide +kernel) (by decide) zis_8_106 (by decide +kernel) (by decide) ?_
        refine E_iconst (pc := 63) (zDk zD_301_ok 36 rfl) (by decide +kernel) ?_
        obtain ⟨v64, e64, h⟩ := zS_bind h
        refine E_iaload (pc := 64) (zDk zD_301_ok 37 rfl) e64 ?_
        refine E_i2l (pc := 65) (zDk zD_301_ok 38 rfl) ?_
        refine E_goto (pc := 66) (t := 79) (zDk zD_301_ok 39 rfl) rfl ?_
        refine W_lmul (pc := 79) (zDk zD_301_ok 47 rfl) ?_
        refine W_lstore_n (pc := 80) (L' := [some (.inr (.inr 106)), some (.inl x1), some (.inl x2), some (.inr (.inl (w64 (y3 * v64)))), none, some (.inl y5)]) (zDk zD_301_ok 48 rfl) zm_301 (by decide) rfl ?_
        refine W_iinc (pc := 81) (L' := [some (.inr (.inr 106)), some (.inl x1), some (.inl x2), some (.inr (.inl (w64 (y3 * v64)))), none, some (.inl (w32 (y5 + 1)))]) (zDk zD_301_ok 49 rfl) rfl zm_301 (by decide) rfl ?_
        refine E_goto (pc := 84) (t := 39) (zDk zD_301_ok 50 rfl) rfl ?_
        exact (ih) (w64 (y3 * v64)) (w32 (y5 + 1)) M h
def lm_layRain_c24 (x1 : Int) (x2 : Int) : Nat → (Nat → Nat → Int) → Option (Nat → Nat → Int)
  | 0, _ => none
  | n + 1, M =>
    (if (M 106 17) < (zshl (2 : Int) x2) then
    (lm_layRain_c39 x1 x2 (lm_layRain_c24 x1 x2 n) zN (1 : Int) (0 : Int) M)
    else
    (some M))
set_option maxRecDepth 100000 in
theorem ok_lm_layRain_c24 {sc : zSc} {q : Nat} {P : Option zV → (Nat → Nat → Int) → Prop} (hq : 4 ≤ q) (x1 : Int) (x2 : Int) : ∀ (n : Nat) (M : Nat → Nat → Int) (d3 d4 d5 : Option zV), zS (lm_layRain_c24 x1 x2 n M) (fun M0 => P none M0) → zWp sc q 301 24 [some (.inr (.inr 106)), some (.inl x1), some (.inl x2), d3, d4, d5] [] M P := by
  intro n
  induction n with
  | zero => intro M d3 d4 d5 h; exact (zS_none h).elim
  | succ n ih =>
    intro M d3 d4 d5 h
    rw [lm_layRain_c24] at h
    refine E_aload_n (pc := 24) (zDk zD_301_ok 14 rfl) rfl ?_
    refine E_getI (pc := 25) (ci := 8) (f := 17) (zDk zD_301_ok 15 rfl) zc_301 (by decide +kernel) (by decide) zis_8_106 ?_
    refine E_iconst (pc := 28) (zDk zD_301_ok 16 rfl) (by decide +kernel) ?_
    refine E_iload_n (pc := 29) (zDk zD_301_ok 17 rfl) rfl ?_
    refine E_ishl (pc := 30) (zDk zD_301_ok 18 rfl) ?_
    refine E_icmp (pc := 31) (t := 167) (zDk zD_301_ok 19 rfl) rfl (fun hz => ?_) (fun hz => ?_)
    · have h := zS_f h (Int.not_lt.mpr (T_ge hz))
      have h := zS_some h
      exact E_return (x := ()) (pc := 167) (zDk zD_301_ok 98 rfl) zt_301 h
    · have h := zS_t h (F_ge hz)
      refine E_lconst (pc := 34) (v := 1) (zDk zD_301_ok 20 rfl) (by decide +kernel) ?_
      refine W_lstore_n (pc := 35) (L' := [some (.inr (.inr 106)), some (.inl x1), some (.inl x2), some (.inr (.inl (1 : Int))), none, d5]) (zDk zD_301_ok 21 rfl) zm_301 (by decide) rfl ?_
      refine E_iconst (pc := 36) (zDk zD_301_ok 22 rfl) (by decide +kernel) ?_
      refine W_istore (pc := 37) (L' := [some (.inr (.inr 106)), some (.inl x1), some (.inl x2), some (.inr (.inl (1 : Int))), none, some (.inl (0 : Int))]) (zDk zD_301_ok 23 rfl) zm_301 (by decide) rfl ?_
      exact ok_lm_layRain_c39 hq x1 x2 (lm_layRain_c24 x1 x2 n) (ih) zN (1 : Int) (0 : Int) M h
def lm_layRain (x1 : Int) (x2 : Int) (M : Nat → Nat → Int) : Option (Nat → Nat → Int) :=
    ((some (zup M 106 33 (0 : Int))).bind (fun M2 =>
    ((some (zup M2 106 34 (0 : Int))).bind (fun M7 =>
    ((some (zup M7 106 35 (0 : Int))).bind (fun M12 =>
    ((lm_asItIs M12).bind (fun M16 =>
    ((some (zup M16 106 17 (0 : Int))).bind (fun M21 =>
    (lm_layRain_c24 x1 x2 zN M21)))))))))))
set_option maxRecDepth 100000 in
theorem ok_lm_layRain {sc : zSc} {x1 : Int} {x2 : Int} {M : Nat → Nat → Int} {P : (Nat → Nat → Int) → Prop} (h : zS (lm_layRain x1 x2 M) P) : zCv sc 301 [.inr (.inr 106), .inl x1, .inl x2] M P := by
  have ea : zarg (zml 301) [.inr (.inr 106), .inl x1, .inl x2] = [some (.inr (.inr 106)), some (.inl x1), some (.inl x2), none, none, none] := by rw [zm_301]; rfl
  unfold zCv zCw
  rw [ea, zr_301]
  have hq : 4 ≤ 4 := Nat.le_refl _
  unfold lm_layRain at h
  have h := zS_mono h (fun x hx => (⟨rfl, hx⟩ : (none : Option zV) = none ∧ P x))
  skip
  refine E_aload_n (pc := 0) (zDk zD_301_ok 0 rfl) rfl ?_
  refine E_lconst (pc := 1) (v := 0) (zDk zD_301_ok 1 rfl) (by decide +kernel) ?_
  obtain ⟨M2, e2, h⟩ := zS_bind h
  refine W_putL (pc := 2) (ci := 8) (f := 33) (zDk zD_301_ok 2 rfl) zc_301 (by decide +kernel) (by decide) zis_8_106 (Option.some.inj e2) ?_
  refine E_aload_n (pc := 5) (zDk zD_301_ok 3 rfl) rfl ?_
  refine E_lconst (pc := 6) (v := 0) (zDk zD_301_ok 4 rfl) (by decide +kernel) ?_
  obtain ⟨M7, e7, h⟩ := zS_bind h
  refine W_putL (pc := 7) (ci := 8) (f := 34) (zDk zD_301_ok 5 rfl) zc_301 (by decide +kernel) (by decide) zis_8_106 (Option.some.inj e7) ?_
  refine E_aload_n (pc := 10) (zDk zD_301_ok 6 rfl) rfl ?_
  refine E_lconst (pc := 11) (v := 0) (zDk zD_301_ok 7 rfl) (by decide +kernel) ?_
  obtain ⟨M12, e12, h⟩ := zS_bind h
  refine W_putL (pc := 12) (ci := 8) (f := 35) (zDk zD_301_ok 8 rfl) zc_301 (by decide +kernel) (by decide) zis_8_106 (Option.some.inj e12) ?_
  refine E_aload_n (pc := 15) (zDk zD_301_ok 9 rfl) rfl ?_
  obtain ⟨M16, e16, h⟩ := zS_bind h
  refine E_virV (pc := 16) (c := 214) (r := 106) (as := []) (rest := []) (zDk zD_301_ok 10 rfl) zc_301 (by decide +kernel) zk_214 ⟨(Nat.le_of_ble_eq_true rfl), rfl, rfl⟩ (Nat.le_of_ble_eq_true rfl) (zr_214 _) (Nat.lt_of_lt_of_le (by decide) hq) (by rw [zm_214]; exact (Nat.le_of_ble_eq_true rfl)) ⟨zc_214, by decide⟩ zis_8_106 (ok_lm_asItIs ⟨M16, e16, ?_⟩)
  refine E_aload_n (pc := 19) (zDk zD_301_ok 11 rfl) rfl ?_
  refine E_iconst (pc := 20) (zDk zD_301_ok 12 rfl) (by decide +kernel) ?_
  obtain ⟨M21, e21, h⟩ := zS_bind h
  refine W_putI (pc := 21) (ci := 8) (f := 17) (zDk zD_301_ok 13 rfl) zc_301 (by decide +kernel) (by decide) zis_8_106 (Option.some.inj e21) ?_
  exact ok_lm_layRain_c24 hq x1 x2 zN M21 none none none h
def zD_310 : List (Nat × Instr × Nat) := [(0, .aload_n (0), 1), (1, .invokevirtual (254), 3), (4, .lload_n (1), 1), (5, .lstore_n (3), 1), (6, .iconst (0), 1), (7, .istore (5), 2), (9, .iload (5), 2), (11, .aload_n (0), 1), (12, .invokevirtual (99), 3), (15, .if_icmp .ge (60), 3), (18, .ldc2_w (450), 3), (21, .lload_n (3), 1), (22, .lmul, 1), (23, .ldc2_w (452), 3), (26, .ladd, 1), (27, .ldc2_w (454), 3), (30, .lrem, 1), (31, .lstore_n (3), 1), (32, .aload_n (0), 1), (33, .dup, 1), (34, .getfield (245), 3), (37, .lload_n (3), 1), (38, .ldc2_w (456), 3), (41, .ldiv, 1), (42, .ldc2_w (458), 3), (45, .lrem, 1), (46, .aload_n (0), 1), (47, .getfield (9), 3), (50, .iconst (3), 1), (51, .iaload, 1), (52, .i2l, 1), (53, .lcmp, 1), (54, .ifCond .ge (10), 3), (57, .iconst (1), 1), (58, .iload (5), 2), (60, .ishl, 1), (61, .goto (4), 3), (64, .iconst (0), 1), (65, .ior, 1), (66, .putfield (245), 3), (69, .iinc (5) (1), 3), (72, .goto (-63), 3), (75, .aload_n (0), 1), (76, .invokevirtual (305), 3), (79, .return_, 1)]
set_option maxRecDepth 100000 in
theorem zD_310_ok : zDo 310 zD_310 = true := by decide +kernel
theorem zc_310 : zcls 310 = 8 := by decide +kernel
theorem zm_310 : zml 310 = 6 := by decide +kernel
theorem zt_310 : zrt 310 = none := by decide +kernel
theorem zk_310 : zkd 310 = 1 ∧ znp 310 + 1 = 2 := by decide +kernel
theorem zr_310 (as : List zV) : zrk 310 as = 4 := by unfold zrk; rw [if_neg (by decide)]; decide +kernel
def lm_goDrawn_c9 (x1 : Int) : Nat → Int → Int → (Nat → Nat → Int) → Option (Nat → Nat → Int)
  | 0, _, _, _ => none
  | n + 1, y3, y5, M =>
    ((lm_last M).bind (fun v12 =>
    (if y5 < v12 then
    ((rdI 107 (3 : Int) M).bind (fun v51 =>
    (if (zremL (zdivL (zremL (w64 ((w64 ((1103515245 : Int) * y3)) + (12345 : Int))) (2147483648 : Int)) (65536 : Int)) (10 : Int)) < v51 then
    ((some (zup M 106 17 (zor (M 106 17) (zshl (1 : Int) y5)))).bind (fun M66 =>
    ((lm_goDrawn_c9 x1 n) (zremL (w64 ((w64 ((1103515245 : Int) * y3)) + (12345 : Int))) (2147483648 : Int)) (w32 (y5 + 1)) M66)))
    else
    ((some (zup M 106 17 (zor (M 106 17) (0 : Int)))).bind (fun M66 =>
    ((lm_goDrawn_c9 x1 n) (zremL (w64 ((w64 ((1103515245 : Int) * y3)) + (12345 : Int))) (2147483648 : Int)) (w32 (y5 + 1)) M66))))))
    else
    ((lm_goAll M).bind (fun M76 =>
    (some M76))))))
set_option maxRecDepth 100000 in
theorem ok_lm_goDrawn_c9 {sc : zSc} {q : Nat} {P : Option zV → (Nat → Nat → Int) → Prop} (hq : 4 ≤ q) (x1 : Int) : ∀ (n : Nat) (y3 : Int) (y5 : Int) (M : Nat → Nat → Int), zS (lm_goDrawn_c9 x1 n y3 y5 M) (fun M0 => P none M0) → zWp sc q 310 9 [some (.inr (.inr 106)), some (.inr (.inl x1)), none, some (.inr (.inl y3)), none, some (.inl y5)] [] M P := by
  intro n
  induction n with
  | zero => intro y3 y5 M h; exact (zS_none h).elim
  | succ n ih =>
    intro y3 y5 M h
    rw [lm_goDrawn_c9] at h
    refine E_iload (pc := 9) (zDk zD_310_ok 6 rfl) rfl ?_
    refine E_aload_n (pc := 11) (zDk zD_310_ok 7 rfl) rfl ?_
    obtain ⟨v12, e12, h⟩ := zS_bind h
    refine E_virI (pc := 12) (c := 182) (r := 106) (as := []) (rest := [.inl y5]) (zDk zD_310_ok 8 rfl) zc_310 (by decide +kernel) zk_182 ⟨(Nat.le_of_ble_eq_true rfl), rfl, rfl⟩ (Nat.le_of_ble_eq_true rfl) (zr_182 _) (Nat.lt_of_lt_of_le (by decide) hq) (by rw [zm_182]; exact (Nat.le_of_ble_eq_true rfl)) ⟨zc_182, by decide⟩ zis_8_106 (ok_lm_last ⟨v12, e12, ?_⟩)
    refine E_icmp (pc := 15) (t := 75) (zDk zD_310_ok 9 rfl) rfl (fun hz => ?_) (fun hz => ?_)
    · have h := zS_f h (Int.not_lt.mpr (T_ge hz))
      refine E_aload_n (pc := 75) (zDk zD_310_ok 42 rfl) rfl ?_
      obtain ⟨M76, e76, h⟩ := zS_bind h
      refine E_virV (pc := 76) (c := 228) (r := 106) (as := []) (rest := []) (zDk zD_310_ok 43 rfl) zc_310 (by decide +kernel) zk_228 ⟨(Nat.le_of_ble_eq_true rfl), rfl, rfl⟩ (Nat.le_of_ble_eq_true rfl) (zr_228 _) (Nat.lt_of_lt_of_le (by decide) hq) (by rw [zm_228]; exact (Nat.le_of_ble_eq_true rfl)) ⟨zc_228, by decide⟩ zis_8_106 (ok_lm_goAll ⟨M76, e76, ?_⟩)
      have h := zS_some h
      exact E_return (x := ()) (pc := 79) (zDk zD_310_ok 44 rfl) zt_310 h
    · have h := zS_t h (F_ge hz)
      refine E_ldc2_w (pc := 18) (v := .inr (.inl (1103515245 : Int))) (zDk zD_310_ok 10 rfl) zc_310 (by decide +kernel) ?_
      refine E_lload_n (pc := 21) (zDk zD_310_ok 11 rfl) rfl ?_
      refine W_lmul (pc := 22) (zDk zD_310_ok 12 rfl) ?_
      refine E_ldc2_w (pc := 23) (v := .inr (.inl (12345 : Int))) (zDk zD_310_ok 13 rfl) zc_310 (by decide +kernel) ?_
      refine W_ladd (pc := 26) (zDk zD_310_ok 14 rfl) ?_
      refine E_ldc2_w (pc := 27) (v := .inr (.inl (2147483648 : Int))) (zDk zD_310_ok 15 rfl) zc_310 (by decide +kernel) ?_
      refine E_lrem (pc := 30) (zDk zD_310_ok 16 rfl) (by decide) ?_
      refine W_lstore_n (pc := 31) (L' := [some (.inr (.inr 106)), some (.inr (.inl x1)), none, some (.inr (.inl (zremL (w64 ((w64 ((1103515245 : Int) * y3)) + (12345 : Int))) (2147483648 : Int)))), none, some (.inl y5)]) (zDk zD_310_ok 17 rfl) zm_310 (by decide) rfl ?_
      refine E_aload_n (pc := 32) (zDk zD_310_ok 18 rfl) rfl ?_
      refine E_dup (pc := 33) (zDk zD_310_ok 19 rfl) rfl ?_
      refine E_getI (pc := 34) (ci := 8) (f := 17) (zDk zD_310_ok 20 rfl) zc_310 (by decide +kernel) (by decide) zis_8_106 ?_
      refine E_lload_n (pc := 37) (zDk zD_310_ok 21 rfl) rfl ?_
      refine E_ldc2_w (pc := 38) (v := .inr (.inl (65536 : Int))) (zDk zD_310_ok 22 rfl) zc_310 (by decide +kernel) ?_
      refine E_ldiv (pc := 41) (zDk zD_310_ok 23 rfl) (by decide) ?_
      refine E_ldc2_w (pc := 42) (v := .inr (.inl (10 : Int))) (zDk zD_310_ok 24 rfl) zc_310 (by decide +kernel) ?_
      refine E_lrem (pc := 45) (zDk zD_310_ok 25 rfl) (by decide) ?_
      refine E_aload_n (pc := 46) (zDk zD_310_ok 26 rfl) rfl ?_
      refine E_getR (pc := 47) (ci := 8) (f := 1) (r := 107) (zDk zD_310_ok 27 rfl) zc_310 (by decide +kernel) (by decide) zis_8_106 (by decide +kernel) (by decide) ?_
      refine E_iconst (pc := 50) (zDk zD_310_ok 28 rfl) (by decide +kernel) ?_
      obtain ⟨v51, e51, h⟩ := zS_bind h
      refine E_iaload (pc := 51) (zDk zD_310_ok 29 rfl) e51 ?_
      refine E_i2l (pc := 52) (zDk zD_310_ok 30 rfl) ?_
      refine W_lcmp (pc := 53) (zDk zD_310_ok 31 rfl) ?_
      refine E_if (pc := 54) (t := 64) (zDk zD_310_ok 32 rfl) rfl (fun hz => ?_) (fun hz => ?_)
      · have h := zS_f h (Int.not_lt.mpr (zlc_ge (T_ge hz)))
        refine E_iconst (pc := 64) (zDk zD_310_ok 37 rfl) (by decide +kernel) ?_
        refine E_ior (pc := 65) (zDk zD_310_ok 38 rfl) ?_
        obtain ⟨M66, e66, h⟩ := zS_bind h
        refine W_putI (pc := 66) (ci := 8) (f := 17) (zDk zD_310_ok 39 rfl) zc_310 (by decide +kernel) (by decide) zis_8_106 (Option.some.inj e66) ?_
        refine W_iinc (pc := 69) (L' := [some (.inr (.inr 106)), some (.inr (.inl x1)), none, some (.inr (.inl (zremL (w64 ((w64 ((1103515245 : Int) * y3)) + (12345 : Int))) (2147483648 : Int)))), none, some (.inl (w32 (y5 + 1)))]) (zDk zD_310_ok 40 rfl) rfl zm_310 (by decide) rfl ?_
        refine E_goto (pc := 72) (t := 9) (zDk zD_310_ok 41 rfl) rfl ?_
        exact (ih) (zremL (w64 ((w64 ((1103515245 : Int) * y3)) + (12345 : Int))) (2147483648 : Int)) (w32 (y5 + 1)) M66 h
      · have h := zS_t h (zlc_lt (F_ge hz))
        refine E_iconst (pc := 57) (zDk zD_310_ok 33 rfl) (by decide +kernel) ?_
        refine E_iload (pc := 58) (zDk zD_310_ok 34 rfl) rfl ?_
        refine E_ishl (pc := 60) (zDk zD_310_ok 35 rfl) ?_
        refine E_goto (pc := 61) (t := 65) (zDk zD_310_ok 36 rfl) rfl ?_
        refine E_ior (pc := 65) (zDk zD_310_ok 38 rfl) ?_
        obtain ⟨M66, e66, h⟩ := zS_bind h
        refine W_putI (pc := 66) (ci := 8) (f := 17) (zDk zD_310_ok 39 rfl) zc_310 (by decide +kernel) (by decide) zis_8_106 (Option.some.inj e66) ?_
        refine W_iinc (pc := 69) (L' := [some (.inr (.inr 106)), some (.inr (.inl x1)), none, some (.inr (.inl (zremL (w64 ((w64 ((1103515245 : Int) * y3)) + (12345 : Int))) (2147483648 : Int)))), none, some (.inl (w32 (y5 + 1)))]) (zDk zD_310_ok 40 rfl) rfl zm_310 (by decide) rfl ?_
        refine E_goto (pc := 72) (t := 9) (zDk zD_310_ok 41 rfl) rfl ?_
        exact (ih) (zremL (w64 ((w64 ((1103515245 : Int) * y3)) + (12345 : Int))) (2147483648 : Int)) (w32 (y5 + 1)) M66 h
def lm_goDrawn (x1 : Int) (M : Nat → Nat → Int) : Option (Nat → Nat → Int) :=
    ((lm_asItIs M).bind (fun M1 =>
    (lm_goDrawn_c9 x1 zN x1 (0 : Int) M1)))
set_option maxRecDepth 100000 in
theorem ok_lm_goDrawn {sc : zSc} {x1 : Int} {M : Nat → Nat → Int} {P : (Nat → Nat → Int) → Prop} (h : zS (lm_goDrawn x1 M) P) : zCv sc 310 [.inr (.inr 106), .inr (.inl x1)] M P := by
  have ea : zarg (zml 310) [.inr (.inr 106), .inr (.inl x1)] = [some (.inr (.inr 106)), some (.inr (.inl x1)), none, none, none, none] := by rw [zm_310]; rfl
  unfold zCv zCw
  rw [ea, zr_310]
  have hq : 4 ≤ 4 := Nat.le_refl _
  unfold lm_goDrawn at h
  have h := zS_mono h (fun x hx => (⟨rfl, hx⟩ : (none : Option zV) = none ∧ P x))
  skip
  refine E_aload_n (pc := 0) (zDk zD_310_ok 0 rfl) rfl ?_
  obtain ⟨M1, e1, h⟩ := zS_bind h
  refine E_virV (pc := 1) (c := 214) (r := 106) (as := []) (rest := []) (zDk zD_310_ok 1 rfl) zc_310 (by decide +kernel) zk_214 ⟨(Nat.le_of_ble_eq_true rfl), rfl, rfl⟩ (Nat.le_of_ble_eq_true rfl) (zr_214 _) (Nat.lt_of_lt_of_le (by decide) hq) (by rw [zm_214]; exact (Nat.le_of_ble_eq_true rfl)) ⟨zc_214, by decide⟩ zis_8_106 (ok_lm_asItIs ⟨M1, e1, ?_⟩)
  refine E_lload_n (pc := 4) (zDk zD_310_ok 2 rfl) rfl ?_
  refine W_lstore_n (pc := 5) (L' := [some (.inr (.inr 106)), some (.inr (.inl x1)), none, some (.inr (.inl x1)), none, none]) (zDk zD_310_ok 3 rfl) zm_310 (by decide) rfl ?_
  refine E_iconst (pc := 6) (zDk zD_310_ok 4 rfl) (by decide +kernel) ?_
  refine W_istore (pc := 7) (L' := [some (.inr (.inr 106)), some (.inr (.inl x1)), none, some (.inr (.inl x1)), none, some (.inl (0 : Int))]) (zDk zD_310_ok 5 rfl) zm_310 (by decide) rfl ?_
  exact ok_lm_goDrawn_c9 hq x1 zN x1 (0 : Int) M1 h
def zD_52 : List (Nat × Instr × Nat) := [(0, .aload_n (0), 1), (1, .aload_n (1), 1), (2, .invokevirtual (51), 3), (5, .ifCond .eq (10), 3), (8, .aload_n (0), 1), (9, .invokevirtual (33), 3), (12, .goto (8), 3), (15, .aload_n (0), 1), (16, .iconst (1), 1), (17, .invokevirtual (73), 3), (20, .return_, 1)]
set_option maxRecDepth 100000 in
theorem zD_52_ok : zDo 52 zD_52 = true := by decide +kernel
theorem zc_52 : zcls 52 = 4 := by decide +kernel
theorem zm_52 : zml 52 = 2 := by decide +kernel
theorem zt_52 : zrt 52 = none := by decide +kernel
theorem zk_52 : zkd 52 = 1 ∧ znp 52 + 1 = 2 := by decide +kernel
theorem zr_52 (as : List zV) : zrk 52 as = 5 := by unfold zrk; rw [if_neg (by decide)]; decide +kernel
def lR_takeWord (w1 : Nat) (M : Nat → Nat → Int) : Option (Nat → Nat → Int) :=
    (if 5003 ≤ w1 ∧ w1 < 5033 then
    ((lR_isWord w1 M).bind (fun v2 =>
    (if v2 = 0 then
    ((lR_fail (1 : Int) M).bind (fun M17 =>
    (some M17)))
    else
    ((lR_takeToken M).bind (fun M9 =>
    (some M9))))))
    else none)
set_option maxRecDepth 100000 in
theorem ok_lR_takeWord {sc : zSc} {w1 : Nat} {M : Nat → Nat → Int} {P : (Nat → Nat → Int) → Prop} (h : zS (lR_takeWord w1 M) P) : zCv sc 52 [.inr (.inr 1), .inr (.inr w1)] M P := by
  have ea : zarg (zml 52) [.inr (.inr 1), .inr (.inr w1)] = [some (.inr (.inr 1)), some (.inr (.inr w1))] := by rw [zm_52]; rfl
  unfold zCv zCw
  rw [ea, zr_52]
  have hq : 5 ≤ 5 := Nat.le_refl _
  unfold lR_takeWord at h
  have h := zS_mono h (fun x hx => (⟨rfl, hx⟩ : (none : Option zV) = none ∧ P x))
  obtain ⟨hw1, h⟩ := zS_c h
  skip
  refine E_aload_n (pc := 0) (zDk zD_52_ok 0 rfl) rfl ?_
  refine E_aload_n (pc := 1) (zDk zD_52_ok 1 rfl) rfl ?_
  obtain ⟨v2, e2, h⟩ := zS_bind h
  refine E_virI (pc := 2) (c := 55) (r := 1) (as := [.inr (.inr w1)]) (rest := []) (zDk zD_52_ok 2 rfl) zc_52 (by decide +kernel) zk_55 ⟨(Nat.le_of_ble_eq_true rfl), rfl, rfl⟩ (Nat.le_of_ble_eq_true rfl) (zr_55 _) (Nat.lt_of_lt_of_le (by decide) hq) (by rw [zm_55]; exact (Nat.le_of_ble_eq_true rfl)) ⟨zc_55, by decide⟩ zis_4_1 (ok_lR_isWord ⟨v2, e2, ?_⟩)
  refine E_if (pc := 5) (t := 15) (zDk zD_52_ok 3 rfl) rfl (fun hz => ?_) (fun hz => ?_)
  · have h := zS_t h (T_eq hz)
    refine E_aload_n (pc := 15) (zDk zD_52_ok 7 rfl) rfl ?_
    refine E_iconst (pc := 16) (zDk zD_52_ok 8 rfl) (by decide +kernel) ?_
    obtain ⟨M17, e17, h⟩ := zS_bind h
    refine E_virV (pc := 17) (c := 51) (r := 1) (as := [.inl (1 : Int)]) (rest := []) (zDk zD_52_ok 9 rfl) zc_52 (by decide +kernel) zk_51 ⟨(Nat.le_of_ble_eq_true rfl), rfl, rfl⟩ (Nat.le_of_ble_eq_true rfl) (zr_51 _) (Nat.lt_of_lt_of_le (by decide) hq) (by rw [zm_51]; exact (Nat.le_of_ble_eq_true rfl)) ⟨zc_51, by decide⟩ zis_4_1 (ok_lR_fail ⟨M17, e17, ?_⟩)
    have h := zS_some h
    exact E_return (x := ()) (pc := 20) (zDk zD_52_ok 10 rfl) zt_52 h
  · have h := zS_f h (F_eq hz)
    refine E_aload_n (pc := 8) (zDk zD_52_ok 4 rfl) rfl ?_
    obtain ⟨M9, e9, h⟩ := zS_bind h
    refine E_virV (pc := 9) (c := 56) (r := 1) (as := []) (rest := []) (zDk zD_52_ok 5 rfl) zc_52 (by decide +kernel) zk_56 ⟨(Nat.le_of_ble_eq_true rfl), rfl, rfl⟩ (Nat.le_of_ble_eq_true rfl) (zr_56 _) (Nat.lt_of_lt_of_le (by decide) hq) (by rw [zm_56]; exact (Nat.le_of_ble_eq_true rfl)) ⟨zc_56, by decide⟩ zis_4_1 (ok_lR_takeToken ⟨M9, e9, ?_⟩)
    refine E_goto (pc := 12) (t := 20) (zDk zD_52_ok 6 rfl) rfl ?_
    have h := zS_some h
    exact E_return (x := ()) (pc := 20) (zDk zD_52_ok 10 rfl) zt_52 h
def zD_115 : List (Nat × Instr × Nat) := [(0, .aload_n (0), 1), (1, .getfield (19), 3), (4, .invokevirtual (194), 3), (7, .ifCond .eq (12), 3), (10, .iload_n (1), 1), (11, .ifCond .lt (8), 3), (14, .iload_n (1), 1), (15, .iconst (3), 1), (16, .if_icmp .le (6), 3), (19, .bipush (-2), 2), (21, .ireturn, 1), (22, .aload_n (0), 1), (23, .iload_n (1), 1), (24, .invokevirtual (238), 3), (27, .ireturn, 1)]
set_option maxRecDepth 100000 in
theorem zD_115_ok : zDo 115 zD_115 = true := by decide +kernel
theorem zc_115 : zcls 115 = 7 := by decide +kernel
theorem zm_115 : zml 115 = 2 := by decide +kernel
theorem zt_115 : zrt 115 = (some (.int)) := by decide +kernel
theorem zk_115 : zkd 115 = 1 ∧ znp 115 + 1 = 2 := by decide +kernel
theorem zr_115 (as : List zV) : zrk 115 as = 5 := by unfold zrk; rw [if_neg (by decide)]; decide +kernel
def lX_by (x1 : Int) (M : Nat → Nat → Int) : Option (Int × (Nat → Nat → Int)) :=
    ((lT_isThere 3 M).bind (fun v4 =>
    (if v4 = 0 then
    (some ((-2 : Int), M))
    else
    (if x1 < 0 then
    (some ((-2 : Int), M))
    else
    (if (3 : Int) < x1 then
    (some ((-2 : Int), M))
    else
    ((lX_signedByLaw x1 M).bind (fun r24_ =>
    (some (r24_.1, r24_.2)))))))))
set_option maxRecDepth 100000 in
theorem ok_lX_by {sc : zSc} {x1 : Int} {M : Nat → Nat → Int} {P : Int → (Nat → Nat → Int) → Prop} (h : zS (lX_by x1 M) (fun r => P r.1 r.2)) : zCi sc 115 [.inr (.inr 0), .inl x1] M P := by
  have ea : zarg (zml 115) [.inr (.inr 0), .inl x1] = [some (.inr (.inr 0)), some (.inl x1)] := by rw [zm_115]; rfl
  unfold zCi zCw
  rw [ea, zr_115]
  have hq : 5 ≤ 5 := Nat.le_refl _
  unfold lX_by at h
  have h := zS_mono h (fun x hx => (⟨x.1, rfl, hx⟩ : ∃ y, (some (.inl x.1) : Option zV) = some (.inl y) ∧ P y x.2))
  skip
  refine E_aload_n (pc := 0) (zDk zD_115_ok 0 rfl) rfl ?_
  refine E_getR (pc := 1) (ci := 7) (f := 1) (r := 3) (zDk zD_115_ok 1 rfl) zc_115 (by decide +kernel) (by decide) zis_7_0 (by decide +kernel) (by decide) ?_
  obtain ⟨v4, e4, h⟩ := zS_bind h
  refine E_virI (pc := 4) (c := 69) (r := 3) (as := []) (rest := []) (zDk zD_115_ok 2 rfl) zc_115 (by decide +kernel) zk_69 ⟨(Nat.le_of_ble_eq_true rfl), rfl, rfl⟩ (Nat.le_of_ble_eq_true rfl) (zr_69 _) (Nat.lt_of_lt_of_le (by decide) hq) (by rw [zm_69]; exact (Nat.le_of_ble_eq_true rfl)) ⟨zc_69, by decide⟩ zis_6_3 (ok_lT_isThere ⟨v4, e4, ?_⟩)
  refine E_if (pc := 7) (t := 19) (zDk zD_115_ok 3 rfl) rfl (fun hz => ?_) (fun hz => ?_)
  · have h := zS_t h (T_eq hz)
    refine E_bipush (pc := 19) (zDk zD_115_ok 9 rfl) (by decide +kernel) ?_
    have h := zS_some h
    exact E_ireturn (pc := 21) (zDk zD_115_ok 10 rfl) zt_115 h
  · have h := zS_f h (F_eq hz)
    refine E_iload_n (pc := 10) (zDk zD_115_ok 4 rfl) rfl ?_
    refine E_if (pc := 11) (t := 19) (zDk zD_115_ok 5 rfl) rfl (fun hz => ?_) (fun hz => ?_)
    · have h := zS_t h (T_lt hz)
      refine E_bipush (pc := 19) (zDk zD_115_ok 9 rfl) (by decide +kernel) ?_
      have h := zS_some h
      exact E_ireturn (pc := 21) (zDk zD_115_ok 10 rfl) zt_115 h
    · have h := zS_f h (Int.not_lt.mpr (F_lt hz))
      refine E_iload_n (pc := 14) (zDk zD_115_ok 6 rfl) rfl ?_
      refine E_iconst (pc := 15) (zDk zD_115_ok 7 rfl) (by decide +kernel) ?_
      refine E_icmp (pc := 16) (t := 22) (zDk zD_115_ok 8 rfl) rfl (fun hz => ?_) (fun hz => ?_)
      · have h := zS_f h (Int.not_lt.mpr (T_le hz))
        refine E_aload_n (pc := 22) (zDk zD_115_ok 11 rfl) rfl ?_
        refine E_iload_n (pc := 23) (zDk zD_115_ok 12 rfl) rfl ?_
        obtain ⟨r24_, e24, h⟩ := zS_bind h
        refine E_virI (pc := 24) (c := 153) (r := 0) (as := [.inl x1]) (rest := []) (zDk zD_115_ok 13 rfl) zc_115 (by decide +kernel) zk_153 ⟨(Nat.le_of_ble_eq_true rfl), rfl, rfl⟩ (Nat.le_of_ble_eq_true rfl) (zr_153 _) (Nat.lt_of_lt_of_le (by decide) hq) (by rw [zm_153]; exact (Nat.le_of_ble_eq_true rfl)) ⟨zc_153, by decide⟩ zis_7_0 (ok_lX_signedByLaw ⟨r24_, e24, ?_⟩)
        have h := zS_some h
        exact E_ireturn (pc := 27) (zDk zD_115_ok 14 rfl) zt_115 h
      · have h := zS_t h (F_le hz)
        refine E_bipush (pc := 19) (zDk zD_115_ok 9 rfl) (by decide +kernel) ?_
        have h := zS_some h
        exact E_ireturn (pc := 21) (zDk zD_115_ok 10 rfl) zt_115 h
def zD_116 : List (Nat × Instr × Nat) := [(0, .aload_n (0), 1), (1, .getfield (19), 3), (4, .invokevirtual (194), 3), (7, .ifCond .ne (6), 3), (10, .bipush (-2), 2), (12, .ireturn, 1), (13, .iconst (0), 1), (14, .istore_n (1), 1), (15, .iconst (-1), 1), (16, .istore_n (2), 1), (17, .iconst (0), 1), (18, .istore_n (3), 1), (19, .iload_n (3), 1), (20, .iconst (3), 1), (21, .if_icmp .gt (27), 3), (24, .aload_n (0), 1), (25, .iload_n (3), 1), (26, .invokevirtual (238), 3), (29, .istore (4), 2), (31, .iload (4), 2), (33, .iload_n (2), 1), (34, .if_icmp .le (8), 3), (37, .iload_n (3), 1), (38, .istore_n (1), 1), (39, .iload (4), 2), (41, .istore_n (2), 1), (42, .iinc (3) (1), 3), (45, .goto (-26), 3), (48, .iload_n (1), 1), (49, .ireturn, 1)]
set_option maxRecDepth 100000 in
theorem zD_116_ok : zDo 116 zD_116 = true := by decide +kernel
theorem zc_116 : zcls 116 = 7 := by decide +kernel
theorem zm_116 : zml 116 = 5 := by decide +kernel
theorem zt_116 : zrt 116 = (some (.int)) := by decide +kernel
theorem zk_116 : zkd 116 = 1 ∧ znp 116 + 1 = 1 := by decide +kernel
theorem zr_116 (as : List zV) : zrk 116 as = 5 := by unfold zrk; rw [if_neg (by decide)]; decide +kernel
def lX_law_c19 : Nat → Int → Int → Int → (Nat → Nat → Int) → Option (Int × (Nat → Nat → Int))
  | 0, _, _, _, _ => none
  | n + 1, y1, y2, y3, M =>
    (if (3 : Int) < y3 then
    (some (y1, M))
    else
    ((lX_signedByLaw y3 M).bind (fun r26_ =>
    (if y2 < r26_.1 then
    ((lX_law_c19 n) y3 r26_.1 (w32 (y3 + 1)) r26_.2)
    else
    ((lX_law_c19 n) y1 y2 (w32 (y3 + 1)) r26_.2)))))
set_option maxRecDepth 100000 in
theorem ok_lX_law_c19 {sc : zSc} {q : Nat} {P : Option zV → (Nat → Nat → Int) → Prop} (hq : 5 ≤ q) : ∀ (n : Nat) (y1 : Int) (y2 : Int) (y3 : Int) (M : Nat → Nat → Int) (d4 : Option zV), zS (lX_law_c19 n y1 y2 y3 M) (fun r => P (some (.inl r.1)) r.2) → zWp sc q 116 19 [some (.inr (.inr 0)), some (.inl y1), some (.inl y2), some (.inl y3), d4] [] M P := by
  intro n
  induction n with
  | zero => intro y1 y2 y3 M d4 h; exact (zS_none h).elim
  | succ n ih =>
    intro y1 y2 y3 M d4 h
    rw [lX_law_c19] at h
    refine E_iload_n (pc := 19) (zDk zD_116_ok 12 rfl) rfl ?_
    refine E_iconst (pc := 20) (zDk zD_116_ok 13 rfl) (by decide +kernel) ?_
    refine E_icmp (pc := 21) (t := 48) (zDk zD_116_ok 14 rfl) rfl (fun hz => ?_) (fun hz => ?_)
    · have h := zS_t h (T_gt hz)
      refine E_iload_n (pc := 48) (zDk zD_116_ok 28 rfl) rfl ?_
      have h := zS_some h
      exact E_ireturn (pc := 49) (zDk zD_116_ok 29 rfl) zt_116 h
    · have h := zS_f h (Int.not_lt.mpr (F_gt hz))
      refine E_aload_n (pc := 24) (zDk zD_116_ok 15 rfl) rfl ?_
      refine E_iload_n (pc := 25) (zDk zD_116_ok 16 rfl) rfl ?_
      obtain ⟨r26_, e26, h⟩ := zS_bind h
      refine E_virI (pc := 26) (c := 153) (r := 0) (as := [.inl y3]) (rest := []) (zDk zD_116_ok 17 rfl) zc_116 (by decide +kernel) zk_153 ⟨(Nat.le_of_ble_eq_true rfl), rfl, rfl⟩ (Nat.le_of_ble_eq_true rfl) (zr_153 _) (Nat.lt_of_lt_of_le (by decide) hq) (by rw [zm_153]; exact (Nat.le_of_ble_eq_true rfl)) ⟨zc_153, by decide⟩ zis_7_0 (ok_lX_signedByLaw ⟨r26_, e26, ?_⟩)
      refine W_istore (pc := 29) (L' := [some (.inr (.inr 0)), some (.inl y1), some (.inl y2), some (.inl y3), some (.inl r26_.1)]) (zDk zD_116_ok 18 rfl) zm_116 (by decide) rfl ?_
      refine E_iload (pc := 31) (zDk zD_116_ok 19 rfl) rfl ?_
      refine E_iload_n (pc := 33) (zDk zD_116_ok 20 rfl) rfl ?_
      refine E_icmp (pc := 34) (t := 42) (zDk zD_116_ok 21 rfl) rfl (fun hz => ?_) (fun hz => ?_)
      · have h := zS_f h (Int.not_lt.mpr (T_le hz))
        refine W_iinc (pc := 42) (L' := [some (.inr (.inr 0)), some (.inl y1), some (.inl y2), some (.inl (w32 (y3 + 1))), some (.inl r26_.1)]) (zDk zD_116_ok 26 rfl) rfl zm_116 (by decide) rfl ?_
        refine E_goto (pc := 45) (t := 19) (zDk zD_116_ok 27 rfl) rfl ?_
        exact (ih) y1 y2 (w32 (y3 + 1)) r26_.2 (some (.inl r26_.1)) h
      · have h := zS_t h (F_le hz)
        refine E_iload_n (pc := 37) (zDk zD_116_ok 22 rfl) rfl ?_
        refine W_istore_n (pc := 38) (L' := [some (.inr (.inr 0)), some (.inl y3), some (.inl y2), some (.inl y3), some (.inl r26_.1)]) (zDk zD_116_ok 23 rfl) zm_116 (by decide) rfl ?_
        refine E_iload (pc := 39) (zDk zD_116_ok 24 rfl) rfl ?_
        refine W_istore_n (pc := 41) (L' := [some (.inr (.inr 0)), some (.inl y3), some (.inl r26_.1), some (.inl y3), some (.inl r26_.1)]) (zDk zD_116_ok 25 rfl) zm_116 (by decide) rfl ?_
        refine W_iinc (pc := 42) (L' := [some (.inr (.inr 0)), some (.inl y3), some (.inl r26_.1), some (.inl (w32 (y3 + 1))), some (.inl r26_.1)]) (zDk zD_116_ok 26 rfl) rfl zm_116 (by decide) rfl ?_
        refine E_goto (pc := 45) (t := 19) (zDk zD_116_ok 27 rfl) rfl ?_
        exact (ih) y3 r26_.1 (w32 (y3 + 1)) r26_.2 (some (.inl r26_.1)) h
def lX_law (M : Nat → Nat → Int) : Option (Int × (Nat → Nat → Int)) :=
    ((lT_isThere 3 M).bind (fun v4 =>
    (if v4 = 0 then
    (some ((-2 : Int), M))
    else
    (lX_law_c19 zN (0 : Int) (-1 : Int) (0 : Int) M))))
set_option maxRecDepth 100000 in
theorem ok_lX_law {sc : zSc} {M : Nat → Nat → Int} {P : Int → (Nat → Nat → Int) → Prop} (h : zS (lX_law M) (fun r => P r.1 r.2)) : zCi sc 116 [.inr (.inr 0)] M P := by
  have ea : zarg (zml 116) [.inr (.inr 0)] = [some (.inr (.inr 0)), none, none, none, none] := by rw [zm_116]; rfl
  unfold zCi zCw
  rw [ea, zr_116]
  have hq : 5 ≤ 5 := Nat.le_refl _
  unfold lX_law at h
  have h := zS_mono h (fun x hx => (⟨x.1, rfl, hx⟩ : ∃ y, (some (.inl x.1) : Option zV) = some (.inl y) ∧ P y x.2))
  skip
  refine E_aload_n (pc := 0) (zDk zD_116_ok 0 rfl) rfl ?_
  refine E_getR (pc := 1) (ci := 7) (f := 1) (r := 3) (zDk zD_116_ok 1 rfl) zc_116 (by decide +kernel) (by decide) zis_7_0 (by decide +kernel) (by decide) ?_
  obtain ⟨v4, e4, h⟩ := zS_bind h
  refine E_virI (pc := 4) (c := 69) (r := 3) (as := []) (rest := []) (zDk zD_116_ok 2 rfl) zc_116 (by decide +kernel) zk_69 ⟨(Nat.le_of_ble_eq_true rfl), rfl, rfl⟩ (Nat.le_of_ble_eq_true rfl) (zr_69 _) (Nat.lt_of_lt_of_le (by decide) hq) (by rw [zm_69]; exact (Nat.le_of_ble_eq_true rfl)) ⟨zc_69, by decide⟩ zis_6_3 (ok_lT_isThere ⟨v4, e4, ?_⟩)
  refine E_if (pc := 7) (t := 13) (zDk zD_116_ok 3 rfl) rfl (fun hz => ?_) (fun hz => ?_)
  · have h := zS_f h (T_ne hz)
    refine E_iconst (pc := 13) (zDk zD_116_ok 6 rfl) (by decide +kernel) ?_
    refine W_istore_n (pc := 14) (L' := [some (.inr (.inr 0)), some (.inl (0 : Int)), none, none, none]) (zDk zD_116_ok 7 rfl) zm_116 (by decide) rfl ?_
    refine E_iconst (pc := 15) (zDk zD_116_ok 8 rfl) (by decide +kernel) ?_
    refine W_istore_n (pc := 16) (L' := [some (.inr (.inr 0)), some (.inl (0 : Int)), some (.inl (-1 : Int)), none, none]) (zDk zD_116_ok 9 rfl) zm_116 (by decide) rfl ?_
    refine E_iconst (pc := 17) (zDk zD_116_ok 10 rfl) (by decide +kernel) ?_
    refine W_istore_n (pc := 18) (L' := [some (.inr (.inr 0)), some (.inl (0 : Int)), some (.inl (-1 : Int)), some (.inl (0 : Int)), none]) (zDk zD_116_ok 11 rfl) zm_116 (by decide) rfl ?_
    exact ok_lX_law_c19 hq zN (0 : Int) (-1 : Int) (0 : Int) M none h
  · have h := zS_t h (F_ne hz)
    refine E_bipush (pc := 10) (zDk zD_116_ok 4 rfl) (by decide +kernel) ?_
    have h := zS_some h
    exact E_ireturn (pc := 12) (zDk zD_116_ok 5 rfl) zt_116 h
def zD_117 : List (Nat × Instr × Nat) := [(0, .aload_n (0), 1), (1, .getfield (19), 3), (4, .iload_n (1), 1), (5, .invokevirtual (112), 3), (8, .ifCond .ne (6), 3), (11, .bipush (-2), 2), (13, .ireturn, 1), (14, .aload_n (0), 1), (15, .iload_n (1), 1), (16, .bipush (40), 2), (18, .invokevirtual (241), 3), (21, .istore_n (2), 1), (22, .iconst (0), 1), (23, .istore_n (3), 1), (24, .iload_n (3), 1), (25, .bipush (40), 2), (27, .if_icmp .ge (21), 3), (30, .aload_n (0), 1), (31, .iload_n (1), 1), (32, .iload_n (3), 1), (33, .invokevirtual (241), 3), (36, .iload_n (2), 1), (37, .if_icmp .ne (5), 3), (40, .iload_n (3), 1), (41, .ireturn, 1), (42, .iinc (3) (1), 3), (45, .goto (-21), 3), (48, .bipush (40), 2), (50, .ireturn, 1)]
set_option maxRecDepth 100000 in
theorem zD_117_ok : zDo 117 zD_117 = true := by decide +kernel
theorem zc_117 : zcls 117 = 7 := by decide +kernel
theorem zm_117 : zml 117 = 4 := by decide +kernel
theorem zt_117 : zrt 117 = (some (.int)) := by decide +kernel
theorem zk_117 : zkd 117 = 1 ∧ znp 117 + 1 = 2 := by decide +kernel
theorem zr_117 (as : List zV) : zrk 117 as = 5 := by unfold zrk; rw [if_neg (by decide)]; decide +kernel
def lX_needs_c24 (x1 : Int) : Nat → Int → Int → (Nat → Nat → Int) → Option (Int × (Nat → Nat → Int))
  | 0, _, _, _ => none
  | n + 1, y2, y3, M =>
    (if y3 < (40 : Int) then
    ((lX_signedWithInk x1 y3 M).bind (fun r33_ =>
    (if r33_.1 = y2 then
    (some (y3, r33_.2))
    else
    ((lX_needs_c24 x1 n) y2 (w32 (y3 + 1)) r33_.2))))
    else
    (some ((40 : Int), M)))
set_option maxRecDepth 100000 in
theorem ok_lX_needs_c24 {sc : zSc} {q : Nat} {P : Option zV → (Nat → Nat → Int) → Prop} (hq : 5 ≤ q) (x1 : Int) : ∀ (n : Nat) (y2 : Int) (y3 : Int) (M : Nat → Nat → Int), zS (lX_needs_c24 x1 n y2 y3 M) (fun r => P (some (.inl r.1)) r.2) → zWp sc q 117 24 [some (.inr (.inr 0)), some (.inl x1), some (.inl y2), some (.inl y3)] [] M P := by
  intro n
  induction n with
  | zero => intro y2 y3 M h; exact (zS_none h).elim
  | succ n ih =>
    intro y2 y3 M h
    rw [lX_needs_c24] at h
    refine E_iload_n (pc := 24) (zDk zD_117_ok 14 rfl) rfl ?_
    refine E_bipush (pc := 25) (zDk zD_117_ok 15 rfl) (by decide +kernel) ?_
    refine E_icmp (pc := 27) (t := 48) (zDk zD_117_ok 16 rfl) rfl (fun hz => ?_) (fun hz => ?_)
    · have h := zS_f h (Int.not_lt.mpr (T_ge hz))
      refine E_bipush (pc := 48) (zDk zD_117_ok 27 rfl) (by decide +kernel) ?_
      have h := zS_some h
      exact E_ireturn (pc := 50) (zDk zD_117_ok 28 rfl) zt_117 h
    · have h := zS_t h (F_ge hz)
      refine E_aload_n (pc := 30) (zDk zD_117_ok 17 rfl) rfl ?_
      refine E_iload_n (pc := 31) (zDk zD_117_ok 18 rfl) rfl ?_
      refine E_iload_n (pc := 32) (zDk zD_117_ok 19 rfl) rfl ?_
      obtain ⟨r33_, e33, h⟩ := zS_bind h
      refine E_virI (pc := 33) (c := 154) (r := 0) (as := [.inl x1, .inl y3]) (rest := []) (zDk zD_117_ok 20 rfl) zc_117 (by decide +kernel) zk_154 ⟨(Nat.le_of_ble_eq_true rfl), rfl, rfl⟩ (Nat.le_of_ble_eq_true rfl) (zr_154 _) (Nat.lt_of_lt_of_le (by decide) hq) (by rw [zm_154]; exact (Nat.le_of_ble_eq_true rfl)) ⟨zc_154, by decide⟩ zis_7_0 (ok_lX_signedWithInk ⟨r33_, e33, ?_⟩)
      refine E_iload_n (pc := 36) (zDk zD_117_ok 21 rfl) rfl ?_
      refine E_icmp (pc := 37) (t := 42) (zDk zD_117_ok 22 rfl) rfl (fun hz => ?_) (fun hz => ?_)
      · have h := zS_f h (T_ne hz)
        refine W_iinc (pc := 42) (L' := [some (.inr (.inr 0)), some (.inl x1), some (.inl y2), some (.inl (w32 (y3 + 1)))]) (zDk zD_117_ok 25 rfl) rfl zm_117 (by decide) rfl ?_
        refine E_goto (pc := 45) (t := 24) (zDk zD_117_ok 26 rfl) rfl ?_
        exact (ih) y2 (w32 (y3 + 1)) r33_.2 h
      · have h := zS_t h (F_ne hz)
        refine E_iload_n (pc := 40) (zDk zD_117_ok 23 rfl) rfl ?_
        have h := zS_some h
        exact E_ireturn (pc := 41) (zDk zD_117_ok 24 rfl) zt_117 h
def lX_needs (x1 : Int) (M : Nat → Nat → Int) : Option (Int × (Nat → Nat → Int)) :=
    ((lT_hasName 3 x1 M).bind (fun v5 =>
    (if v5 = 0 then
    (some ((-2 : Int), M))
    else
    ((lX_signedWithInk x1 (40 : Int) M).bind (fun r18_ =>
    (lX_needs_c24 x1 zN r18_.1 (0 : Int) r18_.2))))))
set_option maxRecDepth 100000 in
theorem ok_lX_needs {sc : zSc} {x1 : Int} {M : Nat → Nat → Int} {P : Int → (Nat → Nat → Int) → Prop} (h : zS (lX_needs x1 M) (fun r => P r.1 r.2)) : zCi sc 117 [.inr (.inr 0), .inl x1] M P := by
  have ea : zarg (zml 117) [.inr (.inr 0), .inl x1] = [some (.inr (.inr 0)), some (.inl x1), none, none] := by rw [zm_117]; rfl
  unfold zCi zCw
  rw [ea, zr_117]
  have hq : 5 ≤ 5 := Nat.le_refl _
  unfold lX_needs at h
  have h := zS_mono h (fun x hx => (⟨x.1, rfl, hx⟩ : ∃ y, (some (.inl x.1) : Option zV) = some (.inl y) ∧ P y x.2))
  skip
  refine E_aload_n (pc := 0) (zDk zD_117_ok 0 rfl) rfl ?_
  refine E_getR (pc := 1) (ci := 7) (f := 1) (r := 3) (zDk zD_117_ok 1 rfl) zc_117 (by decide +kernel) (by decide) zis_7_0 (by decide +kernel) (by decide) ?_
  refine E_iload_n (pc := 4) (zDk zD_117_ok 2 rfl) rfl ?_
  obtain ⟨v5, e5, h⟩ := zS_bind h
  refine E_virI (pc := 5) (c := 73) (r := 3) (as := [.inl x1]) (rest := []) (zDk zD_117_ok 3 rfl) zc_117 (by decide +kernel) zk_73 ⟨(Nat.le_of_ble_eq_true rfl), rfl, rfl⟩ (Nat.le_of_ble_eq_true rfl) (zr_73 _) (Nat.lt_of_lt_of_le (by decide) hq) (by rw [zm_73]; exact (Nat.le_of_ble_eq_true rfl)) ⟨zc_73, by decide⟩ zis_6_3 (ok_lT_hasName ⟨v5, e5, ?_⟩)
  refine E_if (pc := 8) (t := 14) (zDk zD_117_ok 4 rfl) rfl (fun hz => ?_) (fun hz => ?_)
  · have h := zS_f h (T_ne hz)
    refine E_aload_n (pc := 14) (zDk zD_117_ok 7 rfl) rfl ?_
    refine E_iload_n (pc := 15) (zDk zD_117_ok 8 rfl) rfl ?_
    refine E_bipush (pc := 16) (zDk zD_117_ok 9 rfl) (by decide +kernel) ?_
    obtain ⟨r18_, e18, h⟩ := zS_bind h
    refine E_virI (pc := 18) (c := 154) (r := 0) (as := [.inl x1, .inl (40 : Int)]) (rest := []) (zDk zD_117_ok 10 rfl) zc_117 (by decide +kernel) zk_154 ⟨(Nat.le_of_ble_eq_true rfl), rfl, rfl⟩ (Nat.le_of_ble_eq_true rfl) (zr_154 _) (Nat.lt_of_lt_of_le (by decide) hq) (by rw [zm_154]; exact (Nat.le_of_ble_eq_true rfl)) ⟨zc_154, by decide⟩ zis_7_0 (ok_lX_signedWithInk ⟨r18_, e18, ?_⟩)
    refine W_istore_n (pc := 21) (L' := [some (.inr (.inr 0)), some (.inl x1), some (.inl r18_.1), none]) (zDk zD_117_ok 11 rfl) zm_117 (by decide) rfl ?_
    refine E_iconst (pc := 22) (zDk zD_117_ok 12 rfl) (by decide +kernel) ?_
    refine W_istore_n (pc := 23) (L' := [some (.inr (.inr 0)), some (.inl x1), some (.inl r18_.1), some (.inl (0 : Int))]) (zDk zD_117_ok 13 rfl) zm_117 (by decide) rfl ?_
    exact ok_lX_needs_c24 hq x1 zN r18_.1 (0 : Int) r18_.2 h
  · have h := zS_t h (F_ne hz)
    refine E_bipush (pc := 11) (zDk zD_117_ok 5 rfl) (by decide +kernel) ?_
    have h := zS_some h
    exact E_ireturn (pc := 13) (zDk zD_117_ok 6 rfl) zt_117 h
def zD_118 : List (Nat × Instr × Nat) := [(0, .aload_n (0), 1), (1, .getfield (19), 3), (4, .iload_n (1), 1), (5, .invokevirtual (112), 3), (8, .ifCond .ne (6), 3), (11, .bipush (-2), 2), (13, .ireturn, 1), (14, .iconst (0), 1), (15, .istore_n (2), 1), (16, .iconst (-1), 1), (17, .istore_n (3), 1), (18, .iconst (0), 1), (19, .istore (4), 2), (21, .iload (4), 2), (23, .aload_n (0), 1), (24, .getfield (19), 3), (27, .getfield (244), 3), (30, .if_icmp .ge (30), 3), (33, .aload_n (0), 1), (34, .iload_n (1), 1), (35, .iload (4), 2), (37, .invokevirtual (247), 3), (40, .istore (5), 2), (42, .iload (5), 2), (44, .iload_n (3), 1), (45, .if_icmp .le (9), 3), (48, .iload (4), 2), (50, .istore_n (2), 1), (51, .iload (5), 2), (53, .istore_n (3), 1), (54, .iinc (4) (1), 3), (57, .goto (-36), 3), (60, .iload_n (2), 1), (61, .ireturn, 1)]
set_option maxRecDepth 100000 in
theorem zD_118_ok : zDo 118 zD_118 = true := by decide +kernel
theorem zc_118 : zcls 118 = 7 := by decide +kernel
theorem zm_118 : zml 118 = 6 := by decide +kernel
theorem zt_118 : zrt 118 = (some (.int)) := by decide +kernel
theorem zk_118 : zkd 118 = 1 ∧ znp 118 + 1 = 2 := by decide +kernel
theorem zr_118 (as : List zV) : zrk 118 as = 5 := by unfold zrk; rw [if_neg (by decide)]; decide +kernel
def lX_lives_c21 (x1 : Int) : Nat → Int → Int → Int → (Nat → Nat → Int) → Option (Int × (Nat → Nat → Int))
  | 0, _, _, _, _ => none
  | n + 1, y2, y3, y4, M =>
    (if y4 < (M 3 0) then
    ((lX_signedLivingAt x1 y4 M).bind (fun r37_ =>
    (if y3 < r37_.1 then
    ((lX_lives_c21 x1 n) y4 r37_.1 (w32 (y4 + 1)) r37_.2)
    else
    ((lX_lives_c21 x1 n) y2 y3 (w32 (y4 + 1)) r37_.2))))
    else
    (some (y2, M)))
set_option maxRecDepth 100000 in
theorem ok_lX_lives_c21 {sc : zSc} {q : Nat} {P : Option zV → (Nat → Nat → Int) → Prop} (hq : 5 ≤ q) (x1 : Int) : ∀ (n : Nat) (y2 : Int) (y3 : Int) (y4 : Int) (M : Nat → Nat → Int) (d5 : Option zV), zS (lX_lives_c21 x1 n y2 y3 y4 M) (fun r => P (some (.inl r.1)) r.2) → zWp sc q 118 21 [some (.inr (.inr 0)), some (.inl x1), some (.inl y2), some (.inl y3), some (.inl y4), d5] [] M P := by
  intro n
  induction n with
  | zero => intro y2 y3 y4 M d5 h; exact (zS_none h).elim
  | succ n ih =>
    intro y2 y3 y4 M d5 h
    rw [lX_lives_c21] at h
    refine E_iload (pc := 21) (zDk zD_118_ok 13 rfl) rfl ?_
    refine E_aload_n (pc := 23) (zDk zD_118_ok 14 rfl) rfl ?_
    refine E_getR (pc := 24) (ci := 7) (f := 1) (r := 3) (zDk zD_118_ok 15 rfl) zc_118 (by decide +kernel) (by decide) zis_7_0 (by decide +kernel) (by decide) ?_
    refine E_getI (pc := 27) (ci := 6) (f := 0) (zDk zD_118_ok 16 rfl) zc_118 (by decide +kernel) (by decide) zis_6_3 ?_
    refine E_icmp (pc := 30) (t := 60) (zDk zD_118_ok 17 rfl) rfl (fun hz => ?_) (fun hz => ?_)
    · have h := zS_f h (Int.not_lt.mpr (T_ge hz))
      refine E_iload_n (pc := 60) (zDk zD_118_ok 32 rfl) rfl ?_
      have h := zS_some h
      exact E_ireturn (pc := 61) (zDk zD_118_ok 33 rfl) zt_118 h
    · have h := zS_t h (F_ge hz)
      refine E_aload_n (pc := 33) (zDk zD_118_ok 18 rfl) rfl ?_
      refine E_iload_n (pc := 34) (zDk zD_118_ok 19 rfl) rfl ?_
      refine E_iload (pc := 35) (zDk zD_118_ok 20 rfl) rfl ?_
      obtain ⟨r37_, e37, h⟩ := zS_bind h
      refine E_virI (pc := 37) (c := 155) (r := 0) (as := [.inl x1, .inl y4]) (rest := []) (zDk zD_118_ok 21 rfl) zc_118 (by decide +kernel) zk_155 ⟨(Nat.le_of_ble_eq_true rfl), rfl, rfl⟩ (Nat.le_of_ble_eq_true rfl) (zr_155 _) (Nat.lt_of_lt_of_le (by decide) hq) (by rw [zm_155]; exact (Nat.le_of_ble_eq_true rfl)) ⟨zc_155, by decide⟩ zis_7_0 (ok_lX_signedLivingAt ⟨r37_, e37, ?_⟩)
      refine W_istore (pc := 40) (L' := [some (.inr (.inr 0)), some (.inl x1), some (.inl y2), some (.inl y3), some (.inl y4), some (.inl r37_.1)]) (zDk zD_118_ok 22 rfl) zm_118 (by decide) rfl ?_
      refine E_iload (pc := 42) (zDk zD_118_ok 23 rfl) rfl ?_
      refine E_iload_n (pc := 44) (zDk zD_118_ok 24 rfl) rfl ?_
      refine E_icmp (pc := 45) (t := 54) (zDk zD_118_ok 25 rfl) rfl (fun hz => ?_) (fun hz => ?_)
      · have h := zS_f h (Int.not_lt.mpr (T_le hz))
        refine W_iinc (pc := 54) (L' := [some (.inr (.inr 0)), some (.inl x1), some (.inl y2), some (.inl y3), some (.inl (w32 (y4 + 1))), some (.inl r37_.1)]) (zDk zD_118_ok 30 rfl) rfl zm_118 (by decide) rfl ?_
        refine E_goto (pc := 57) (t := 21) (zDk zD_118_ok 31 rfl) rfl ?_
        exact (ih) y2 y3 (w32 (y4 + 1)) r37_.2 (some (.inl r37_.1)) h
      · have h := zS_t h (F_le hz)
        refine E_iload (pc := 48) (zDk zD_118_ok 26 rfl) rfl ?_
        refine W_istore_n (pc := 50) (L' := [some (.inr (.inr 0)), some (.inl x1), some (.inl y4), some (.inl y3), some (.inl y4), some (.inl r37_.1)]) (zDk zD_118_ok 27 rfl) zm_118 (by decide) rfl ?_
        refine E_iload (pc := 51) (zDk zD_118_ok 28 rfl) rfl ?_
        refine W_istore_n (pc := 53) (L' := [some (.inr (.inr 0)), some (.inl x1), some (.inl y4), some (.inl r37_.1), some (.inl y4), some (.inl r37_.1)]) (zDk zD_118_ok 29 rfl) zm_118 (by decide) rfl ?_
        refine W_iinc (pc := 54) (L' := [some (.inr (.inr 0)), some (.inl x1), some (.inl y4), some (.inl r37_.1), some (.inl (w32 (y4 + 1))), some (.inl r37_.1)]) (zDk zD_118_ok 30 rfl) rfl zm_118 (by decide) rfl ?_
        refine E_goto (pc := 57) (t := 21) (zDk zD_118_ok 31 rfl) rfl ?_
        exact (ih) y4 r37_.1 (w32 (y4 + 1)) r37_.2 (some (.inl r37_.1)) h
def lX_lives (x1 : Int) (M : Nat → Nat → Int) : Option (Int × (Nat → Nat → Int)) :=
    ((lT_hasName 3 x1 M).bind (fun v5 =>
    (if v5 = 0 then
    (some ((-2 : Int), M))
    else
    (lX_lives_c21 x1 zN (0 : Int) (-1 : Int) (0 : Int) M))))
set_option maxRecDepth 100000 in
theorem ok_lX_lives {sc : zSc} {x1 : Int} {M : Nat → Nat → Int} {P : Int → (Nat → Nat → Int) → Prop} (h : zS (lX_lives x1 M) (fun r => P r.1 r.2)) : zCi sc 118 [.inr (.inr 0), .inl x1] M P := by
  have ea : zarg (zml 118) [.inr (.inr 0), .inl x1] = [some (.inr (.inr 0)), some (.inl x1), none, none, none, none] := by rw [zm_118]; rfl
  unfold zCi zCw
  rw [ea, zr_118]
  have hq : 5 ≤ 5 := Nat.le_refl _
  unfold lX_lives at h
  have h := zS_mono h (fun x hx => (⟨x.1, rfl, hx⟩ : ∃ y, (some (.inl x.1) : Option zV) = some (.inl y) ∧ P y x.2))
  skip
  refine E_aload_n (pc := 0) (zDk zD_118_ok 0 rfl) rfl ?_
  refine E_getR (pc := 1) (ci := 7) (f := 1) (r := 3) (zDk zD_118_ok 1 rfl) zc_118 (by decide +kernel) (by decide) zis_7_0 (by decide +kernel) (by decide) ?_
  refine E_iload_n (pc := 4) (zDk zD_118_ok 2 rfl) rfl ?_
  obtain ⟨v5, e5, h⟩ := zS_bind h
  refine E_virI (pc := 5) (c := 73) (r := 3) (as := [.inl x1]) (rest := []) (zDk zD_118_ok 3 rfl) zc_118 (by decide +kernel) zk_73 ⟨(Nat.le_of_ble_eq_true rfl), rfl, rfl⟩ (Nat.le_of_ble_eq_true rfl) (zr_73 _) (Nat.lt_of_lt_of_le (by decide) hq) (by rw [zm_73]; exact (Nat.le_of_ble_eq_true rfl)) ⟨zc_73, by decide⟩ zis_6_3 (ok_lT_hasName ⟨v5, e5, ?_⟩)
  refine E_if (pc := 8) (t := 14) (zDk zD_118_ok 4 rfl) rfl (fun hz => ?_) (fun hz => ?_)
  · have h := zS_f h (T_ne hz)
    refine E_iconst (pc := 14) (zDk zD_118_ok 7 rfl) (by decide +kernel) ?_
    refine W_istore_n (pc := 15) (L' := [some (.inr (.inr 0)), some (.inl x1), some (.inl (0 : Int)), none, none, none]) (zDk zD_118_ok 8 rfl) zm_118 (by decide) rfl ?_
    refine E_iconst (pc := 16) (zDk zD_118_ok 9 rfl) (by decide +kernel) ?_
    refine W_istore_n (pc := 17) (L' := [some (.inr (.inr 0)), some (.inl x1), some (.inl (0 : Int)), some (.inl (-1 : Int)), none, none]) (zDk zD_118_ok 10 rfl) zm_118 (by decide) rfl ?_
    refine E_iconst (pc := 18) (zDk zD_118_ok 11 rfl) (by decide +kernel) ?_
    refine W_istore (pc := 19) (L' := [some (.inr (.inr 0)), some (.inl x1), some (.inl (0 : Int)), some (.inl (-1 : Int)), some (.inl (0 : Int)), none]) (zDk zD_118_ok 12 rfl) zm_118 (by decide) rfl ?_
    exact ok_lX_lives_c21 hq x1 zN (0 : Int) (-1 : Int) (0 : Int) M none h
  · have h := zS_t h (F_ne hz)
    refine E_bipush (pc := 11) (zDk zD_118_ok 5 rfl) (by decide +kernel) ?_
    have h := zS_some h
    exact E_ireturn (pc := 13) (zDk zD_118_ok 6 rfl) zt_118 h
def zD_128 : List (Nat × Instr × Nat) := [(0, .aload_n (0), 1), (1, .iload_n (1), 1), (2, .iload_n (2), 1), (3, .invokevirtual (296), 3), (6, .ifCond .ne (6), 3), (9, .bipush (-2), 2), (11, .ireturn, 1), (12, .iconst (0), 1), (13, .istore_n (3), 1), (14, .iconst (0), 1), (15, .istore (4), 2), (17, .iload (4), 2), (19, .iconst (4), 1), (20, .if_icmp .ge (90), 3), (23, .iload (4), 2), (25, .iconst (1), 1), (26, .iand, 1), (27, .istore (5), 2), (29, .iload (4), 2), (31, .iconst (1), 1), (32, .ishr, 1), (33, .istore (6), 2), (35, .aload_n (0), 1), (36, .iload_n (1), 1), (37, .iload_n (2), 1), (38, .iload (5), 2), (40, .iload (6), 2), (42, .invokevirtual (300), 3), (45, .aload_n (0), 1), (46, .iload_n (1), 1), (47, .iload_n (2), 1), (48, .iconst (1), 1), (49, .iload (5), 2), (51, .isub, 1), (52, .iload (6), 2), (54, .invokevirtual (300), 3), (57, .if_icmp .lt (7), 3), (60, .iconst (1), 1), (61, .goto (4), 3), (64, .iconst (0), 1), (65, .istore (7), 2), (67, .iload (7), 2), (69, .ifCond .eq (35), 3), (72, .aload_n (0), 1), (73, .iload_n (2), 1), (74, .iload_n (1), 1), (75, .iload (6), 2), (77, .iload (5), 2), (79, .invokevirtual (300), 3), (82, .aload_n (0), 1), (83, .iload_n (2), 1), (84, .iload_n (1), 1), (85, .iconst (1), 1), (86, .iload (6), 2), (88, .isub, 1), (89, .iload (5), 2), (91, .invokevirtual (300), 3), (94, .if_icmp .lt (10), 3), (97, .iload_n (3), 1), (98, .iconst (1), 1), (99, .iload (4), 2), (101, .ishl, 1), (102, .ior, 1), (103, .istore_n (3), 1), (104, .iinc (4) (1), 3), (107, .goto (-90), 3), (110, .iload_n (3), 1), (111, .ireturn, 1)]
set_option maxRecDepth 100000 in
theorem zD_128_ok : zDo 128 zD_128 = true := by decide +kernel
theorem zc_128 : zcls 128 = 7 := by decide +kernel
theorem zm_128 : zml 128 = 8 := by decide +kernel
theorem zt_128 : zrt 128 = (some (.int)) := by decide +kernel
theorem zk_128 : zkd 128 = 1 ∧ znp 128 + 1 = 3 := by decide +kernel
theorem zr_128 (as : List zV) : zrk 128 as = 5 := by unfold zrk; rw [if_neg (by decide)]; decide +kernel
def lX_rests_c65 (x1 : Int) (x2 : Int) (h17 : Int → Int → (Nat → Nat → Int) → Option (Int × (Nat → Nat → Int))) (y3 : Int) (y4 : Int) (y5 : Int) (y6 : Int) (s0 : Int) (M : Nat → Nat → Int) : Option (Int × (Nat → Nat → Int)) :=
    (if s0 = 0 then
    (h17 y3 (w32 (y4 + 1)) M)
    else
    ((lX_gains x2 x1 y6 y5 M).bind (fun r79_ =>
    ((lX_gains x2 x1 (w32 ((1 : Int) - y6)) y5 r79_.2).bind (fun r91_ =>
    (if r79_.1 < r91_.1 then
    (h17 y3 (w32 (y4 + 1)) r91_.2)
    else
    (h17 (zor y3 (zshl (1 : Int) y4)) (w32 (y4 + 1)) r91_.2)))))))
set_option maxRecDepth 100000 in
theorem ok_lX_rests_c65 {sc : zSc} {q : Nat} {P : Option zV → (Nat → Nat → Int) → Prop} (hq : 5 ≤ q) (x1 : Int) (x2 : Int) (h17 : Int → Int → (Nat → Nat → Int) → Option (Int × (Nat → Nat → Int))) (H17 : ∀ (y3 : Int) (y4 : Int) (M : Nat → Nat → Int) (d5 d6 d7 : Option zV), zS (h17 y3 y4 M) (fun r => P (some (.inl r.1)) r.2) → zWp sc q 128 17 [some (.inr (.inr 0)), some (.inl x1), some (.inl x2), some (.inl y3), some (.inl y4), d5, d6, d7] [] M P) : ∀ (y3 : Int) (y4 : Int) (y5 : Int) (y6 : Int) (s0 : Int) (M : Nat → Nat → Int) (d7 : Option zV), zS (lX_rests_c65 x1 x2 h17 y3 y4 y5 y6 s0 M) (fun r => P (some (.inl r.1)) r.2) → zWp sc q 128 65 [some (.inr (.inr 0)), some (.inl x1), some (.inl x2), some (.inl y3), some (.inl y4), some (.inl y5), some (.inl y6), d7] [(.inl s0 : zV)] M P := by
  intro y3 y4 y5 y6 s0 M d7 h
  unfold lX_rests_c65 at h
  refine W_istore (pc := 65) (L' := [some (.inr (.inr 0)), some (.inl x1), some (.inl x2), some (.inl y3), some (.inl y4), some (.inl y5), some (.inl y6), some (.inl s0)]) (zDk zD_128_ok 40 rfl) zm_128 (by decide) rfl ?_
  refine E_iload (pc := 67) (zDk zD_128_ok 41 rfl) rfl ?_
  refine E_if (pc := 69) (t := 104) (zDk zD_128_ok 42 rfl) rfl (fun hz => ?_) (fun hz => ?_)
  · have h := zS_t h (T_eq hz)
    refine W_iinc (pc := 104) (L' := [some (.inr (.inr 0)), some (.inl x1), some (.inl x2), some (.inl y3), some (.inl (w32 (y4 + 1))), some (.inl y5), some (.inl y6), some (.inl s0)]) (zDk zD_128_ok 64 rfl) rfl zm_128 (by decide) rfl ?_
    refine E_goto (pc := 107) (t := 17) (zDk zD_128_ok 65 rfl) rfl ?_
    exact H17 y3 (w32 (y4 + 1)) M (some (.inl y5)) (some (.inl y6)) (some (.inl s0)) h
  · have h := zS_f h (F_eq hz)
    refine E_aload_n (pc := 72) (zDk zD_128_ok 43 rfl) rfl ?_
    refine E_iload_n (pc := 73) (zDk zD_128_ok 44 rfl) rfl ?_
    refine E_iload_n (pc := 74) (zDk zD_128_ok 45 rfl) rfl ?_
    refine E_iload (pc := 75) (zDk zD_128_ok 46 rfl) rfl ?_
    refine E_iload (pc := 77) (zDk zD_128_ok 47 rfl) rfl ?_
    obtain ⟨r79_, e79, h⟩ := zS_bind h
    refine E_virI (pc := 79) (c := 166) (r := 0) (as := [.inl x2, .inl x1, .inl y6, .inl y5]) (rest := []) (zDk zD_128_ok 48 rfl) zc_128 (by decide +kernel) zk_166 ⟨(Nat.le_of_ble_eq_true rfl), rfl, rfl⟩ (Nat.le_of_ble_eq_true rfl) (zr_166 _) (Nat.lt_of_lt_of_le (by decide) hq) (by rw [zm_166]; exact (Nat.le_of_ble_eq_true rfl)) ⟨zc_166, by decide⟩ zis_7_0 (ok_lX_gains ⟨r79_, e79, ?_⟩)
    refine E_aload_n (pc := 82) (zDk zD_128_ok 49 rfl) rfl ?_
    refine E_iload_n (pc := 83) (zDk zD_128_ok 50 rfl) rfl ?_
    refine E_iload_n (pc := 84) (zDk zD_128_ok 51 rfl) rfl ?_
    refine E_iconst (pc := 85) (zDk zD_128_ok 52 rfl) (by decide +kernel) ?_
    refine E_iload (pc := 86) (zDk zD_128_ok 53 rfl) rfl ?_
    refine W_isub (pc := 88) (zDk zD_128_ok 54 rfl) ?_
    refine E_iload (pc := 89) (zDk zD_128_ok 55 rfl) rfl ?_
    obtain ⟨r91_, e91, h⟩ := zS_bind h
    refine E_virI (pc := 91) (c := 166) (r := 0) (as := [.inl x2, .inl x1, .inl (w32 ((1 : Int) - y6)), .inl y5]) (rest := [.inl r79_.1]) (zDk zD_128_ok 56 rfl) zc_128 (by decide +kernel) zk_166 ⟨(Nat.le_of_ble_eq_true rfl), rfl, rfl⟩ (Nat.le_of_ble_eq_true rfl) (zr_166 _) (Nat.lt_of_lt_of_le (by decide) hq) (by rw [zm_166]; exact (Nat.le_of_ble_eq_true rfl)) ⟨zc_166, by decide⟩ zis_7_0 (ok_lX_gains ⟨r91_, e91, ?_⟩)
    refine E_icmp (pc := 94) (t := 104) (zDk zD_128_ok 57 rfl) rfl (fun hz => ?_) (fun hz => ?_)
    · have h := zS_t h (T_lt hz)
      refine W_iinc (pc := 104) (L' := [some (.inr (.inr 0)), some (.inl x1), some (.inl x2), some (.inl y3), some (.inl (w32 (y4 + 1))), some (.inl y5), some (.inl y6), some (.inl s0)]) (zDk zD_128_ok 64 rfl) rfl zm_128 (by decide) rfl ?_
      refine E_goto (pc := 107) (t := 17) (zDk zD_128_ok 65 rfl) rfl ?_
      exact H17 y3 (w32 (y4 + 1)) r91_.2 (some (.inl y5)) (some (.inl y6)) (some (.inl s0)) h
    · have h := zS_f h (Int.not_lt.mpr (F_lt hz))
      refine E_iload_n (pc := 97) (zDk zD_128_ok 58 rfl) rfl ?_
      refine E_iconst (pc := 98) (zDk zD_128_ok 59 rfl) (by decide +kernel) ?_
      refine E_iload (pc := 99) (zDk zD_128_ok 60 rfl) rfl ?_
      refine E_ishl (pc := 101) (zDk zD_128_ok 61 rfl) ?_
      refine E_ior (pc := 102) (zDk zD_128_ok 62 rfl) ?_
      refine W_istore_n (pc := 103) (L' := [some (.inr (.inr 0)), some (.inl x1), some (.inl x2), some (.inl (zor y3 (zshl (1 : Int) y4))), some (.inl y4), some (.inl y5), some (.inl y6), some (.inl s0)]) (zDk zD_128_ok 63 rfl) zm_128 (by decide) rfl ?_
      refine W_iinc (pc := 104) (L' := [some (.inr (.inr 0)), some (.inl x1), some (.inl x2), some (.inl (zor y3 (zshl (1 : Int) y4))), some (.inl (w32 (y4 + 1))), some (.inl y5), some (.inl y6), some (.inl s0)]) (zDk zD_128_ok 64 rfl) rfl zm_128 (by decide) rfl ?_
      refine E_goto (pc := 107) (t := 17) (zDk zD_128_ok 65 rfl) rfl ?_
      exact H17 (zor y3 (zshl (1 : Int) y4)) (w32 (y4 + 1)) r91_.2 (some (.inl y5)) (some (.inl y6)) (some (.inl s0)) h
def lX_rests_c17 (x1 : Int) (x2 : Int) : Nat → Int → Int → (Nat → Nat → Int) → Option (Int × (Nat → Nat → Int))
  | 0, _, _, _ => none
  | n + 1, y3, y4, M =>
    (if y4 < (4 : Int) then
    ((lX_gains x1 x2 (zand y4 (1 : Int)) (zshr y4 (1 : Int)) M).bind (fun r42_ =>
    ((lX_gains x1 x2 (w32 ((1 : Int) - (zand y4 (1 : Int)))) (zshr y4 (1 : Int)) r42_.2).bind (fun r54_ =>
    (if r42_.1 < r54_.1 then
    (lX_rests_c65 x1 x2 (lX_rests_c17 x1 x2 n) y3 y4 (zand y4 (1 : Int)) (zshr y4 (1 : Int)) (0 : Int) r54_.2)
    else
    (lX_rests_c65 x1 x2 (lX_rests_c17 x1 x2 n) y3 y4 (zand y4 (1 : Int)) (zshr y4 (1 : Int)) (1 : Int) r54_.2))))))
    else
    (some (y3, M)))
set_option maxRecDepth 100000 in
theorem ok_lX_rests_c17 {sc : zSc} {q : Nat} {P : Option zV → (Nat → Nat → Int) → Prop} (hq : 5 ≤ q) (x1 : Int) (x2 : Int) : ∀ (n : Nat) (y3 : Int) (y4 : Int) (M : Nat → Nat → Int) (d5 d6 d7 : Option zV), zS (lX_rests_c17 x1 x2 n y3 y4 M) (fun r => P (some (.inl r.1)) r.2) → zWp sc q 128 17 [some (.inr (.inr 0)), some (.inl x1), some (.inl x2), some (.inl y3), some (.inl y4), d5, d6, d7] [] M P := by
  intro n
  induction n with
  | zero => intro y3 y4 M d5 d6 d7 h; exact (zS_none h).elim
  | succ n ih =>
    intro y3 y4 M d5 d6 d7 h
    rw [lX_rests_c17] at h
    refine E_iload (pc := 17) (zDk zD_128_ok 11 rfl) rfl ?_
    refine E_iconst (pc := 19) (zDk zD_128_ok 12 rfl) (by decide +kernel) ?_
    refine E_icmp (pc := 20) (t := 110) (zDk zD_128_ok 13 rfl) rfl (fun hz => ?_) (fun hz => ?_)
    · have h := zS_f h (Int.not_lt.mpr (T_ge hz))
      refine E_iload_n (pc := 110) (zDk zD_128_ok 66 rfl) rfl ?_
      have h := zS_some h
      exact E_ireturn (pc := 111) (zDk zD_128_ok 67 rfl) zt_128 h
    · have h := zS_t h (F_ge hz)
      refine E_iload (pc := 23) (zDk zD_128_ok 14 rfl) rfl ?_
      refine E_iconst (pc := 25) (zDk zD_128_ok 15 rfl) (by decide +kernel) ?_
      refine E_iand (pc := 26) (zDk zD_128_ok 16 rfl) ?_
      refine W_istore (pc := 27) (L' := [some (.inr (.inr 0)), some (.inl x1), some (.inl x2), some (.inl y3), some (.inl y4), some (.inl (zand y4 (1 : Int))), d6, d7]) (zDk zD_128_ok 17 rfl) zm_128 (by decide) rfl ?_
      refine E_iload (pc := 29) (zDk zD_128_ok 18 rfl) rfl ?_
      refine E_iconst (pc := 31) (zDk zD_128_ok 19 rfl) (by decide +kernel) ?_
      refine E_ishr (pc := 32) (zDk zD_128_ok 20 rfl) ?_
      refine W_istore (pc := 33) (L' := [some (.inr (.inr 0)), some (.inl x1), some (.inl x2), some (.inl y3), some (.inl y4), some (.inl (zand y4 (1 : Int))), some (.inl (zshr y4 (1 : Int))), d7]) (zDk zD_128_ok 21 rfl) zm_128 (by decide) rfl ?_
      refine E_aload_n (pc := 35) (zDk zD_128_ok 22 rfl) rfl ?_
      refine E_iload_n (pc := 36) (zDk zD_128_ok 23 rfl) rfl ?_
      refine E_iload_n (pc := 37) (zDk zD_128_ok 24 rfl) rfl ?_
      refine E_iload (pc := 38) (zDk zD_128_ok 25 rfl) rfl ?_
      refine E_iload (pc := 40) (zDk zD_128_ok 26 rfl) rfl ?_
      obtain ⟨r42_, e42, h⟩ := zS_bind h
      refine E_virI (pc := 42) (c := 166) (r := 0) (as := [.inl x1, .inl x2, .inl (zand y4 (1 : Int)), .inl (zshr y4 (1 : Int))]) (rest := []) (zDk zD_128_ok 27 rfl) zc_128 (by decide +kernel) zk_166 ⟨(Nat.le_of_ble_eq_true rfl), rfl, rfl⟩ (Nat.le_of_ble_eq_true rfl) (zr_166 _) (Nat.lt_of_lt_of_le (by decide) hq) (by rw [zm_166]; exact (Nat.le_of_ble_eq_true rfl)) ⟨zc_166, by decide⟩ zis_7_0 (ok_lX_gains ⟨r42_, e42, ?_⟩)
      refine E_aload_n (pc := 45) (zDk zD_128_ok 28 rfl) rfl ?_
      refine E_iload_n (pc := 46) (zDk zD_128_ok 29 rfl) rfl ?_
      refine E_iload_n (pc := 47) (zDk zD_128_ok 30 rfl) rfl ?_
      refine E_iconst (pc := 48) (zDk zD_128_ok 31 rfl) (by decide +kernel) ?_
      refine E_iload (pc := 49) (zDk zD_128_ok 32 rfl) rfl ?_
      refine W_isub (pc := 51) (zDk zD_128_ok 33 rfl) ?_
      refine E_iload (pc := 52) (zDk zD_128_ok 34 rfl) rfl ?_
      obtain ⟨r54_, e54, h⟩ := zS_bind h
      refine E_virI (pc := 54) (c := 166) (r := 0) (as := [.inl x1, .inl x2, .inl (w32 ((1 : Int) - (zand y4 (1 : Int)))), .inl (zshr y4 (1 : Int))]) (rest := [.inl r42_.1]) (zDk zD_128_ok 35 rfl) zc_128 (by decide +kernel) zk_166 ⟨(Nat.le_of_ble_eq_true rfl), rfl, rfl⟩ (Nat.le_of_ble_eq_true rfl) (zr_166 _) (Nat.lt_of_lt_of_le (by decide) hq) (by rw [zm_166]; exact (Nat.le_of_ble_eq_true rfl)) ⟨zc_166, by decide⟩ zis_7_0 (ok_lX_gains ⟨r54_, e54, ?_⟩)
      refine E_icmp (pc := 57) (t := 64) (zDk zD_128_ok 36 rfl) rfl (fun hz => ?_) (fun hz => ?_)
      · have h := zS_t h (T_lt hz)
        refine E_iconst (pc := 64) (zDk zD_128_ok 39 rfl) (by decide +kernel) ?_
        exact ok_lX_rests_c65 hq x1 x2 (lX_rests_c17 x1 x2 n) (ih) y3 y4 (zand y4 (1 : Int)) (zshr y4 (1 : Int)) (0 : Int) r54_.2 d7 h
      · have h := zS_f h (Int.not_lt.mpr (F_lt hz))
        refine E_iconst (pc := 60) (zDk zD_128_ok 37 rfl) (by decide +kernel) ?_
        refine E_goto (pc := 61) (t := 65) (zDk zD_128_ok 38 rfl) rfl ?_
        exact ok_lX_rests_c65 hq x1 x2 (lX_rests_c17 x1 x2 n) (ih) y3 y4 (zand y4 (1 : Int)) (zshr y4 (1 : Int)) (1 : Int) r54_.2 d7 h
def lX_rests (x1 : Int) (x2 : Int) (M : Nat → Nat → Int) : Option (Int × (Nat → Nat → Int)) :=
    ((lX_areTwo x1 x2 M).bind (fun v3 =>
    (if v3 = 0 then
    (some ((-2 : Int), M))
    else
    (lX_rests_c17 x1 x2 zN (0 : Int) (0 : Int) M))))
set_option maxRecDepth 100000 in
theorem ok_lX_rests {sc : zSc} {x1 : Int} {x2 : Int} {M : Nat → Nat → Int} {P : Int → (Nat → Nat → Int) → Prop} (h : zS (lX_rests x1 x2 M) (fun r => P r.1 r.2)) : zCi sc 128 [.inr (.inr 0), .inl x1, .inl x2] M P := by
  have ea : zarg (zml 128) [.inr (.inr 0), .inl x1, .inl x2] = [some (.inr (.inr 0)), some (.inl x1), some (.inl x2), none, none, none, none, none] := by rw [zm_128]; rfl
  unfold zCi zCw
  rw [ea, zr_128]
  have hq : 5 ≤ 5 := Nat.le_refl _
  unfold lX_rests at h
  have h := zS_mono h (fun x hx => (⟨x.1, rfl, hx⟩ : ∃ y, (some (.inl x.1) : Option zV) = some (.inl y) ∧ P y x.2))
  skip
  refine E_aload_n (pc := 0) (zDk zD_128_ok 0 rfl) rfl ?_
  refine E_iload_n (pc := 1) (zDk zD_128_ok 1 rfl) rfl ?_
  refine E_iload_n (pc := 2) (zDk zD_128_ok 2 rfl) rfl ?_
  obtain ⟨v3, e3, h⟩ := zS_bind h
  refine E_virI (pc := 3) (c := 149) (r := 0) (as := [.inl x1, .inl x2]) (rest := []) (zDk zD_128_ok 3 rfl) zc_128 (by decide +kernel) zk_149 ⟨(Nat.le_of_ble_eq_true rfl), rfl, rfl⟩ (Nat.le_of_ble_eq_true rfl) (zr_149 _) (Nat.lt_of_lt_of_le (by decide) hq) (by rw [zm_149]; exact (Nat.le_of_ble_eq_true rfl)) ⟨zc_149, by decide⟩ zis_7_0 (ok_lX_areTwo ⟨v3, e3, ?_⟩)
  refine E_if (pc := 6) (t := 12) (zDk zD_128_ok 4 rfl) rfl (fun hz => ?_) (fun hz => ?_)
  · have h := zS_f h (T_ne hz)
    refine E_iconst (pc := 12) (zDk zD_128_ok 7 rfl) (by decide +kernel) ?_
    refine W_istore_n (pc := 13) (L' := [some (.inr (.inr 0)), some (.inl x1), some (.inl x2), some (.inl (0 : Int)), none, none, none, none]) (zDk zD_128_ok 8 rfl) zm_128 (by decide) rfl ?_
    refine E_iconst (pc := 14) (zDk zD_128_ok 9 rfl) (by decide +kernel) ?_
    refine W_istore (pc := 15) (L' := [some (.inr (.inr 0)), some (.inl x1), some (.inl x2), some (.inl (0 : Int)), some (.inl (0 : Int)), none, none, none]) (zDk zD_128_ok 10 rfl) zm_128 (by decide) rfl ?_
    exact ok_lX_rests_c17 hq x1 x2 zN (0 : Int) (0 : Int) M none none none h
  · have h := zS_t h (F_ne hz)
    refine E_bipush (pc := 9) (zDk zD_128_ok 5 rfl) (by decide +kernel) ?_
    have h := zS_some h
    exact E_ireturn (pc := 11) (zDk zD_128_ok 6 rfl) zt_128 h
def zD_129 : List (Nat × Instr × Nat) := [(0, .aload_n (0), 1), (1, .iload_n (1), 1), (2, .iload_n (2), 1), (3, .invokevirtual (296), 3), (6, .ifCond .eq (23), 3), (9, .iload_n (3), 1), (10, .ifCond .lt (19), 3), (13, .iload_n (3), 1), (14, .iconst (1), 1), (15, .if_icmp .gt (14), 3), (18, .iload (4), 2), (20, .ifCond .lt (9), 3), (23, .iload (4), 2), (25, .iconst (1), 1), (26, .if_icmp .le (7), 3), (29, .sipush (-1000), 3), (32, .ireturn, 1), (33, .aload_n (0), 1), (34, .iload_n (1), 1), (35, .iload_n (2), 1), (36, .iload_n (3), 1), (37, .iload (4), 2), (39, .invokevirtual (300), 3), (42, .ireturn, 1)]
set_option maxRecDepth 100000 in
theorem zD_129_ok : zDo 129 zD_129 = true := by decide +kernel
theorem zc_129 : zcls 129 = 7 := by decide +kernel
theorem zm_129 : zml 129 = 5 := by decide +kernel
theorem zt_129 : zrt 129 = (some (.int)) := by decide +kernel
theorem zk_129 : zkd 129 = 1 ∧ znp 129 + 1 = 5 := by decide +kernel
theorem zr_129 (as : List zV) : zrk 129 as = 5 := by unfold zrk; rw [if_neg (by decide)]; decide +kernel
def lX_gets (x1 : Int) (x2 : Int) (x3 : Int) (x4 : Int) (M : Nat → Nat → Int) : Option (Int × (Nat → Nat → Int)) :=
    ((lX_areTwo x1 x2 M).bind (fun v3 =>
    (if v3 = 0 then
    (some ((-1000 : Int), M))
    else
    (if x3 < 0 then
    (some ((-1000 : Int), M))
    else
    (if (1 : Int) < x3 then
    (some ((-1000 : Int), M))
    else
    (if x4 < 0 then
    (some ((-1000 : Int), M))
    else
    (if (1 : Int) < x4 then
    (some ((-1000 : Int), M))
    else
    ((lX_gains x1 x2 x3 x4 M).bind (fun r39_ =>
    (some (r39_.1, r39_.2)))))))))))
set_option maxRecDepth 100000 in
theorem ok_lX_gets {sc : zSc} {x1 : Int} {x2 : Int} {x3 : Int} {x4 : Int} {M : Nat → Nat → Int} {P : Int → (Nat → Nat → Int) → Prop} (h : zS (lX_gets x1 x2 x3 x4 M) (fun r => P r.1 r.2)) : zCi sc 129 [.inr (.inr 0), .inl x1, .inl x2, .inl x3, .inl x4] M P := by
  have ea : zarg (zml 129) [.inr (.inr 0), .inl x1, .inl x2, .inl x3, .inl x4] = [some (.inr (.inr 0)), some (.inl x1), some (.inl x2), some (.inl x3), some (.inl x4)] := by rw [zm_129]; rfl
  unfold zCi zCw
  rw [ea, zr_129]
  have hq : 5 ≤ 5 := Nat.le_refl _
  unfold lX_gets at h
  have h := zS_mono h (fun x hx => (⟨x.1, rfl, hx⟩ : ∃ y, (some (.inl x.1) : Option zV) = some (.inl y) ∧ P y x.2))
  skip
  refine E_aload_n (pc := 0) (zDk zD_129_ok 0 rfl) rfl ?_
  refine E_iload_n (pc := 1) (zDk zD_129_ok 1 rfl) rfl ?_
  refine E_iload_n (pc := 2) (zDk zD_129_ok 2 rfl) rfl ?_
  obtain ⟨v3, e3, h⟩ := zS_bind h
  refine E_virI (pc := 3) (c := 149) (r := 0) (as := [.inl x1, .inl x2]) (rest := []) (zDk zD_129_ok 3 rfl) zc_129 (by decide +kernel) zk_149 ⟨(Nat.le_of_ble_eq_true rfl), rfl, rfl⟩ (Nat.le_of_ble_eq_true rfl) (zr_149 _) (Nat.lt_of_lt_of_le (by decide) hq) (by rw [zm_149]; exact (Nat.le_of_ble_eq_true rfl)) ⟨zc_149, by decide⟩ zis_7_0 (ok_lX_areTwo ⟨v3, e3, ?_⟩)
  refine E_if (pc := 6) (t := 29) (zDk zD_129_ok 4 rfl) rfl (fun hz => ?_) (fun hz => ?_)
  · have h := zS_t h (T_eq hz)
    refine E_sipush (pc := 29) (zDk zD_129_ok 15 rfl) (by decide +kernel) ?_
    have h := zS_some h
    exact E_ireturn (pc := 32) (zDk zD_129_ok 16 rfl) zt_129 h
  · have h := zS_f h (F_eq hz)
    refine E_iload_n (pc := 9) (zDk zD_129_ok 5 rfl) rfl ?_
    refine E_if (pc := 10) (t := 29) (zDk zD_129_ok 6 rfl) rfl (fun hz => ?_) (fun hz => ?_)
    · have h := zS_t h (T_lt hz)
      refine E_sipush (pc := 29) (zDk zD_129_ok 15 rfl) (by decide +kernel) ?_
      have h := zS_some h
      exact E_ireturn (pc := 32) (zDk zD_129_ok 16 rfl) zt_129 h
    · have h := zS_f h (Int.not_lt.mpr (F_lt hz))
      refine E_iload_n (pc := 13) (zDk zD_129_ok 7 rfl) rfl ?_
      refine E_iconst (pc := 14) (zDk zD_129_ok 8 rfl) (by decide +kernel) ?_
      refine E_icmp (pc := 15) (t := 29) (zDk zD_129_ok 9 rfl) rfl (fun hz => ?_) (fun hz => ?_)
      · have h := zS_t h (T_gt hz)
        refine E_sipush (pc := 29) (zDk zD_129_ok 15 rfl) (by decide +kernel) ?_
        have h := zS_some h
        exact E_ireturn (pc := 32) (zDk zD_129_ok 16 rfl) zt_129 h
      · have h := zS_f h (Int.not_lt.mpr (F_gt hz))
        refine E_iload (pc := 18) (zDk zD_129_ok 10 rfl) rfl ?_
        refine E_if (pc := 20) (t := 29) (zDk zD_129_ok 11 rfl) rfl (fun hz => ?_) (fun hz => ?_)
        · have h := zS_t h (T_lt hz)
          refine E_sipush (pc := 29) (zDk zD_129_ok 15 rfl) (by decide +kernel) ?_
          have h := zS_some h
          exact E_ireturn (pc := 32) (zDk zD_129_ok 16 rfl) zt_129 h
        · have h := zS_f h (Int.not_lt.mpr (F_lt hz))
          refine E_iload (pc := 23) (zDk zD_129_ok 12 rfl) rfl ?_
          refine E_iconst (pc := 25) (zDk zD_129_ok 13 rfl) (by decide +kernel) ?_
          refine E_icmp (pc := 26) (t := 33) (zDk zD_129_ok 14 rfl) rfl (fun hz => ?_) (fun hz => ?_)
          · have h := zS_f h (Int.not_lt.mpr (T_le hz))
            refine E_aload_n (pc := 33) (zDk zD_129_ok 17 rfl) rfl ?_
            refine E_iload_n (pc := 34) (zDk zD_129_ok 18 rfl) rfl ?_
            refine E_iload_n (pc := 35) (zDk zD_129_ok 19 rfl) rfl ?_
            refine E_iload_n (pc := 36) (zDk zD_129_ok 20 rfl) rfl ?_
            refine E_iload (pc := 37) (zDk zD_129_ok 21 rfl) rfl ?_
            obtain ⟨r39_, e39, h⟩ := zS_bind h
            refine E_virI (pc := 39) (c := 166) (r := 0) (as := [.inl x1, .inl x2, .inl x3, .inl x4]) (rest := []) (zDk zD_129_ok 22 rfl) zc_129 (by decide +kernel) zk_166 ⟨(Nat.le_of_ble_eq_true rfl), rfl, rfl⟩ (Nat.le_of_ble_eq_true rfl) (zr_166 _) (Nat.lt_of_lt_of_le (by decide) hq) (by rw [zm_166]; exact (Nat.le_of_ble_eq_true rfl)) ⟨zc_166, by decide⟩ zis_7_0 (ok_lX_gains ⟨r39_, e39, ?_⟩)
            have h := zS_some h
            exact E_ireturn (pc := 42) (zDk zD_129_ok 23 rfl) zt_129 h
          · have h := zS_t h (F_le hz)
            refine E_sipush (pc := 29) (zDk zD_129_ok 15 rfl) (by decide +kernel) ?_
            have h := zS_some h
            exact E_ireturn (pc := 32) (zDk zD_129_ok 16 rfl) zt_129 h
def zD_132 : List (Nat × Instr × Nat) := [(0, .aload_n (0), 1), (1, .getfield (19), 3), (4, .iload_n (3), 1), (5, .invokevirtual (136), 3), (8, .ifCond .eq (18), 3), (11, .iload_n (3), 1), (12, .aload_n (0), 1), (13, .getfield (19), 3), (16, .getfield (177), 3), (19, .if_icmp .ge (7), 3), (22, .iconst (1), 1), (23, .goto (4), 3), (26, .iconst (0), 1), (27, .istore (4), 2), (29, .aload_n (0), 1), (30, .getfield (19), 3), (33, .iload_n (1), 1), (34, .invokevirtual (112), 3), (37, .ifCond .eq (19), 3), (40, .aload_n (0), 1), (41, .getfield (19), 3), (44, .iload_n (2), 1), (45, .invokevirtual (106), 3), (48, .ifCond .eq (8), 3), (51, .iload (4), 2), (53, .ifCond .ne (6), 3), (56, .bipush (-2), 2), (58, .ireturn, 1), (59, .aload_n (0), 1), (60, .getfield (29), 3), (63, .getfield (313), 3), (66, .bipush (30), 2), (68, .if_icmp .lt (6), 3), (71, .bipush (-5), 2), (73, .ireturn, 1), (74, .aload_n (0), 1), (75, .getfield (29), 3), (78, .iconst (0), 1), (79, .iload_n (1), 1), (80, .iload_n (2), 1), (81, .iload_n (3), 1), (82, .invokevirtual (316), 3), (85, .aload_n (0), 1), (86, .invokevirtual (84), 3), (89, .aload_n (0), 1), (90, .getfield (38), 3), (93, .getfield (139), 3), (96, .aload_n (0), 1), (97, .getfield (19), 3), (100, .getfield (177), 3), (103, .iconst (5), 1), (104, .imul, 1), (105, .iload_n (1), 1), (106, .iadd, 1), (107, .iaload, 1), (108, .ireturn, 1)]
set_option maxRecDepth 100000 in
theorem zD_132_ok : zDo 132 zD_132 = true := by decide +kernel
theorem zc_132 : zcls 132 = 7 := by decide +kernel
theorem zm_132 : zml 132 = 5 := by decide +kernel
theorem zt_132 : zrt 132 = (some (.int)) := by decide +kernel
theorem zk_132 : zkd 132 = 1 ∧ znp 132 + 1 = 4 := by decide +kernel
theorem zr_132 (as : List zV) : zrk 132 as = 5 := by unfold zrk; rw [if_neg (by decide)]; decide +kernel
def lX_send_c27 (x1 : Int) (x2 : Int) (x3 : Int) (s0 : Int) (M : Nat → Nat → Int) : Option (Int × (Nat → Nat → Int)) :=
    ((lT_hasName 3 x1 M).bind (fun v34 =>
    (if v34 = 0 then
    (some ((-2 : Int), M))
    else
    ((lT_hasCorner 3 x2 M).bind (fun v45 =>
    (if v45 = 0 then
    (some ((-2 : Int), M))
    else
    (if s0 = 0 then
    (some ((-2 : Int), M))
    else
    (if (M 23 0) < (30 : Int) then
    ((lA_add 23 (0 : Int) x1 x2 x3 M).bind (fun M82 =>
    ((lX_settle M82).bind (fun M86 =>
    ((rdI 34 (w32 ((w32 ((M86 3 1) * (5 : Int))) + x1)) M86).bind (fun v107 =>
    (some (v107, M86))))))))
    else
    (some ((-5 : Int), M))))))))))
set_option maxRecDepth 100000 in
theorem ok_lX_send_c27 {sc : zSc} {q : Nat} {P : Option zV → (Nat → Nat → Int) → Prop} (hq : 5 ≤ q) (x1 : Int) (x2 : Int) (x3 : Int) : ∀ (s0 : Int) (M : Nat → Nat → Int) (d4 : Option zV), zS (lX_send_c27 x1 x2 x3 s0 M) (fun r => P (some (.inl r.1)) r.2) → zWp sc q 132 27 [some (.inr (.inr 0)), some (.inl x1), some (.inl x2), some (.inl x3), d4] [(.inl s0 : zV)] M P := by
  intro s0 M d4 h
  unfold lX_send_c27 at h
  refine W_istore (pc := 27) (L' := [some (.inr (.inr 0)), some (.inl x1), some (.inl x2), some (.inl x3), some (.inl s0)]) (zDk zD_132_ok 13 rfl) zm_132 (by decide) rfl ?_
  refine E_aload_n (pc := 29) (zDk zD_132_ok 14 rfl) rfl ?_
  refine E_getR (pc := 30) (ci := 7) (f := 1) (r := 3) (zDk zD_132_ok 15 rfl) zc_132 (by decide +kernel) (by decide) zis_7_0 (by decide +kernel) (by decide) ?_
  refine E_iload_n (pc := 33) (zDk zD_132_ok 16 rfl) rfl ?_
  obtain ⟨v34, e34, h⟩ := zS_bind h
  refine E_virI (pc := 34) (c := 73) (r := 3) (as := [.inl x1]) (rest := []) (zDk zD_132_ok 17 rfl) zc_132 (by decide +kernel) zk_73 ⟨(Nat.le_of_ble_eq_true rfl), rfl, rfl⟩ (Nat.le_of_ble_eq_true rfl) (zr_73 _) (Nat.lt_of_lt_of_le (by decide) hq) (by rw [zm_73]; exact (Nat.le_of_ble_eq_true rfl)) ⟨zc_73, by decide⟩ zis_6_3 (ok_lT_hasName ⟨v34, e34, ?_⟩)
  refine E_if (pc := 37) (t := 56) (zDk zD_132_ok 18 rfl) rfl (fun hz => ?_) (fun hz => ?_)
  · have h := zS_t h (T_eq hz)
    refine E_bipush (pc := 56) (zDk zD_132_ok 26 rfl) (by decide +kernel) ?_
    have h := zS_some h
    exact E_ireturn (pc := 58) (zDk zD_132_ok 27 rfl) zt_132 h
  · have h := zS_f h (F_eq hz)
    refine E_aload_n (pc := 40) (zDk zD_132_ok 19 rfl) rfl ?_
    refine E_getR (pc := 41) (ci := 7) (f := 1) (r := 3) (zDk zD_132_ok 20 rfl) zc_132 (by decide +kernel) (by decide) zis_7_0 (by decide +kernel) (by decide) ?_
    refine E_iload_n (pc := 44) (zDk zD_132_ok 21 rfl) rfl ?_
    obtain ⟨v45, e45, h⟩ := zS_bind h
    refine E_virI (pc := 45) (c := 70) (r := 3) (as := [.inl x2]) (rest := []) (zDk zD_132_ok 22 rfl) zc_132 (by decide +kernel) zk_70 ⟨(Nat.le_of_ble_eq_true rfl), rfl, rfl⟩ (Nat.le_of_ble_eq_true rfl) (zr_70 _) (Nat.lt_of_lt_of_le (by decide) hq) (by rw [zm_70]; exact (Nat.le_of_ble_eq_true rfl)) ⟨zc_70, by decide⟩ zis_6_3 (ok_lT_hasCorner ⟨v45, e45, ?_⟩)
    refine E_if (pc := 48) (t := 56) (zDk zD_132_ok 23 rfl) rfl (fun hz => ?_) (fun hz => ?_)
    · have h := zS_t h (T_eq hz)
      refine E_bipush (pc := 56) (zDk zD_132_ok 26 rfl) (by decide +kernel) ?_
      have h := zS_some h
      exact E_ireturn (pc := 58) (zDk zD_132_ok 27 rfl) zt_132 h
    · have h := zS_f h (F_eq hz)
      refine E_iload (pc := 51) (zDk zD_132_ok 24 rfl) rfl ?_
      refine E_if (pc := 53) (t := 59) (zDk zD_132_ok 25 rfl) rfl (fun hz => ?_) (fun hz => ?_)
      · have h := zS_f h (T_ne hz)
        refine E_aload_n (pc := 59) (zDk zD_132_ok 28 rfl) rfl ?_
        refine E_getR (pc := 60) (ci := 7) (f := 3) (r := 23) (zDk zD_132_ok 29 rfl) zc_132 (by decide +kernel) (by decide) zis_7_0 (by decide +kernel) (by decide) ?_
        refine E_getI (pc := 63) (ci := 0) (f := 0) (zDk zD_132_ok 30 rfl) zc_132 (by decide +kernel) (by decide) zis_0_23 ?_
        refine E_bipush (pc := 66) (zDk zD_132_ok 31 rfl) (by decide +kernel) ?_
        refine E_icmp (pc := 68) (t := 74) (zDk zD_132_ok 32 rfl) rfl (fun hz => ?_) (fun hz => ?_)
        · have h := zS_t h (T_lt hz)
          refine E_aload_n (pc := 74) (zDk zD_132_ok 35 rfl) rfl ?_
          refine E_getR (pc := 75) (ci := 7) (f := 3) (r := 23) (zDk zD_132_ok 36 rfl) zc_132 (by decide +kernel) (by decide) zis_7_0 (by decide +kernel) (by decide) ?_
          refine E_iconst (pc := 78) (zDk zD_132_ok 37 rfl) (by decide +kernel) ?_
          refine E_iload_n (pc := 79) (zDk zD_132_ok 38 rfl) rfl ?_
          refine E_iload_n (pc := 80) (zDk zD_132_ok 39 rfl) rfl ?_
          refine E_iload_n (pc := 81) (zDk zD_132_ok 40 rfl) rfl ?_
          obtain ⟨M82, e82, h⟩ := zS_bind h
          refine E_virV (pc := 82) (c := 1) (r := 23) (as := [.inl (0 : Int), .inl x1, .inl x2, .inl x3]) (rest := []) (zDk zD_132_ok 41 rfl) zc_132 (by decide +kernel) zk_1 ⟨(Nat.le_of_ble_eq_true rfl), rfl, rfl⟩ (Nat.le_of_ble_eq_true rfl) (zr_1 _) (Nat.lt_of_lt_of_le (by decide) hq) (by rw [zm_1]; exact (Nat.le_of_ble_eq_true rfl)) ⟨zc_1, by decide⟩ zis_0_23 (ok_lA_add ⟨M82, e82, ?_⟩)
          refine E_aload_n (pc := 85) (zDk zD_132_ok 42 rfl) rfl ?_
          obtain ⟨M86, e86, h⟩ := zS_bind h
          refine E_virV (pc := 86) (c := 145) (r := 0) (as := []) (rest := []) (zDk zD_132_ok 43 rfl) zc_132 (by decide +kernel) zk_145 ⟨(Nat.le_of_ble_eq_true rfl), rfl, rfl⟩ (Nat.le_of_ble_eq_true rfl) (zr_145 _) (Nat.lt_of_lt_of_le (by decide) hq) (by rw [zm_145]; exact (Nat.le_of_ble_eq_true rfl)) ⟨zc_145, by decide⟩ zis_7_0 (ok_lX_settle ⟨M86, e86, ?_⟩)
          refine E_aload_n (pc := 89) (zDk zD_132_ok 44 rfl) rfl ?_
          refine E_getR (pc := 90) (ci := 7) (f := 4) (r := 29) (zDk zD_132_ok 45 rfl) zc_132 (by decide +kernel) (by decide) zis_7_0 (by decide +kernel) (by decide) ?_
          refine E_getR (pc := 93) (ci := 1) (f := 5) (r := 34) (zDk zD_132_ok 46 rfl) zc_132 (by decide +kernel) (by decide) zis_1_29 (by decide +kernel) (by decide) ?_
          refine E_aload_n (pc := 96) (zDk zD_132_ok 47 rfl) rfl ?_
          refine E_getR (pc := 97) (ci := 7) (f := 1) (r := 3) (zDk zD_132_ok 48 rfl) zc_132 (by decide +kernel) (by decide) zis_7_0 (by decide +kernel) (by decide) ?_
          refine E_getI (pc := 100) (ci := 6) (f := 1) (zDk zD_132_ok 49 rfl) zc_132 (by decide +kernel) (by decide) zis_6_3 ?_
          refine E_iconst (pc := 103) (zDk zD_132_ok 50 rfl) (by decide +kernel) ?_
          refine W_imul (pc := 104) (zDk zD_132_ok 51 rfl) ?_
          refine E_iload_n (pc := 105) (zDk zD_132_ok 52 rfl) rfl ?_
          refine W_iadd (pc := 106) (zDk zD_132_ok 53 rfl) ?_
          obtain ⟨v107, e107, h⟩ := zS_bind h
          refine E_iaload (pc := 107) (zDk zD_132_ok 54 rfl) e107 ?_
          have h := zS_some h
          exact E_ireturn (pc := 108) (zDk zD_132_ok 55 rfl) zt_132 h
        · have h := zS_f h (Int.not_lt.mpr (F_lt hz))
          refine E_bipush (pc := 71) (zDk zD_132_ok 33 rfl) (by decide +kernel) ?_
          have h := zS_some h
          exact E_ireturn (pc := 73) (zDk zD_132_ok 34 rfl) zt_132 h
      · have h := zS_t h (F_ne hz)
        refine E_bipush (pc := 56) (zDk zD_132_ok 26 rfl) (by decide +kernel) ?_
        have h := zS_some h
        exact E_ireturn (pc := 58) (zDk zD_132_ok 27 rfl) zt_132 h
def lX_send (x1 : Int) (x2 : Int) (x3 : Int) (M : Nat → Nat → Int) : Option (Int × (Nat → Nat → Int)) :=
    ((lT_hasStep 3 x3 M).bind (fun v5 =>
    (if v5 = 0 then
    (lX_send_c27 x1 x2 x3 (0 : Int) M)
    else
    (if x3 < (M 3 1) then
    (lX_send_c27 x1 x2 x3 (1 : Int) M)
    else
    (lX_send_c27 x1 x2 x3 (0 : Int) M)))))
set_option maxRecDepth 100000 in
theorem ok_lX_send {sc : zSc} {x1 : Int} {x2 : Int} {x3 : Int} {M : Nat → Nat → Int} {P : Int → (Nat → Nat → Int) → Prop} (h : zS (lX_send x1 x2 x3 M) (fun r => P r.1 r.2)) : zCi sc 132 [.inr (.inr 0), .inl x1, .inl x2, .inl x3] M P := by
  have ea : zarg (zml 132) [.inr (.inr 0), .inl x1, .inl x2, .inl x3] = [some (.inr (.inr 0)), some (.inl x1), some (.inl x2), some (.inl x3), none] := by rw [zm_132]; rfl
  unfold zCi zCw
  rw [ea, zr_132]
  have hq : 5 ≤ 5 := Nat.le_refl _
  unfold lX_send at h
  have h := zS_mono h (fun x hx => (⟨x.1, rfl, hx⟩ : ∃ y, (some (.inl x.1) : Option zV) = some (.inl y) ∧ P y x.2))
  skip
  refine E_aload_n (pc := 0) (zDk zD_132_ok 0 rfl) rfl ?_
  refine E_getR (pc := 1) (ci := 7) (f := 1) (r := 3) (zDk zD_132_ok 1 rfl) zc_132 (by decide +kernel) (by decide) zis_7_0 (by decide +kernel) (by decide) ?_
  refine E_iload_n (pc := 4) (zDk zD_132_ok 2 rfl) rfl ?_
  obtain ⟨v5, e5, h⟩ := zS_bind h
  refine E_virI (pc := 5) (c := 71) (r := 3) (as := [.inl x3]) (rest := []) (zDk zD_132_ok 3 rfl) zc_132 (by decide +kernel) zk_71 ⟨(Nat.le_of_ble_eq_true rfl), rfl, rfl⟩ (Nat.le_of_ble_eq_true rfl) (zr_71 _) (Nat.lt_of_lt_of_le (by decide) hq) (by rw [zm_71]; exact (Nat.le_of_ble_eq_true rfl)) ⟨zc_71, by decide⟩ zis_6_3 (ok_lT_hasStep ⟨v5, e5, ?_⟩)
  refine E_if (pc := 8) (t := 26) (zDk zD_132_ok 4 rfl) rfl (fun hz => ?_) (fun hz => ?_)
  · have h := zS_t h (T_eq hz)
    refine E_iconst (pc := 26) (zDk zD_132_ok 12 rfl) (by decide +kernel) ?_
    exact ok_lX_send_c27 hq x1 x2 x3 (0 : Int) M none h
  · have h := zS_f h (F_eq hz)
    refine E_iload_n (pc := 11) (zDk zD_132_ok 5 rfl) rfl ?_
    refine E_aload_n (pc := 12) (zDk zD_132_ok 6 rfl) rfl ?_
    refine E_getR (pc := 13) (ci := 7) (f := 1) (r := 3) (zDk zD_132_ok 7 rfl) zc_132 (by decide +kernel) (by decide) zis_7_0 (by decide +kernel) (by decide) ?_
    refine E_getI (pc := 16) (ci := 6) (f := 1) (zDk zD_132_ok 8 rfl) zc_132 (by decide +kernel) (by decide) zis_6_3 ?_
    refine E_icmp (pc := 19) (t := 26) (zDk zD_132_ok 9 rfl) rfl (fun hz => ?_) (fun hz => ?_)
    · have h := zS_f h (Int.not_lt.mpr (T_ge hz))
      refine E_iconst (pc := 26) (zDk zD_132_ok 12 rfl) (by decide +kernel) ?_
      exact ok_lX_send_c27 hq x1 x2 x3 (0 : Int) M none h
    · have h := zS_t h (F_ge hz)
      refine E_iconst (pc := 22) (zDk zD_132_ok 10 rfl) (by decide +kernel) ?_
      refine E_goto (pc := 23) (t := 27) (zDk zD_132_ok 11 rfl) rfl ?_
      exact ok_lX_send_c27 hq x1 x2 x3 (1 : Int) M none h
def zD_133 : List (Nat × Instr × Nat) := [(0, .aload_n (0), 1), (1, .getfield (19), 3), (4, .iload_n (1), 1), (5, .invokevirtual (93), 3), (8, .ifCond .eq (12), 3), (11, .iload_n (2), 1), (12, .ifCond .lt (8), 3), (15, .iload_n (2), 1), (16, .iconst (1), 1), (17, .if_icmp .le (6), 3), (20, .bipush (-2), 2), (22, .ireturn, 1), (23, .aload_n (0), 1), (24, .getfield (29), 3), (27, .getfield (313), 3), (30, .bipush (30), 2), (32, .if_icmp .lt (6), 3), (35, .bipush (-5), 2), (37, .ireturn, 1), (38, .aload_n (0), 1), (39, .getfield (29), 3), (42, .getfield (103), 3), (45, .iload_n (1), 1), (46, .ishr, 1), (47, .iconst (1), 1), (48, .iand, 1), (49, .istore_n (3), 1), (50, .aload_n (0), 1), (51, .getfield (29), 3), (54, .iconst (1), 1), (55, .iload_n (1), 1), (56, .iload_n (2), 1), (57, .iconst (0), 1), (58, .invokevirtual (316), 3), (61, .aload_n (0), 1), (62, .invokevirtual (84), 3), (65, .iload_n (3), 1), (66, .ireturn, 1)]
set_option maxRecDepth 100000 in
theorem zD_133_ok : zDo 133 zD_133 = true := by decide +kernel
theorem zc_133 : zcls 133 = 7 := by decide +kernel
theorem zm_133 : zml 133 = 4 := by decide +kernel
theorem zt_133 : zrt 133 = (some (.int)) := by decide +kernel
theorem zk_133 : zkd 133 = 1 ∧ znp 133 + 1 = 3 := by decide +kernel
theorem zr_133 (as : List zV) : zrk 133 as = 5 := by unfold zrk; rw [if_neg (by decide)]; decide +kernel
def lX_close (x1 : Int) (x2 : Int) (M : Nat → Nat → Int) : Option (Int × (Nat → Nat → Int)) :=
    ((lT_hasStreet 3 x1 M).bind (fun v5 =>
    (if v5 = 0 then
    (some ((-2 : Int), M))
    else
    (if x2 < 0 then
    (some ((-2 : Int), M))
    else
    (if (1 : Int) < x2 then
    (some ((-2 : Int), M))
    else
    (if (M 23 0) < (30 : Int) then
    ((lA_add 23 (1 : Int) x1 x2 (0 : Int) M).bind (fun M58 =>
    ((lX_settle M58).bind (fun M62 =>
    (some ((zand (zshr (M 23 1) x1) (1 : Int)), M62))))))
    else
    (some ((-5 : Int), M))))))))
set_option maxRecDepth 100000 in
theorem ok_lX_close {sc : zSc} {x1 : Int} {x2 : Int} {M : Nat → Nat → Int} {P : Int → (Nat → Nat → Int) → Prop} (h : zS (lX_close x1 x2 M) (fun r => P r.1 r.2)) : zCi sc 133 [.inr (.inr 0), .inl x1, .inl x2] M P := by
  have ea : zarg (zml 133) [.inr (.inr 0), .inl x1, .inl x2] = [some (.inr (.inr 0)), some (.inl x1), some (.inl x2), none] := by rw [zm_133]; rfl
  unfold zCi zCw
  rw [ea, zr_133]
  have hq : 5 ≤ 5 := Nat.le_refl _
  unfold lX_close at h
  have h := zS_mono h (fun x hx => (⟨x.1, rfl, hx⟩ : ∃ y, (some (.inl x.1) : Option zV) = some (.inl y) ∧ P y x.2))
  skip
  refine E_aload_n (pc := 0) (zDk zD_133_ok 0 rfl) rfl ?_
  refine E_getR (pc := 1) (ci := 7) (f := 1) (r := 3) (zDk zD_133_ok 1 rfl) zc_133 (by decide +kernel) (by decide) zis_7_0 (by decide +kernel) (by decide) ?_
  refine E_iload_n (pc := 4) (zDk zD_133_ok 2 rfl) rfl ?_
  obtain ⟨v5, e5, h⟩ := zS_bind h
  refine E_virI (pc := 5) (c := 72) (r := 3) (as := [.inl x1]) (rest := []) (zDk zD_133_ok 3 rfl) zc_133 (by decide +kernel) zk_72 ⟨(Nat.le_of_ble_eq_true rfl), rfl, rfl⟩ (Nat.le_of_ble_eq_true rfl) (zr_72 _) (Nat.lt_of_lt_of_le (by decide) hq) (by rw [zm_72]; exact (Nat.le_of_ble_eq_true rfl)) ⟨zc_72, by decide⟩ zis_6_3 (ok_lT_hasStreet ⟨v5, e5, ?_⟩)
  refine E_if (pc := 8) (t := 20) (zDk zD_133_ok 4 rfl) rfl (fun hz => ?_) (fun hz => ?_)
  · have h := zS_t h (T_eq hz)
    refine E_bipush (pc := 20) (zDk zD_133_ok 10 rfl) (by decide +kernel) ?_
    have h := zS_some h
    exact E_ireturn (pc := 22) (zDk zD_133_ok 11 rfl) zt_133 h
  · have h := zS_f h (F_eq hz)
    refine E_iload_n (pc := 11) (zDk zD_133_ok 5 rfl) rfl ?_
    refine E_if (pc := 12) (t := 20) (zDk zD_133_ok 6 rfl) rfl (fun hz => ?_) (fun hz => ?_)
    · have h := zS_t h (T_lt hz)
      refine E_bipush (pc := 20) (zDk zD_133_ok 10 rfl) (by decide +kernel) ?_
      have h := zS_some h
      exact E_ireturn (pc := 22) (zDk zD_133_ok 11 rfl) zt_133 h
    · have h := zS_f h (Int.not_lt.mpr (F_lt hz))
      refine E_iload_n (pc := 15) (zDk zD_133_ok 7 rfl) rfl ?_
      refine E_iconst (pc := 16) (zDk zD_133_ok 8 rfl) (by decide +kernel) ?_
      refine E_icmp (pc := 17) (t := 23) (zDk zD_133_ok 9 rfl) rfl (fun hz => ?_) (fun hz => ?_)
      · have h := zS_f h (Int.not_lt.mpr (T_le hz))
        refine E_aload_n (pc := 23) (zDk zD_133_ok 12 rfl) rfl ?_
        refine E_getR (pc := 24) (ci := 7) (f := 3) (r := 23) (zDk zD_133_ok 13 rfl) zc_133 (by decide +kernel) (by decide) zis_7_0 (by decide +kernel) (by decide) ?_
        refine E_getI (pc := 27) (ci := 0) (f := 0) (zDk zD_133_ok 14 rfl) zc_133 (by decide +kernel) (by decide) zis_0_23 ?_
        refine E_bipush (pc := 30) (zDk zD_133_ok 15 rfl) (by decide +kernel) ?_
        refine E_icmp (pc := 32) (t := 38) (zDk zD_133_ok 16 rfl) rfl (fun hz => ?_) (fun hz => ?_)
        · have h := zS_t h (T_lt hz)
          refine E_aload_n (pc := 38) (zDk zD_133_ok 19 rfl) rfl ?_
          refine E_getR (pc := 39) (ci := 7) (f := 3) (r := 23) (zDk zD_133_ok 20 rfl) zc_133 (by decide +kernel) (by decide) zis_7_0 (by decide +kernel) (by decide) ?_
          refine E_getI (pc := 42) (ci := 0) (f := 1) (zDk zD_133_ok 21 rfl) zc_133 (by decide +kernel) (by decide) zis_0_23 ?_
          refine E_iload_n (pc := 45) (zDk zD_133_ok 22 rfl) rfl ?_
          refine E_ishr (pc := 46) (zDk zD_133_ok 23 rfl) ?_
          refine E_iconst (pc := 47) (zDk zD_133_ok 24 rfl) (by decide +kernel) ?_
          refine E_iand (pc := 48) (zDk zD_133_ok 25 rfl) ?_
          refine W_istore_n (pc := 49) (L' := [some (.inr (.inr 0)), some (.inl x1), some (.inl x2), some (.inl (zand (zshr (M 23 1) x1) (1 : Int)))]) (zDk zD_133_ok 26 rfl) zm_133 (by decide) rfl ?_
          refine E_aload_n (pc := 50) (zDk zD_133_ok 27 rfl) rfl ?_
          refine E_getR (pc := 51) (ci := 7) (f := 3) (r := 23) (zDk zD_133_ok 28 rfl) zc_133 (by decide +kernel) (by decide) zis_7_0 (by decide +kernel) (by decide) ?_
          refine E_iconst (pc := 54) (zDk zD_133_ok 29 rfl) (by decide +kernel) ?_
          refine E_iload_n (pc := 55) (zDk zD_133_ok 30 rfl) rfl ?_
          refine E_iload_n (pc := 56) (zDk zD_133_ok 31 rfl) rfl ?_
          refine E_iconst (pc := 57) (zDk zD_133_ok 32 rfl) (by decide +kernel) ?_
          obtain ⟨M58, e58, h⟩ := zS_bind h
          refine E_virV (pc := 58) (c := 1) (r := 23) (as := [.inl (1 : Int), .inl x1, .inl x2, .inl (0 : Int)]) (rest := []) (zDk zD_133_ok 33 rfl) zc_133 (by decide +kernel) zk_1 ⟨(Nat.le_of_ble_eq_true rfl), rfl, rfl⟩ (Nat.le_of_ble_eq_true rfl) (zr_1 _) (Nat.lt_of_lt_of_le (by decide) hq) (by rw [zm_1]; exact (Nat.le_of_ble_eq_true rfl)) ⟨zc_1, by decide⟩ zis_0_23 (ok_lA_add ⟨M58, e58, ?_⟩)
          refine E_aload_n (pc := 61) (zDk zD_133_ok 34 rfl) rfl ?_
          obtain ⟨M62, e62, h⟩ := zS_bind h
          refine E_virV (pc := 62) (c := 145) (r := 0) (as := []) (rest := []) (zDk zD_133_ok 35 rfl) zc_133 (by decide +kernel) zk_145 ⟨(Nat.le_of_ble_eq_true rfl), rfl, rfl⟩ (Nat.le_of_ble_eq_true rfl) (zr_145 _) (Nat.lt_of_lt_of_le (by decide) hq) (by rw [zm_145]; exact (Nat.le_of_ble_eq_true rfl)) ⟨zc_145, by decide⟩ zis_7_0 (ok_lX_settle ⟨M62, e62, ?_⟩)
          refine E_iload_n (pc := 65) (zDk zD_133_ok 36 rfl) rfl ?_
          have h := zS_some h
          exact E_ireturn (pc := 66) (zDk zD_133_ok 37 rfl) zt_133 h
        · have h := zS_f h (Int.not_lt.mpr (F_lt hz))
          refine E_bipush (pc := 35) (zDk zD_133_ok 17 rfl) (by decide +kernel) ?_
          have h := zS_some h
          exact E_ireturn (pc := 37) (zDk zD_133_ok 18 rfl) zt_133 h
      · have h := zS_t h (F_le hz)
        refine E_bipush (pc := 20) (zDk zD_133_ok 10 rfl) (by decide +kernel) ?_
        have h := zS_some h
        exact E_ireturn (pc := 22) (zDk zD_133_ok 11 rfl) zt_133 h
def zD_134 : List (Nat × Instr × Nat) := [(0, .aload_n (0), 1), (1, .getfield (19), 3), (4, .invokevirtual (194), 3), (7, .ifCond .ne (6), 3), (10, .bipush (-2), 2), (12, .ireturn, 1), (13, .aload_n (0), 1), (14, .getfield (29), 3), (17, .getfield (313), 3), (20, .ifCond .ne (6), 3), (23, .bipush (-5), 2), (25, .ireturn, 1), (26, .aload_n (0), 1), (27, .getfield (29), 3), (30, .invokevirtual (320), 3), (33, .aload_n (0), 1), (34, .invokevirtual (84), 3), (37, .aload_n (0), 1), (38, .getfield (29), 3), (41, .getfield (313), 3), (44, .ireturn, 1)]
set_option maxRecDepth 100000 in
theorem zD_134_ok : zDo 134 zD_134 = true := by decide +kernel
theorem zc_134 : zcls 134 = 7 := by decide +kernel
theorem zm_134 : zml 134 = 1 := by decide +kernel
theorem zt_134 : zrt 134 = (some (.int)) := by decide +kernel
theorem zk_134 : zkd 134 = 1 ∧ znp 134 + 1 = 1 := by decide +kernel
theorem zr_134 (as : List zV) : zrk 134 as = 5 := by unfold zrk; rw [if_neg (by decide)]; decide +kernel
def lX_undo (M : Nat → Nat → Int) : Option (Int × (Nat → Nat → Int)) :=
    ((lT_isThere 3 M).bind (fun v4 =>
    (if v4 = 0 then
    (some ((-2 : Int), M))
    else
    (if (M 23 0) = 0 then
    (some ((-5 : Int), M))
    else
    ((lA_removeLast 23 M).bind (fun M30 =>
    ((lX_settle M30).bind (fun M34 =>
    (some ((M34 23 0), M34))))))))))
set_option maxRecDepth 100000 in
theorem ok_lX_undo {sc : zSc} {M : Nat → Nat → Int} {P : Int → (Nat → Nat → Int) → Prop} (h : zS (lX_undo M) (fun r => P r.1 r.2)) : zCi sc 134 [.inr (.inr 0)] M P := by
  have ea : zarg (zml 134) [.inr (.inr 0)] = [some (.inr (.inr 0))] := by rw [zm_134]; rfl
  unfold zCi zCw
  rw [ea, zr_134]
  have hq : 5 ≤ 5 := Nat.le_refl _
  unfold lX_undo at h
  have h := zS_mono h (fun x hx => (⟨x.1, rfl, hx⟩ : ∃ y, (some (.inl x.1) : Option zV) = some (.inl y) ∧ P y x.2))
  skip
  refine E_aload_n (pc := 0) (zDk zD_134_ok 0 rfl) rfl ?_
  refine E_getR (pc := 1) (ci := 7) (f := 1) (r := 3) (zDk zD_134_ok 1 rfl) zc_134 (by decide +kernel) (by decide) zis_7_0 (by decide +kernel) (by decide) ?_
  obtain ⟨v4, e4, h⟩ := zS_bind h
  refine E_virI (pc := 4) (c := 69) (r := 3) (as := []) (rest := []) (zDk zD_134_ok 2 rfl) zc_134 (by decide +kernel) zk_69 ⟨(Nat.le_of_ble_eq_true rfl), rfl, rfl⟩ (Nat.le_of_ble_eq_true rfl) (zr_69 _) (Nat.lt_of_lt_of_le (by decide) hq) (by rw [zm_69]; exact (Nat.le_of_ble_eq_true rfl)) ⟨zc_69, by decide⟩ zis_6_3 (ok_lT_isThere ⟨v4, e4, ?_⟩)
  refine E_if (pc := 7) (t := 13) (zDk zD_134_ok 3 rfl) rfl (fun hz => ?_) (fun hz => ?_)
  · have h := zS_f h (T_ne hz)
    refine E_aload_n (pc := 13) (zDk zD_134_ok 6 rfl) rfl ?_
    refine E_getR (pc := 14) (ci := 7) (f := 3) (r := 23) (zDk zD_134_ok 7 rfl) zc_134 (by decide +kernel) (by decide) zis_7_0 (by decide +kernel) (by decide) ?_
    refine E_getI (pc := 17) (ci := 0) (f := 0) (zDk zD_134_ok 8 rfl) zc_134 (by decide +kernel) (by decide) zis_0_23 ?_
    refine E_if (pc := 20) (t := 26) (zDk zD_134_ok 9 rfl) rfl (fun hz => ?_) (fun hz => ?_)
    · have h := zS_f h (T_ne hz)
      refine E_aload_n (pc := 26) (zDk zD_134_ok 12 rfl) rfl ?_
      refine E_getR (pc := 27) (ci := 7) (f := 3) (r := 23) (zDk zD_134_ok 13 rfl) zc_134 (by decide +kernel) (by decide) zis_7_0 (by decide +kernel) (by decide) ?_
      obtain ⟨M30, e30, h⟩ := zS_bind h
      refine E_virV (pc := 30) (c := 2) (r := 23) (as := []) (rest := []) (zDk zD_134_ok 14 rfl) zc_134 (by decide +kernel) zk_2 ⟨(Nat.le_of_ble_eq_true rfl), rfl, rfl⟩ (Nat.le_of_ble_eq_true rfl) (zr_2 _) (Nat.lt_of_lt_of_le (by decide) hq) (by rw [zm_2]; exact (Nat.le_of_ble_eq_true rfl)) ⟨zc_2, by decide⟩ zis_0_23 (ok_lA_removeLast ⟨M30, e30, ?_⟩)
      refine E_aload_n (pc := 33) (zDk zD_134_ok 15 rfl) rfl ?_
      obtain ⟨M34, e34, h⟩ := zS_bind h
      refine E_virV (pc := 34) (c := 145) (r := 0) (as := []) (rest := []) (zDk zD_134_ok 16 rfl) zc_134 (by decide +kernel) zk_145 ⟨(Nat.le_of_ble_eq_true rfl), rfl, rfl⟩ (Nat.le_of_ble_eq_true rfl) (zr_145 _) (Nat.lt_of_lt_of_le (by decide) hq) (by rw [zm_145]; exact (Nat.le_of_ble_eq_true rfl)) ⟨zc_145, by decide⟩ zis_7_0 (ok_lX_settle ⟨M34, e34, ?_⟩)
      refine E_aload_n (pc := 37) (zDk zD_134_ok 17 rfl) rfl ?_
      refine E_getR (pc := 38) (ci := 7) (f := 3) (r := 23) (zDk zD_134_ok 18 rfl) zc_134 (by decide +kernel) (by decide) zis_7_0 (by decide +kernel) (by decide) ?_
      refine E_getI (pc := 41) (ci := 0) (f := 0) (zDk zD_134_ok 19 rfl) zc_134 (by decide +kernel) (by decide) zis_0_23 ?_
      have h := zS_some h
      exact E_ireturn (pc := 44) (zDk zD_134_ok 20 rfl) zt_134 h
    · have h := zS_t h (F_ne hz)
      refine E_bipush (pc := 23) (zDk zD_134_ok 10 rfl) (by decide +kernel) ?_
      have h := zS_some h
      exact E_ireturn (pc := 25) (zDk zD_134_ok 11 rfl) zt_134 h
  · have h := zS_t h (F_ne hz)
    refine E_bipush (pc := 10) (zDk zD_134_ok 4 rfl) (by decide +kernel) ?_
    have h := zS_some h
    exact E_ireturn (pc := 12) (zDk zD_134_ok 5 rfl) zt_134 h
def zD_135 : List (Nat × Instr × Nat) := [(0, .aload_n (0), 1), (1, .getfield (19), 3), (4, .invokevirtual (194), 3), (7, .ifCond .ne (6), 3), (10, .bipush (-2), 2), (12, .ireturn, 1), (13, .aload_n (0), 1), (14, .getfield (29), 3), (17, .getfield (313), 3), (20, .istore_n (1), 1), (21, .aload_n (0), 1), (22, .getfield (29), 3), (25, .invokevirtual (81), 3), (28, .aload_n (0), 1), (29, .invokevirtual (84), 3), (32, .iload_n (1), 1), (33, .ireturn, 1)]
set_option maxRecDepth 100000 in
theorem zD_135_ok : zDo 135 zD_135 = true := by decide +kernel
theorem zc_135 : zcls 135 = 7 := by decide +kernel
theorem zm_135 : zml 135 = 2 := by decide +kernel
theorem zt_135 : zrt 135 = (some (.int)) := by decide +kernel
theorem zk_135 : zkd 135 = 1 ∧ znp 135 + 1 = 1 := by decide +kernel
theorem zr_135 (as : List zV) : zrk 135 as = 5 := by unfold zrk; rw [if_neg (by decide)]; decide +kernel
def lX_anew (M : Nat → Nat → Int) : Option (Int × (Nat → Nat → Int)) :=
    ((lT_isThere 3 M).bind (fun v4 =>
    (if v4 = 0 then
    (some ((-2 : Int), M))
    else
    ((lA_removeAll 23 M).bind (fun M25 =>
    ((lX_settle M25).bind (fun M29 =>
    (some ((M 23 0), M29)))))))))
set_option maxRecDepth 100000 in
theorem ok_lX_anew {sc : zSc} {M : Nat → Nat → Int} {P : Int → (Nat → Nat → Int) → Prop} (h : zS (lX_anew M) (fun r => P r.1 r.2)) : zCi sc 135 [.inr (.inr 0)] M P := by
  have ea : zarg (zml 135) [.inr (.inr 0)] = [some (.inr (.inr 0)), none] := by rw [zm_135]; rfl
  unfold zCi zCw
  rw [ea, zr_135]
  have hq : 5 ≤ 5 := Nat.le_refl _
  unfold lX_anew at h
  have h := zS_mono h (fun x hx => (⟨x.1, rfl, hx⟩ : ∃ y, (some (.inl x.1) : Option zV) = some (.inl y) ∧ P y x.2))
  skip
  refine E_aload_n (pc := 0) (zDk zD_135_ok 0 rfl) rfl ?_
  refine E_getR (pc := 1) (ci := 7) (f := 1) (r := 3) (zDk zD_135_ok 1 rfl) zc_135 (by decide +kernel) (by decide) zis_7_0 (by decide +kernel) (by decide) ?_
  obtain ⟨v4, e4, h⟩ := zS_bind h
  refine E_virI (pc := 4) (c := 69) (r := 3) (as := []) (rest := []) (zDk zD_135_ok 2 rfl) zc_135 (by decide +kernel) zk_69 ⟨(Nat.le_of_ble_eq_true rfl), rfl, rfl⟩ (Nat.le_of_ble_eq_true rfl) (zr_69 _) (Nat.lt_of_lt_of_le (by decide) hq) (by rw [zm_69]; exact (Nat.le_of_ble_eq_true rfl)) ⟨zc_69, by decide⟩ zis_6_3 (ok_lT_isThere ⟨v4, e4, ?_⟩)
  refine E_if (pc := 7) (t := 13) (zDk zD_135_ok 3 rfl) rfl (fun hz => ?_) (fun hz => ?_)
  · have h := zS_f h (T_ne hz)
    refine E_aload_n (pc := 13) (zDk zD_135_ok 6 rfl) rfl ?_
    refine E_getR (pc := 14) (ci := 7) (f := 3) (r := 23) (zDk zD_135_ok 7 rfl) zc_135 (by decide +kernel) (by decide) zis_7_0 (by decide +kernel) (by decide) ?_
    refine E_getI (pc := 17) (ci := 0) (f := 0) (zDk zD_135_ok 8 rfl) zc_135 (by decide +kernel) (by decide) zis_0_23 ?_
    refine W_istore_n (pc := 20) (L' := [some (.inr (.inr 0)), some (.inl (M 23 0))]) (zDk zD_135_ok 9 rfl) zm_135 (by decide) rfl ?_
    refine E_aload_n (pc := 21) (zDk zD_135_ok 10 rfl) rfl ?_
    refine E_getR (pc := 22) (ci := 7) (f := 3) (r := 23) (zDk zD_135_ok 11 rfl) zc_135 (by decide +kernel) (by decide) zis_7_0 (by decide +kernel) (by decide) ?_
    obtain ⟨M25, e25, h⟩ := zS_bind h
    refine E_virV (pc := 25) (c := 3) (r := 23) (as := []) (rest := []) (zDk zD_135_ok 12 rfl) zc_135 (by decide +kernel) zk_3 ⟨(Nat.le_of_ble_eq_true rfl), rfl, rfl⟩ (Nat.le_of_ble_eq_true rfl) (zr_3 _) (Nat.lt_of_lt_of_le (by decide) hq) (by rw [zm_3]; exact (Nat.le_of_ble_eq_true rfl)) ⟨zc_3, by decide⟩ zis_0_23 (ok_lA_removeAll ⟨M25, e25, ?_⟩)
    refine E_aload_n (pc := 28) (zDk zD_135_ok 13 rfl) rfl ?_
    obtain ⟨M29, e29, h⟩ := zS_bind h
    refine E_virV (pc := 29) (c := 145) (r := 0) (as := []) (rest := []) (zDk zD_135_ok 14 rfl) zc_135 (by decide +kernel) zk_145 ⟨(Nat.le_of_ble_eq_true rfl), rfl, rfl⟩ (Nat.le_of_ble_eq_true rfl) (zr_145 _) (Nat.lt_of_lt_of_le (by decide) hq) (by rw [zm_145]; exact (Nat.le_of_ble_eq_true rfl)) ⟨zc_145, by decide⟩ zis_7_0 (ok_lX_settle ⟨M29, e29, ?_⟩)
    refine E_iload_n (pc := 32) (zDk zD_135_ok 15 rfl) rfl ?_
    have h := zS_some h
    exact E_ireturn (pc := 33) (zDk zD_135_ok 16 rfl) zt_135 h
  · have h := zS_t h (F_ne hz)
    refine E_bipush (pc := 10) (zDk zD_135_ok 4 rfl) (by decide +kernel) ?_
    have h := zS_some h
    exact E_ireturn (pc := 12) (zDk zD_135_ok 5 rfl) zt_135 h
def zD_136 : List (Nat × Instr × Nat) := [(0, .aload_n (0), 1), (1, .getfield (19), 3), (4, .invokevirtual (194), 3), (7, .ifCond .eq (19), 3), (10, .iload_n (1), 1), (11, .invokestatic (323), 3), (14, .ifCond .eq (12), 3), (17, .iload_n (2), 1), (18, .ifCond .lt (8), 3), (21, .iload_n (2), 1), (22, .iconst (1), 1), (23, .if_icmp .le (6), 3), (26, .bipush (-2), 2), (28, .ireturn, 1), (29, .aload_n (0), 1), (30, .iload_n (1), 1), (31, .invokevirtual (326), 3), (34, .istore_n (3), 1), (35, .iload_n (2), 1), (36, .ifCond .ne (7), 3), (39, .iload_n (3), 1), (40, .goto (8), 3), (43, .aload_n (0), 1), (44, .iload_n (3), 1), (45, .invokevirtual (329), 3), (48, .ireturn, 1)]
set_option maxRecDepth 100000 in
theorem zD_136_ok : zDo 136 zD_136 = true := by decide +kernel
theorem zc_136 : zcls 136 = 7 := by decide +kernel
theorem zm_136 : zml 136 = 4 := by decide +kernel
theorem zt_136 : zrt 136 = (some (.int)) := by decide +kernel
theorem zk_136 : zkd 136 = 1 ∧ znp 136 + 1 = 3 := by decide +kernel
theorem zr_136 (as : List zV) : zrk 136 as = 5 := by unfold zrk; rw [if_neg (by decide)]; decide +kernel
def lX_drawn (x1 : Int) (x2 : Int) (M : Nat → Nat → Int) : Option (Int × (Nat → Nat → Int)) :=
    ((lT_isThere 3 M).bind (fun v4 =>
    (if v4 = 0 then
    (some ((-2 : Int), M))
    else
    ((lX_isSeed x1 M).bind (fun v11 =>
    (if v11 = 0 then
    (some ((-2 : Int), M))
    else
    (if x2 < 0 then
    (some ((-2 : Int), M))
    else
    (if (1 : Int) < x2 then
    (some ((-2 : Int), M))
    else
    ((lX_rainDrawn x1 M).bind (fun v31 =>
    (if x2 = 0 then
    (some (v31, M))
    else
    ((lX_signedInRain v31 M).bind (fun r45_ =>
    (some (r45_.1, r45_.2)))))))))))))))
set_option maxRecDepth 100000 in
theorem ok_lX_drawn {sc : zSc} {x1 : Int} {x2 : Int} {M : Nat → Nat → Int} {P : Int → (Nat → Nat → Int) → Prop} (h : zS (lX_drawn x1 x2 M) (fun r => P r.1 r.2)) : zCi sc 136 [.inr (.inr 0), .inl x1, .inl x2] M P := by
  have ea : zarg (zml 136) [.inr (.inr 0), .inl x1, .inl x2] = [some (.inr (.inr 0)), some (.inl x1), some (.inl x2), none] := by rw [zm_136]; rfl
  unfold zCi zCw
  rw [ea, zr_136]
  have hq : 5 ≤ 5 := Nat.le_refl _
  unfold lX_drawn at h
  have h := zS_mono h (fun x hx => (⟨x.1, rfl, hx⟩ : ∃ y, (some (.inl x.1) : Option zV) = some (.inl y) ∧ P y x.2))
  skip
  refine E_aload_n (pc := 0) (zDk zD_136_ok 0 rfl) rfl ?_
  refine E_getR (pc := 1) (ci := 7) (f := 1) (r := 3) (zDk zD_136_ok 1 rfl) zc_136 (by decide +kernel) (by decide) zis_7_0 (by decide +kernel) (by decide) ?_
  obtain ⟨v4, e4, h⟩ := zS_bind h
  refine E_virI (pc := 4) (c := 69) (r := 3) (as := []) (rest := []) (zDk zD_136_ok 2 rfl) zc_136 (by decide +kernel) zk_69 ⟨(Nat.le_of_ble_eq_true rfl), rfl, rfl⟩ (Nat.le_of_ble_eq_true rfl) (zr_69 _) (Nat.lt_of_lt_of_le (by decide) hq) (by rw [zm_69]; exact (Nat.le_of_ble_eq_true rfl)) ⟨zc_69, by decide⟩ zis_6_3 (ok_lT_isThere ⟨v4, e4, ?_⟩)
  refine E_if (pc := 7) (t := 26) (zDk zD_136_ok 3 rfl) rfl (fun hz => ?_) (fun hz => ?_)
  · have h := zS_t h (T_eq hz)
    refine E_bipush (pc := 26) (zDk zD_136_ok 12 rfl) (by decide +kernel) ?_
    have h := zS_some h
    exact E_ireturn (pc := 28) (zDk zD_136_ok 13 rfl) zt_136 h
  · have h := zS_f h (F_eq hz)
    refine E_iload_n (pc := 10) (zDk zD_136_ok 4 rfl) rfl ?_
    obtain ⟨v11, e11, h⟩ := zS_bind h
    refine E_staI (pc := 11) (c := 172) (as := [.inl x1]) (rest := []) (zDk zD_136_ok 5 rfl) zc_136 (by decide +kernel) (by decide +kernel) zk_172 ⟨(Nat.le_of_ble_eq_true rfl), rfl, rfl⟩ (Nat.le_of_ble_eq_true rfl) (zr_172 _) (Nat.lt_of_lt_of_le (by decide) hq) (by rw [zm_172]; exact (Nat.le_of_ble_eq_true rfl)) (ok_lX_isSeed ⟨v11, e11, ?_⟩)
    refine E_if (pc := 14) (t := 26) (zDk zD_136_ok 6 rfl) rfl (fun hz => ?_) (fun hz => ?_)
    · have h := zS_t h (T_eq hz)
      refine E_bipush (pc := 26) (zDk zD_136_ok 12 rfl) (by decide +kernel) ?_
      have h := zS_some h
      exact E_ireturn (pc := 28) (zDk zD_136_ok 13 rfl) zt_136 h
    · have h := zS_f h (F_eq hz)
      refine E_iload_n (pc := 17) (zDk zD_136_ok 7 rfl) rfl ?_
      refine E_if (pc := 18) (t := 26) (zDk zD_136_ok 8 rfl) rfl (fun hz => ?_) (fun hz => ?_)
      · have h := zS_t h (T_lt hz)
        refine E_bipush (pc := 26) (zDk zD_136_ok 12 rfl) (by decide +kernel) ?_
        have h := zS_some h
        exact E_ireturn (pc := 28) (zDk zD_136_ok 13 rfl) zt_136 h
      · have h := zS_f h (Int.not_lt.mpr (F_lt hz))
        refine E_iload_n (pc := 21) (zDk zD_136_ok 9 rfl) rfl ?_
        refine E_iconst (pc := 22) (zDk zD_136_ok 10 rfl) (by decide +kernel) ?_
        refine E_icmp (pc := 23) (t := 29) (zDk zD_136_ok 11 rfl) rfl (fun hz => ?_) (fun hz => ?_)
        · have h := zS_f h (Int.not_lt.mpr (T_le hz))
          refine E_aload_n (pc := 29) (zDk zD_136_ok 14 rfl) rfl ?_
          refine E_iload_n (pc := 30) (zDk zD_136_ok 15 rfl) rfl ?_
          obtain ⟨v31, e31, h⟩ := zS_bind h
          refine E_virI (pc := 31) (c := 173) (r := 0) (as := [.inl x1]) (rest := []) (zDk zD_136_ok 16 rfl) zc_136 (by decide +kernel) zk_173 ⟨(Nat.le_of_ble_eq_true rfl), rfl, rfl⟩ (Nat.le_of_ble_eq_true rfl) (zr_173 _) (Nat.lt_of_lt_of_le (by decide) hq) (by rw [zm_173]; exact (Nat.le_of_ble_eq_true rfl)) ⟨zc_173, by decide⟩ zis_7_0 (ok_lX_rainDrawn ⟨v31, e31, ?_⟩)
          refine W_istore_n (pc := 34) (L' := [some (.inr (.inr 0)), some (.inl x1), some (.inl x2), some (.inl v31)]) (zDk zD_136_ok 17 rfl) zm_136 (by decide) rfl ?_
          refine E_iload_n (pc := 35) (zDk zD_136_ok 18 rfl) rfl ?_
          refine E_if (pc := 36) (t := 43) (zDk zD_136_ok 19 rfl) rfl (fun hz => ?_) (fun hz => ?_)
          · have h := zS_f h (T_ne hz)
            refine E_aload_n (pc := 43) (zDk zD_136_ok 22 rfl) rfl ?_
            refine E_iload_n (pc := 44) (zDk zD_136_ok 23 rfl) rfl ?_
            obtain ⟨r45_, e45, h⟩ := zS_bind h
            refine E_virI (pc := 45) (c := 174) (r := 0) (as := [.inl v31]) (rest := []) (zDk zD_136_ok 24 rfl) zc_136 (by decide +kernel) zk_174 ⟨(Nat.le_of_ble_eq_true rfl), rfl, rfl⟩ (Nat.le_of_ble_eq_true rfl) (zr_174 _) (Nat.lt_of_lt_of_le (by decide) hq) (by rw [zm_174]; exact (Nat.le_of_ble_eq_true rfl)) ⟨zc_174, by decide⟩ zis_7_0 (ok_lX_signedInRain ⟨r45_, e45, ?_⟩)
            have h := zS_some h
            exact E_ireturn (pc := 48) (zDk zD_136_ok 25 rfl) zt_136 h
          · have h := zS_t h (F_ne hz)
            refine E_iload_n (pc := 39) (zDk zD_136_ok 20 rfl) rfl ?_
            refine E_goto (pc := 40) (t := 48) (zDk zD_136_ok 21 rfl) rfl ?_
            have h := zS_some h
            exact E_ireturn (pc := 48) (zDk zD_136_ok 25 rfl) zt_136 h
        · have h := zS_t h (F_le hz)
          refine E_bipush (pc := 26) (zDk zD_136_ok 12 rfl) (by decide +kernel) ?_
          have h := zS_some h
          exact E_ireturn (pc := 28) (zDk zD_136_ok 13 rfl) zt_136 h
def zD_137 : List (Nat × Instr × Nat) := [(0, .aload_n (0), 1), (1, .getfield (19), 3), (4, .iload_n (3), 1), (5, .invokevirtual (130), 3), (8, .ifCond .eq (21), 3), (11, .iload_n (1), 1), (12, .invokestatic (323), 3), (15, .ifCond .eq (14), 3), (18, .iload_n (2), 1), (19, .iconst (1), 1), (20, .if_icmp .lt (9), 3), (23, .iload_n (2), 1), (24, .bipush (20), 2), (26, .if_icmp .le (6), 3), (29, .bipush (-2), 2), (31, .ireturn, 1), (32, .iconst (0), 1), (33, .istore (4), 2), (35, .iconst (0), 1), (36, .istore (5), 2), (38, .iload (5), 2), (40, .iload_n (2), 1), (41, .if_icmp .ge (30), 3), (44, .iload (4), 2), (46, .aload_n (0), 1), (47, .aload_n (0), 1), (48, .iload_n (1), 1), (49, .iload (5), 2), (51, .iadd, 1), (52, .invokevirtual (326), 3), (55, .invokevirtual (329), 3), (58, .iload_n (3), 1), (59, .ishr, 1), (60, .iconst (1), 1), (61, .iand, 1), (62, .iadd, 1), (63, .istore (4), 2), (65, .iinc (5) (1), 3), (68, .goto (-30), 3), (71, .iload (4), 2), (73, .ireturn, 1)]
set_option maxRecDepth 100000 in
theorem zD_137_ok : zDo 137 zD_137 = true := by decide +kernel
theorem zc_137 : zcls 137 = 7 := by decide +kernel
theorem zm_137 : zml 137 = 6 := by decide +kernel
theorem zt_137 : zrt 137 = (some (.int)) := by decide +kernel
theorem zk_137 : zkd 137 = 1 ∧ znp 137 + 1 = 4 := by decide +kernel
theorem zr_137 (as : List zV) : zrk 137 as = 5 := by unfold zrk; rw [if_neg (by decide)]; decide +kernel
def lX_luck_c38 (x1 : Int) (x2 : Int) (x3 : Int) : Nat → Int → Int → (Nat → Nat → Int) → Option (Int × (Nat → Nat → Int))
  | 0, _, _, _ => none
  | n + 1, y4, y5, M =>
    (if y5 < x2 then
    ((lX_rainDrawn (w32 (x1 + y5)) M).bind (fun v52 =>
    ((lX_signedInRain v52 M).bind (fun r55_ =>
    ((lX_luck_c38 x1 x2 x3 n) (w32 (y4 + (zand (zshr r55_.1 x3) (1 : Int)))) (w32 (y5 + 1)) r55_.2)))))
    else
    (some (y4, M)))
set_option maxRecDepth 100000 in
theorem ok_lX_luck_c38 {sc : zSc} {q : Nat} {P : Option zV → (Nat → Nat → Int) → Prop} (hq : 5 ≤ q) (x1 : Int) (x2 : Int) (x3 : Int) : ∀ (n : Nat) (y4 : Int) (y5 : Int) (M : Nat → Nat → Int), zS (lX_luck_c38 x1 x2 x3 n y4 y5 M) (fun r => P (some (.inl r.1)) r.2) → zWp sc q 137 38 [some (.inr (.inr 0)), some (.inl x1), some (.inl x2), some (.inl x3), some (.inl y4), some (.inl y5)] [] M P := by
  intro n
  induction n with
  | zero => intro y4 y5 M h; exact (zS_none h).elim
  | succ n ih =>
    intro y4 y5 M h
    rw [lX_luck_c38] at h
    refine E_iload (pc := 38) (zDk zD_137_ok 20 rfl) rfl ?_
    refine E_iload_n (pc := 40) (zDk zD_137_ok 21 rfl) rfl ?_
    refine E_icmp (pc := 41) (t := 71) (zDk zD_137_ok 22 rfl) rfl (fun hz => ?_) (fun hz => ?_)
    · have h := zS_f h (Int.not_lt.mpr (T_ge hz))
      refine E_iload (pc := 71) (zDk zD_137_ok 39 rfl) rfl ?_
      have h := zS_some h
      exact E_ireturn (pc := 73) (zDk zD_137_ok 40 rfl) zt_137 h
    · have h := zS_t h (F_ge hz)
      refine E_iload (pc := 44) (zDk zD_137_ok 23 rfl) rfl ?_
      refine E_aload_n (pc := 46) (zDk zD_137_ok 24 rfl) rfl ?_
      refine E_aload_n (pc := 47) (zDk zD_137_ok 25 rfl) rfl ?_
      refine E_iload_n (pc := 48) (zDk zD_137_ok 26 rfl) rfl ?_
      refine E_iload (pc := 49) (zDk zD_137_ok 27 rfl) rfl ?_
      refine W_iadd (pc := 51) (zDk zD_137_ok 28 rfl) ?_
      obtain ⟨v52, e52, h⟩ := zS_bind h
      refine E_virI (pc := 52) (c := 173) (r := 0) (as := [.inl (w32 (x1 + y5))]) (rest := [.inr (.inr 0), .inl y4]) (zDk zD_137_ok 29 rfl) zc_137 (by decide +kernel) zk_173 ⟨(Nat.le_of_ble_eq_true rfl), rfl, rfl⟩ (Nat.le_of_ble_eq_true rfl) (zr_173 _) (Nat.lt_of_lt_of_le (by decide) hq) (by rw [zm_173]; exact (Nat.le_of_ble_eq_true rfl)) ⟨zc_173, by decide⟩ zis_7_0 (ok_lX_rainDrawn ⟨v52, e52, ?_⟩)
      obtain ⟨r55_, e55, h⟩ := zS_bind h
      refine E_virI (pc := 55) (c := 174) (r := 0) (as := [.inl v52]) (rest := [.inl y4]) (zDk zD_137_ok 30 rfl) zc_137 (by decide +kernel) zk_174 ⟨(Nat.le_of_ble_eq_true rfl), rfl, rfl⟩ (Nat.le_of_ble_eq_true rfl) (zr_174 _) (Nat.lt_of_lt_of_le (by decide) hq) (by rw [zm_174]; exact (Nat.le_of_ble_eq_true rfl)) ⟨zc_174, by decide⟩ zis_7_0 (ok_lX_signedInRain ⟨r55_, e55, ?_⟩)
      refine E_iload_n (pc := 58) (zDk zD_137_ok 31 rfl) rfl ?_
      refine E_ishr (pc := 59) (zDk zD_137_ok 32 rfl) ?_
      refine E_iconst (pc := 60) (zDk zD_137_ok 33 rfl) (by decide +kernel) ?_
      refine E_iand (pc := 61) (zDk zD_137_ok 34 rfl) ?_
      refine W_iadd (pc := 62) (zDk zD_137_ok 35 rfl) ?_
      refine W_istore (pc := 63) (L' := [some (.inr (.inr 0)), some (.inl x1), some (.inl x2), some (.inl x3), some (.inl (w32 (y4 + (zand (zshr r55_.1 x3) (1 : Int))))), some (.inl y5)]) (zDk zD_137_ok 36 rfl) zm_137 (by decide) rfl ?_
      refine W_iinc (pc := 65) (L' := [some (.inr (.inr 0)), some (.inl x1), some (.inl x2), some (.inl x3), some (.inl (w32 (y4 + (zand (zshr r55_.1 x3) (1 : Int))))), some (.inl (w32 (y5 + 1)))]) (zDk zD_137_ok 37 rfl) rfl zm_137 (by decide) rfl ?_
      refine E_goto (pc := 68) (t := 38) (zDk zD_137_ok 38 rfl) rfl ?_
      exact (ih) (w32 (y4 + (zand (zshr r55_.1 x3) (1 : Int)))) (w32 (y5 + 1)) r55_.2 h
def lX_luck (x1 : Int) (x2 : Int) (x3 : Int) (M : Nat → Nat → Int) : Option (Int × (Nat → Nat → Int)) :=
    ((lT_hasContract 3 x3 M).bind (fun v5 =>
    (if v5 = 0 then
    (some ((-2 : Int), M))
    else
    ((lX_isSeed x1 M).bind (fun v12 =>
    (if v12 = 0 then
    (some ((-2 : Int), M))
    else
    (if x2 < (1 : Int) then
    (some ((-2 : Int), M))
    else
    (if (20 : Int) < x2 then
    (some ((-2 : Int), M))
    else
    (lX_luck_c38 x1 x2 x3 zN (0 : Int) (0 : Int) M)))))))))
set_option maxRecDepth 100000 in
theorem ok_lX_luck {sc : zSc} {x1 : Int} {x2 : Int} {x3 : Int} {M : Nat → Nat → Int} {P : Int → (Nat → Nat → Int) → Prop} (h : zS (lX_luck x1 x2 x3 M) (fun r => P r.1 r.2)) : zCi sc 137 [.inr (.inr 0), .inl x1, .inl x2, .inl x3] M P := by
  have ea : zarg (zml 137) [.inr (.inr 0), .inl x1, .inl x2, .inl x3] = [some (.inr (.inr 0)), some (.inl x1), some (.inl x2), some (.inl x3), none, none] := by rw [zm_137]; rfl
  unfold zCi zCw
  rw [ea, zr_137]
  have hq : 5 ≤ 5 := Nat.le_refl _
  unfold lX_luck at h
  have h := zS_mono h (fun x hx => (⟨x.1, rfl, hx⟩ : ∃ y, (some (.inl x.1) : Option zV) = some (.inl y) ∧ P y x.2))
  skip
  refine E_aload_n (pc := 0) (zDk zD_137_ok 0 rfl) rfl ?_
  refine E_getR (pc := 1) (ci := 7) (f := 1) (r := 3) (zDk zD_137_ok 1 rfl) zc_137 (by decide +kernel) (by decide) zis_7_0 (by decide +kernel) (by decide) ?_
  refine E_iload_n (pc := 4) (zDk zD_137_ok 2 rfl) rfl ?_
  obtain ⟨v5, e5, h⟩ := zS_bind h
  refine E_virI (pc := 5) (c := 74) (r := 3) (as := [.inl x3]) (rest := []) (zDk zD_137_ok 3 rfl) zc_137 (by decide +kernel) zk_74 ⟨(Nat.le_of_ble_eq_true rfl), rfl, rfl⟩ (Nat.le_of_ble_eq_true rfl) (zr_74 _) (Nat.lt_of_lt_of_le (by decide) hq) (by rw [zm_74]; exact (Nat.le_of_ble_eq_true rfl)) ⟨zc_74, by decide⟩ zis_6_3 (ok_lT_hasContract ⟨v5, e5, ?_⟩)
  refine E_if (pc := 8) (t := 29) (zDk zD_137_ok 4 rfl) rfl (fun hz => ?_) (fun hz => ?_)
  · have h := zS_t h (T_eq hz)
    refine E_bipush (pc := 29) (zDk zD_137_ok 14 rfl) (by decide +kernel) ?_
    have h := zS_some h
    exact E_ireturn (pc := 31) (zDk zD_137_ok 15 rfl) zt_137 h
  · have h := zS_f h (F_eq hz)
    refine E_iload_n (pc := 11) (zDk zD_137_ok 5 rfl) rfl ?_
    obtain ⟨v12, e12, h⟩ := zS_bind h
    refine E_staI (pc := 12) (c := 172) (as := [.inl x1]) (rest := []) (zDk zD_137_ok 6 rfl) zc_137 (by decide +kernel) (by decide +kernel) zk_172 ⟨(Nat.le_of_ble_eq_true rfl), rfl, rfl⟩ (Nat.le_of_ble_eq_true rfl) (zr_172 _) (Nat.lt_of_lt_of_le (by decide) hq) (by rw [zm_172]; exact (Nat.le_of_ble_eq_true rfl)) (ok_lX_isSeed ⟨v12, e12, ?_⟩)
    refine E_if (pc := 15) (t := 29) (zDk zD_137_ok 7 rfl) rfl (fun hz => ?_) (fun hz => ?_)
    · have h := zS_t h (T_eq hz)
      refine E_bipush (pc := 29) (zDk zD_137_ok 14 rfl) (by decide +kernel) ?_
      have h := zS_some h
      exact E_ireturn (pc := 31) (zDk zD_137_ok 15 rfl) zt_137 h
    · have h := zS_f h (F_eq hz)
      refine E_iload_n (pc := 18) (zDk zD_137_ok 8 rfl) rfl ?_
      refine E_iconst (pc := 19) (zDk zD_137_ok 9 rfl) (by decide +kernel) ?_
      refine E_icmp (pc := 20) (t := 29) (zDk zD_137_ok 10 rfl) rfl (fun hz => ?_) (fun hz => ?_)
      · have h := zS_t h (T_lt hz)
        refine E_bipush (pc := 29) (zDk zD_137_ok 14 rfl) (by decide +kernel) ?_
        have h := zS_some h
        exact E_ireturn (pc := 31) (zDk zD_137_ok 15 rfl) zt_137 h
      · have h := zS_f h (Int.not_lt.mpr (F_lt hz))
        refine E_iload_n (pc := 23) (zDk zD_137_ok 11 rfl) rfl ?_
        refine E_bipush (pc := 24) (zDk zD_137_ok 12 rfl) (by decide +kernel) ?_
        refine E_icmp (pc := 26) (t := 32) (zDk zD_137_ok 13 rfl) rfl (fun hz => ?_) (fun hz => ?_)
        · have h := zS_f h (Int.not_lt.mpr (T_le hz))
          refine E_iconst (pc := 32) (zDk zD_137_ok 16 rfl) (by decide +kernel) ?_
          refine W_istore (pc := 33) (L' := [some (.inr (.inr 0)), some (.inl x1), some (.inl x2), some (.inl x3), some (.inl (0 : Int)), none]) (zDk zD_137_ok 17 rfl) zm_137 (by decide) rfl ?_
          refine E_iconst (pc := 35) (zDk zD_137_ok 18 rfl) (by decide +kernel) ?_
          refine W_istore (pc := 36) (L' := [some (.inr (.inr 0)), some (.inl x1), some (.inl x2), some (.inl x3), some (.inl (0 : Int)), some (.inl (0 : Int))]) (zDk zD_137_ok 19 rfl) zm_137 (by decide) rfl ?_
          exact ok_lX_luck_c38 hq x1 x2 x3 zN (0 : Int) (0 : Int) M h
        · have h := zS_t h (F_le hz)
          refine E_bipush (pc := 29) (zDk zD_137_ok 14 rfl) (by decide +kernel) ?_
          have h := zS_some h
          exact E_ireturn (pc := 31) (zDk zD_137_ok 15 rfl) zt_137 h
