/-! Lifted methods 10 (written by wip/whole/lift.py): decode rows, functions, proofs. -/
def zD_211 : List (Nat × Instr × Nat) := [(0, .aload_n (0), 1), (1, .ldc (208), 2), (3, .invokevirtual (155), 3), (6, .ifCond .ne (30), 3), (9, .aload_n (0), 1), (10, .ldc (210), 2), (12, .invokevirtual (155), 3), (15, .ifCond .ne (21), 3), (18, .aload_n (0), 1), (19, .ldc (212), 2), (21, .invokevirtual (155), 3), (24, .ifCond .ne (12), 3), (27, .aload_n (0), 1), (28, .ldc (214), 2), (30, .invokevirtual (155), 3), (33, .ifCond .eq (7), 3), (36, .iconst (1), 1), (37, .goto (4), 3), (40, .iconst (0), 1), (41, .istore_n (1), 1), (42, .iload_n (1), 1), (43, .ifCond .ne (8), 3), (46, .aload_n (0), 1), (47, .iconst (1), 1), (48, .invokevirtual (165), 3), (51, .aload_n (0), 1), (52, .invokevirtual (216), 3), (55, .ifCond .eq (8), 3), (58, .aload_n (0), 1), (59, .iconst (3), 1), (60, .invokevirtual (165), 3), (63, .aload_n (0), 1), (64, .invokevirtual (143), 3), (67, .ifCond .ne (4), 3), (70, .return_, 1), (71, .aload_n (0), 1), (72, .ldc (208), 2), (74, .invokevirtual (162), 3), (77, .ifCond .eq (10), 3), (80, .aload_n (0), 1), (81, .invokevirtual (219), 3), (84, .goto (88), 3), (87, .aload_n (0), 1), (88, .ldc (210), 2), (90, .invokevirtual (162), 3), (93, .ifCond .eq (55), 3), (96, .bipush (34), 2), (98, .iconst (2), 1), (99, .aload_n (0), 1), (100, .getfield (31), 3), (103, .iconst (5), 1), (104, .iaload, 1), (105, .imul, 1), (106, .iadd, 1), (107, .istore_n (2), 1), (108, .aload_n (0), 1), (109, .getfield (31), 3), (112, .iload_n (2), 1), (113, .aload_n (0), 1), (114, .invokevirtual (190), 3), (117, .iastore, 1), (118, .aload_n (0), 1), (119, .getfield (31), 3), (122, .iload_n (2), 1), (123, .iconst (1), 1), (124, .iadd, 1), (125, .aload_n (0), 1), (126, .ldc (222), 2), (128, .iconst (1), 1), (129, .bipush (20), 2), (131, .invokevirtual (180), 3), (134, .iastore, 1), (135, .aload_n (0), 1), (136, .getfield (31), 3), (139, .iconst (5), 1), (140, .dup2, 1), (141, .iaload, 1), (142, .iconst (1), 1), (143, .iadd, 1), (144, .iastore, 1), (145, .goto (27), 3), (148, .aload_n (0), 1), (149, .ldc (212), 2), (151, .invokevirtual (162), 3), (154, .ifCond .eq (10), 3), (157, .aload_n (0), 1), (158, .invokevirtual (224), 3), (161, .goto (11), 3), (164, .aload_n (0), 1), (165, .invokevirtual (159), 3), (168, .aload_n (0), 1), (169, .invokevirtual (227), 3), (172, .return_, 1)]
set_option maxRecDepth 100000 in
theorem zD_211_ok : zDo 211 zD_211 = true := by decide +kernel
theorem zc_211 : zcls 211 = 8 := by decide +kernel
theorem zm_211 : zml 211 = 3 := by decide +kernel
theorem zt_211 : zrt 211 = none := by decide +kernel
theorem zk_211 : zkd 211 = 1 ∧ znp 211 + 1 = 1 := by decide +kernel
theorem zr_211 (as : List zV) : zrk 211 as = 9 := by unfold zrk; rw [if_neg (by decide)]; decide +kernel
def lm_readNext_c63 (M : Nat → Nat → Int) : Option (Nat → Nat → Int) :=
    ((lm_good M).bind (fun v64 =>
    (if v64 = 0 then
    (some M)
    else
    ((lm_takes 5023 M).bind (fun r74_ =>
    (if r74_.1 = 0 then
    ((lm_takes 5024 r74_.2).bind (fun r90_ =>
    (if r90_.1 = 0 then
    ((lm_takes 5025 r90_.2).bind (fun r151_ =>
    (if r151_.1 = 0 then
    ((lm_advance r151_.2).bind (fun M165 =>
    ((lm_readContract M165).bind (fun M169 =>
    (some M169)))))
    else
    ((lm_readName r151_.2).bind (fun M158 =>
    (some M158))))))
    else
    ((rdI 112 (5 : Int) r90_.2).bind (fun v104 =>
    ((lm_freshCorner r90_.2).bind (fun r114_ =>
    ((wrI 112 (w32 ((34 : Int) + (w32 ((2 : Int) * v104)))) r114_.1 r114_.2).bind (fun M117 =>
    ((lm_told 5028 (1 : Int) (20 : Int) M117).bind (fun r131_ =>
    ((wrI 112 (w32 ((w32 ((34 : Int) + (w32 ((2 : Int) * v104)))) + (1 : Int))) r131_.1 r131_.2).bind (fun M134 =>
    ((rdI 112 (5 : Int) M134).bind (fun v141 =>
    ((wrI 112 (5 : Int) (w32 (v141 + (1 : Int))) M134).bind (fun M144 =>
    (some M144))))))))))))))))))
    else
    ((lm_readStreet r74_.2).bind (fun M81 =>
    (some M81)))))))))
set_option maxRecDepth 100000 in
theorem ok_lm_readNext_c63 {sc : zSc} {q : Nat} {P : Option zV → (Nat → Nat → Int) → Prop} (hq : 9 ≤ q) : ∀ (M : Nat → Nat → Int) (d1 d2 : Option zV), zS (lm_readNext_c63 M) (fun M0 => P none M0) → zWp sc q 211 63 [some (.inr (.inr 106)), d1, d2] [] M P := by
  intro M d1 d2 h
  unfold lm_readNext_c63 at h
  refine E_aload_n (pc := 63) (zDk zD_211_ok 31 rfl) rfl ?_
  obtain ⟨v64, e64, h⟩ := zS_bind h
  refine E_virI (pc := 64) (c := 196) (r := 106) (as := []) (rest := []) (zDk zD_211_ok 32 rfl) zc_211 (by decide +kernel) zk_196 ⟨(Nat.le_of_ble_eq_true rfl), rfl, rfl⟩ (Nat.le_of_ble_eq_true rfl) (zr_196 _) (Nat.lt_of_lt_of_le (by decide) hq) (by rw [zm_196]; exact (Nat.le_of_ble_eq_true rfl)) ⟨zc_196, by decide⟩ zis_8_106 (ok_lm_good ⟨v64, e64, ?_⟩)
  refine E_if (pc := 67) (t := 71) (zDk zD_211_ok 33 rfl) rfl (fun hz => ?_) (fun hz => ?_)
  · have h := zS_f h (T_ne hz)
    refine E_aload_n (pc := 71) (zDk zD_211_ok 35 rfl) rfl ?_
    refine E_ldc (pc := 72) (v := .inr (.inr 5023)) (zDk zD_211_ok 36 rfl) zc_211 (by decide +kernel) ?_
    obtain ⟨r74_, e74, h⟩ := zS_bind h
    refine E_virI (pc := 74) (c := 199) (r := 106) (as := [.inr (.inr 5023)]) (rest := []) (zDk zD_211_ok 37 rfl) zc_211 (by decide +kernel) zk_199 ⟨(Nat.le_of_ble_eq_true rfl), rfl, rfl⟩ (Nat.le_of_ble_eq_true rfl) (zr_199 _) (Nat.lt_of_lt_of_le (by decide) hq) (by rw [zm_199]; exact (Nat.le_of_ble_eq_true rfl)) ⟨zc_199, by decide⟩ zis_8_106 (ok_lm_takes ⟨r74_, e74, ?_⟩)
    refine E_if (pc := 77) (t := 87) (zDk zD_211_ok 38 rfl) rfl (fun hz => ?_) (fun hz => ?_)
    · have h := zS_t h (T_eq hz)
      refine E_aload_n (pc := 87) (zDk zD_211_ok 42 rfl) rfl ?_
      refine E_ldc (pc := 88) (v := .inr (.inr 5024)) (zDk zD_211_ok 43 rfl) zc_211 (by decide +kernel) ?_
      obtain ⟨r90_, e90, h⟩ := zS_bind h
      refine E_virI (pc := 90) (c := 199) (r := 106) (as := [.inr (.inr 5024)]) (rest := []) (zDk zD_211_ok 44 rfl) zc_211 (by decide +kernel) zk_199 ⟨(Nat.le_of_ble_eq_true rfl), rfl, rfl⟩ (Nat.le_of_ble_eq_true rfl) (zr_199 _) (Nat.lt_of_lt_of_le (by decide) hq) (by rw [zm_199]; exact (Nat.le_of_ble_eq_true rfl)) ⟨zc_199, by decide⟩ zis_8_106 (ok_lm_takes ⟨r90_, e90, ?_⟩)
      refine E_if (pc := 93) (t := 148) (zDk zD_211_ok 45 rfl) rfl (fun hz => ?_) (fun hz => ?_)
      · have h := zS_t h (T_eq hz)
        refine E_aload_n (pc := 148) (zDk zD_211_ok 81 rfl) rfl ?_
        refine E_ldc (pc := 149) (v := .inr (.inr 5025)) (zDk zD_211_ok 82 rfl) zc_211 (by decide +kernel) ?_
        obtain ⟨r151_, e151, h⟩ := zS_bind h
        refine E_virI (pc := 151) (c := 199) (r := 106) (as := [.inr (.inr 5025)]) (rest := []) (zDk zD_211_ok 83 rfl) zc_211 (by decide +kernel) zk_199 ⟨(Nat.le_of_ble_eq_true rfl), rfl, rfl⟩ (Nat.le_of_ble_eq_true rfl) (zr_199 _) (Nat.lt_of_lt_of_le (by decide) hq) (by rw [zm_199]; exact (Nat.le_of_ble_eq_true rfl)) ⟨zc_199, by decide⟩ zis_8_106 (ok_lm_takes ⟨r151_, e151, ?_⟩)
        refine E_if (pc := 154) (t := 164) (zDk zD_211_ok 84 rfl) rfl (fun hz => ?_) (fun hz => ?_)
        · have h := zS_t h (T_eq hz)
          refine E_aload_n (pc := 164) (zDk zD_211_ok 88 rfl) rfl ?_
          obtain ⟨M165, e165, h⟩ := zS_bind h
          refine E_virV (pc := 165) (c := 195) (r := 106) (as := []) (rest := []) (zDk zD_211_ok 89 rfl) zc_211 (by decide +kernel) zk_195 ⟨(Nat.le_of_ble_eq_true rfl), rfl, rfl⟩ (Nat.le_of_ble_eq_true rfl) (zr_195 _) (Nat.lt_of_lt_of_le (by decide) hq) (by rw [zm_195]; exact (Nat.le_of_ble_eq_true rfl)) ⟨zc_195, by decide⟩ zis_8_106 (ok_lm_advance ⟨M165, e165, ?_⟩)
          refine E_aload_n (pc := 168) (zDk zD_211_ok 90 rfl) rfl ?_
          obtain ⟨M169, e169, h⟩ := zS_bind h
          refine E_virV (pc := 169) (c := 209) (r := 106) (as := []) (rest := []) (zDk zD_211_ok 91 rfl) zc_211 (by decide +kernel) zk_209 ⟨(Nat.le_of_ble_eq_true rfl), rfl, rfl⟩ (Nat.le_of_ble_eq_true rfl) (zr_209 _) (Nat.lt_of_lt_of_le (by decide) hq) (by rw [zm_209]; exact (Nat.le_of_ble_eq_true rfl)) ⟨zc_209, by decide⟩ zis_8_106 (ok_lm_readContract ⟨M169, e169, ?_⟩)
          have h := zS_some h
          exact E_return (x := ()) (pc := 172) (zDk zD_211_ok 92 rfl) zt_211 h
        · have h := zS_f h (F_eq hz)
          refine E_aload_n (pc := 157) (zDk zD_211_ok 85 rfl) rfl ?_
          obtain ⟨M158, e158, h⟩ := zS_bind h
          refine E_virV (pc := 158) (c := 207) (r := 106) (as := []) (rest := []) (zDk zD_211_ok 86 rfl) zc_211 (by decide +kernel) zk_207 ⟨(Nat.le_of_ble_eq_true rfl), rfl, rfl⟩ (Nat.le_of_ble_eq_true rfl) (zr_207 _) (Nat.lt_of_lt_of_le (by decide) hq) (by rw [zm_207]; exact (Nat.le_of_ble_eq_true rfl)) ⟨zc_207, by decide⟩ zis_8_106 (ok_lm_readName ⟨M158, e158, ?_⟩)
          refine E_goto (pc := 161) (t := 172) (zDk zD_211_ok 87 rfl) rfl ?_
          have h := zS_some h
          exact E_return (x := ()) (pc := 172) (zDk zD_211_ok 92 rfl) zt_211 h
      · have h := zS_f h (F_eq hz)
        refine E_bipush (pc := 96) (zDk zD_211_ok 46 rfl) (by decide +kernel) ?_
        refine E_iconst (pc := 98) (zDk zD_211_ok 47 rfl) (by decide +kernel) ?_
        refine E_aload_n (pc := 99) (zDk zD_211_ok 48 rfl) rfl ?_
        refine E_getR (pc := 100) (ci := 8) (f := 14) (r := 112) (zDk zD_211_ok 49 rfl) zc_211 (by decide +kernel) (by decide) zis_8_106 (by decide +kernel) (by decide) ?_
        refine E_iconst (pc := 103) (zDk zD_211_ok 50 rfl) (by decide +kernel) ?_
        obtain ⟨v104, e104, h⟩ := zS_bind h
        refine E_iaload (pc := 104) (zDk zD_211_ok 51 rfl) e104 ?_
        refine W_imul (pc := 105) (zDk zD_211_ok 52 rfl) ?_
        refine W_iadd (pc := 106) (zDk zD_211_ok 53 rfl) ?_
        obtain ⟨d1_107, hL107⟩ : ∃ d1_107 : Option zV, zs_1 [some (.inr (.inr 106)), d1, d2] 2 (.inl (w32 ((34 : Int) + (w32 ((2 : Int) * v104))))) = [some (.inr (.inr 106)), d1_107, some (.inl (w32 ((34 : Int) + (w32 ((2 : Int) * v104)))))] := by rcases d1 with _ | _ | _ | _ <;> exact ⟨_, rfl⟩
        refine W_istore_n (pc := 107) (L' := [some (.inr (.inr 106)), d1_107, some (.inl (w32 ((34 : Int) + (w32 ((2 : Int) * v104)))))]) (zDk zD_211_ok 54 rfl) zm_211 (by decide) hL107 ?_
        refine E_aload_n (pc := 108) (zDk zD_211_ok 55 rfl) rfl ?_
        refine E_getR (pc := 109) (ci := 8) (f := 14) (r := 112) (zDk zD_211_ok 56 rfl) zc_211 (by decide +kernel) (by decide) zis_8_106 (by decide +kernel) (by decide) ?_
        refine E_iload_n (pc := 112) (zDk zD_211_ok 57 rfl) rfl ?_
        refine E_aload_n (pc := 113) (zDk zD_211_ok 58 rfl) rfl ?_
        obtain ⟨r114_, e114, h⟩ := zS_bind h
        refine E_virI (pc := 114) (c := 204) (r := 106) (as := []) (rest := [.inl (w32 ((34 : Int) + (w32 ((2 : Int) * v104)))), .inr (.inr 112)]) (zDk zD_211_ok 59 rfl) zc_211 (by decide +kernel) zk_204 ⟨(Nat.le_of_ble_eq_true rfl), rfl, rfl⟩ (Nat.le_of_ble_eq_true rfl) (zr_204 _) (Nat.lt_of_lt_of_le (by decide) hq) (by rw [zm_204]; exact (Nat.le_of_ble_eq_true rfl)) ⟨zc_204, by decide⟩ zis_8_106 (ok_lm_freshCorner ⟨r114_, e114, ?_⟩)
        obtain ⟨M117, e117, h⟩ := zS_bind h
        refine E_iastore (pc := 117) (zDk zD_211_ok 60 rfl) e117 ?_
        refine E_aload_n (pc := 118) (zDk zD_211_ok 61 rfl) rfl ?_
        refine E_getR (pc := 119) (ci := 8) (f := 14) (r := 112) (zDk zD_211_ok 62 rfl) zc_211 (by decide +kernel) (by decide) zis_8_106 (by decide +kernel) (by decide) ?_
        refine E_iload_n (pc := 122) (zDk zD_211_ok 63 rfl) rfl ?_
        refine E_iconst (pc := 123) (zDk zD_211_ok 64 rfl) (by decide +kernel) ?_
        refine W_iadd (pc := 124) (zDk zD_211_ok 65 rfl) ?_
        refine E_aload_n (pc := 125) (zDk zD_211_ok 66 rfl) rfl ?_
        refine E_ldc (pc := 126) (v := .inr (.inr 5028)) (zDk zD_211_ok 67 rfl) zc_211 (by decide +kernel) ?_
        refine E_iconst (pc := 128) (zDk zD_211_ok 68 rfl) (by decide +kernel) ?_
        refine E_bipush (pc := 129) (zDk zD_211_ok 69 rfl) (by decide +kernel) ?_
        obtain ⟨r131_, e131, h⟩ := zS_bind h
        refine E_virI (pc := 131) (c := 202) (r := 106) (as := [.inr (.inr 5028), .inl (1 : Int), .inl (20 : Int)]) (rest := [.inl (w32 ((w32 ((34 : Int) + (w32 ((2 : Int) * v104)))) + (1 : Int))), .inr (.inr 112)]) (zDk zD_211_ok 70 rfl) zc_211 (by decide +kernel) zk_202 ⟨(Nat.le_of_ble_eq_true rfl), rfl, rfl⟩ (Nat.le_of_ble_eq_true rfl) (zr_202 _) (Nat.lt_of_lt_of_le (by decide) hq) (by rw [zm_202]; exact (Nat.le_of_ble_eq_true rfl)) ⟨zc_202, by decide⟩ zis_8_106 (ok_lm_told ⟨r131_, e131, ?_⟩)
        obtain ⟨M134, e134, h⟩ := zS_bind h
        refine E_iastore (pc := 134) (zDk zD_211_ok 71 rfl) e134 ?_
        refine E_aload_n (pc := 135) (zDk zD_211_ok 72 rfl) rfl ?_
        refine E_getR (pc := 136) (ci := 8) (f := 14) (r := 112) (zDk zD_211_ok 73 rfl) zc_211 (by decide +kernel) (by decide) zis_8_106 (by decide +kernel) (by decide) ?_
        refine E_iconst (pc := 139) (zDk zD_211_ok 74 rfl) (by decide +kernel) ?_
        refine E_dup2 (pc := 140) (zDk zD_211_ok 75 rfl) rfl rfl ?_
        obtain ⟨v141, e141, h⟩ := zS_bind h
        refine E_iaload (pc := 141) (zDk zD_211_ok 76 rfl) e141 ?_
        refine E_iconst (pc := 142) (zDk zD_211_ok 77 rfl) (by decide +kernel) ?_
        refine W_iadd (pc := 143) (zDk zD_211_ok 78 rfl) ?_
        obtain ⟨M144, e144, h⟩ := zS_bind h
        refine E_iastore (pc := 144) (zDk zD_211_ok 79 rfl) e144 ?_
        refine E_goto (pc := 145) (t := 172) (zDk zD_211_ok 80 rfl) rfl ?_
        have h := zS_some h
        exact E_return (x := ()) (pc := 172) (zDk zD_211_ok 92 rfl) zt_211 h
    · have h := zS_f h (F_eq hz)
      refine E_aload_n (pc := 80) (zDk zD_211_ok 39 rfl) rfl ?_
      obtain ⟨M81, e81, h⟩ := zS_bind h
      refine E_virV (pc := 81) (c := 206) (r := 106) (as := []) (rest := []) (zDk zD_211_ok 40 rfl) zc_211 (by decide +kernel) zk_206 ⟨(Nat.le_of_ble_eq_true rfl), rfl, rfl⟩ (Nat.le_of_ble_eq_true rfl) (zr_206 _) (Nat.lt_of_lt_of_le (by decide) hq) (by rw [zm_206]; exact (Nat.le_of_ble_eq_true rfl)) ⟨zc_206, by decide⟩ zis_8_106 (ok_lm_readStreet ⟨M81, e81, ?_⟩)
      refine E_goto (pc := 84) (t := 172) (zDk zD_211_ok 41 rfl) rfl ?_
      have h := zS_some h
      exact E_return (x := ()) (pc := 172) (zDk zD_211_ok 92 rfl) zt_211 h
  · have h := zS_t h (F_ne hz)
    have h := zS_some h
    exact E_return (x := ()) (pc := 70) (zDk zD_211_ok 34 rfl) zt_211 h
def lm_readNext_c41 (s0 : Int) (M : Nat → Nat → Int) : Option (Nat → Nat → Int) :=
    (if s0 = 0 then
    ((lm_errs (1 : Int) M).bind (fun M48 =>
    ((lm_isFull M48).bind (fun v52 =>
    (if v52 = 0 then
    (lm_readNext_c63 M48)
    else
    ((lm_errs (3 : Int) M48).bind (fun M60 =>
    (lm_readNext_c63 M60))))))))
    else
    ((lm_isFull M).bind (fun v52 =>
    (if v52 = 0 then
    (lm_readNext_c63 M)
    else
    ((lm_errs (3 : Int) M).bind (fun M60 =>
    (lm_readNext_c63 M60)))))))
set_option maxRecDepth 100000 in
theorem ok_lm_readNext_c41 {sc : zSc} {q : Nat} {P : Option zV → (Nat → Nat → Int) → Prop} (hq : 9 ≤ q) : ∀ (s0 : Int) (M : Nat → Nat → Int) (d1 d2 : Option zV), zS (lm_readNext_c41 s0 M) (fun M0 => P none M0) → zWp sc q 211 41 [some (.inr (.inr 106)), d1, d2] [(.inl s0 : zV)] M P := by
  intro s0 M d1 d2 h
  unfold lm_readNext_c41 at h
  refine W_istore_n (pc := 41) (L' := [some (.inr (.inr 106)), some (.inl s0), d2]) (zDk zD_211_ok 19 rfl) zm_211 (by decide) rfl ?_
  refine E_iload_n (pc := 42) (zDk zD_211_ok 20 rfl) rfl ?_
  refine E_if (pc := 43) (t := 51) (zDk zD_211_ok 21 rfl) rfl (fun hz => ?_) (fun hz => ?_)
  · have h := zS_f h (T_ne hz)
    refine E_aload_n (pc := 51) (zDk zD_211_ok 25 rfl) rfl ?_
    obtain ⟨v52, e52, h⟩ := zS_bind h
    refine E_virI (pc := 52) (c := 210) (r := 106) (as := []) (rest := []) (zDk zD_211_ok 26 rfl) zc_211 (by decide +kernel) zk_210 ⟨(Nat.le_of_ble_eq_true rfl), rfl, rfl⟩ (Nat.le_of_ble_eq_true rfl) (zr_210 _) (Nat.lt_of_lt_of_le (by decide) hq) (by rw [zm_210]; exact (Nat.le_of_ble_eq_true rfl)) ⟨zc_210, by decide⟩ zis_8_106 (ok_lm_isFull ⟨v52, e52, ?_⟩)
    refine E_if (pc := 55) (t := 63) (zDk zD_211_ok 27 rfl) rfl (fun hz => ?_) (fun hz => ?_)
    · have h := zS_t h (T_eq hz)
      exact ok_lm_readNext_c63 hq M (some (.inl s0)) d2 h
    · have h := zS_f h (F_eq hz)
      refine E_aload_n (pc := 58) (zDk zD_211_ok 28 rfl) rfl ?_
      refine E_iconst (pc := 59) (zDk zD_211_ok 29 rfl) (by decide +kernel) ?_
      obtain ⟨M60, e60, h⟩ := zS_bind h
      refine E_virV (pc := 60) (c := 197) (r := 106) (as := [.inl (3 : Int)]) (rest := []) (zDk zD_211_ok 30 rfl) zc_211 (by decide +kernel) zk_197 ⟨(Nat.le_of_ble_eq_true rfl), rfl, rfl⟩ (Nat.le_of_ble_eq_true rfl) (zr_197 _) (Nat.lt_of_lt_of_le (by decide) hq) (by rw [zm_197]; exact (Nat.le_of_ble_eq_true rfl)) ⟨zc_197, by decide⟩ zis_8_106 (ok_lm_errs ⟨M60, e60, ?_⟩)
      exact ok_lm_readNext_c63 hq M60 (some (.inl s0)) d2 h
  · have h := zS_t h (F_ne hz)
    refine E_aload_n (pc := 46) (zDk zD_211_ok 22 rfl) rfl ?_
    refine E_iconst (pc := 47) (zDk zD_211_ok 23 rfl) (by decide +kernel) ?_
    obtain ⟨M48, e48, h⟩ := zS_bind h
    refine E_virV (pc := 48) (c := 197) (r := 106) (as := [.inl (1 : Int)]) (rest := []) (zDk zD_211_ok 24 rfl) zc_211 (by decide +kernel) zk_197 ⟨(Nat.le_of_ble_eq_true rfl), rfl, rfl⟩ (Nat.le_of_ble_eq_true rfl) (zr_197 _) (Nat.lt_of_lt_of_le (by decide) hq) (by rw [zm_197]; exact (Nat.le_of_ble_eq_true rfl)) ⟨zc_197, by decide⟩ zis_8_106 (ok_lm_errs ⟨M48, e48, ?_⟩)
    refine E_aload_n (pc := 51) (zDk zD_211_ok 25 rfl) rfl ?_
    obtain ⟨v52, e52, h⟩ := zS_bind h
    refine E_virI (pc := 52) (c := 210) (r := 106) (as := []) (rest := []) (zDk zD_211_ok 26 rfl) zc_211 (by decide +kernel) zk_210 ⟨(Nat.le_of_ble_eq_true rfl), rfl, rfl⟩ (Nat.le_of_ble_eq_true rfl) (zr_210 _) (Nat.lt_of_lt_of_le (by decide) hq) (by rw [zm_210]; exact (Nat.le_of_ble_eq_true rfl)) ⟨zc_210, by decide⟩ zis_8_106 (ok_lm_isFull ⟨v52, e52, ?_⟩)
    refine E_if (pc := 55) (t := 63) (zDk zD_211_ok 27 rfl) rfl (fun hz => ?_) (fun hz => ?_)
    · have h := zS_t h (T_eq hz)
      exact ok_lm_readNext_c63 hq M48 (some (.inl s0)) d2 h
    · have h := zS_f h (F_eq hz)
      refine E_aload_n (pc := 58) (zDk zD_211_ok 28 rfl) rfl ?_
      refine E_iconst (pc := 59) (zDk zD_211_ok 29 rfl) (by decide +kernel) ?_
      obtain ⟨M60, e60, h⟩ := zS_bind h
      refine E_virV (pc := 60) (c := 197) (r := 106) (as := [.inl (3 : Int)]) (rest := []) (zDk zD_211_ok 30 rfl) zc_211 (by decide +kernel) zk_197 ⟨(Nat.le_of_ble_eq_true rfl), rfl, rfl⟩ (Nat.le_of_ble_eq_true rfl) (zr_197 _) (Nat.lt_of_lt_of_le (by decide) hq) (by rw [zm_197]; exact (Nat.le_of_ble_eq_true rfl)) ⟨zc_197, by decide⟩ zis_8_106 (ok_lm_errs ⟨M60, e60, ?_⟩)
      exact ok_lm_readNext_c63 hq M60 (some (.inl s0)) d2 h
def lm_readNext (M : Nat → Nat → Int) : Option (Nat → Nat → Int) :=
    ((lm_is 5023 M).bind (fun v3 =>
    (if v3 = 0 then
    ((lm_is 5024 M).bind (fun v12 =>
    (if v12 = 0 then
    ((lm_is 5025 M).bind (fun v21 =>
    (if v21 = 0 then
    ((lm_is 5026 M).bind (fun v30 =>
    (if v30 = 0 then
    (lm_readNext_c41 (0 : Int) M)
    else
    (lm_readNext_c41 (1 : Int) M))))
    else
    (lm_readNext_c41 (1 : Int) M))))
    else
    (lm_readNext_c41 (1 : Int) M))))
    else
    (lm_readNext_c41 (1 : Int) M))))
set_option maxRecDepth 100000 in
theorem ok_lm_readNext {sc : zSc} {M : Nat → Nat → Int} {P : (Nat → Nat → Int) → Prop} (h : zS (lm_readNext M) P) : zCv sc 211 [.inr (.inr 106)] M P := by
  have ea : zarg (zml 211) [.inr (.inr 106)] = [some (.inr (.inr 106)), none, none] := by rw [zm_211]; rfl
  unfold zCv zCw
  rw [ea, zr_211]
  have hq : 9 ≤ 9 := Nat.le_refl _
  unfold lm_readNext at h
  have h := zS_mono h (fun x hx => (⟨rfl, hx⟩ : (none : Option zV) = none ∧ P x))
  skip
  refine E_aload_n (pc := 0) (zDk zD_211_ok 0 rfl) rfl ?_
  refine E_ldc (pc := 1) (v := .inr (.inr 5023)) (zDk zD_211_ok 1 rfl) zc_211 (by decide +kernel) ?_
  obtain ⟨v3, e3, h⟩ := zS_bind h
  refine E_virI (pc := 3) (c := 198) (r := 106) (as := [.inr (.inr 5023)]) (rest := []) (zDk zD_211_ok 2 rfl) zc_211 (by decide +kernel) zk_198 ⟨(Nat.le_of_ble_eq_true rfl), rfl, rfl⟩ (Nat.le_of_ble_eq_true rfl) (zr_198 _) (Nat.lt_of_lt_of_le (by decide) hq) (by rw [zm_198]; exact (Nat.le_of_ble_eq_true rfl)) ⟨zc_198, by decide⟩ zis_8_106 (ok_lm_is ⟨v3, e3, ?_⟩)
  refine E_if (pc := 6) (t := 36) (zDk zD_211_ok 3 rfl) rfl (fun hz => ?_) (fun hz => ?_)
  · have h := zS_f h (T_ne hz)
    refine E_iconst (pc := 36) (zDk zD_211_ok 16 rfl) (by decide +kernel) ?_
    refine E_goto (pc := 37) (t := 41) (zDk zD_211_ok 17 rfl) rfl ?_
    exact ok_lm_readNext_c41 hq (1 : Int) M none none h
  · have h := zS_t h (F_ne hz)
    refine E_aload_n (pc := 9) (zDk zD_211_ok 4 rfl) rfl ?_
    refine E_ldc (pc := 10) (v := .inr (.inr 5024)) (zDk zD_211_ok 5 rfl) zc_211 (by decide +kernel) ?_
    obtain ⟨v12, e12, h⟩ := zS_bind h
    refine E_virI (pc := 12) (c := 198) (r := 106) (as := [.inr (.inr 5024)]) (rest := []) (zDk zD_211_ok 6 rfl) zc_211 (by decide +kernel) zk_198 ⟨(Nat.le_of_ble_eq_true rfl), rfl, rfl⟩ (Nat.le_of_ble_eq_true rfl) (zr_198 _) (Nat.lt_of_lt_of_le (by decide) hq) (by rw [zm_198]; exact (Nat.le_of_ble_eq_true rfl)) ⟨zc_198, by decide⟩ zis_8_106 (ok_lm_is ⟨v12, e12, ?_⟩)
    refine E_if (pc := 15) (t := 36) (zDk zD_211_ok 7 rfl) rfl (fun hz => ?_) (fun hz => ?_)
    · have h := zS_f h (T_ne hz)
      refine E_iconst (pc := 36) (zDk zD_211_ok 16 rfl) (by decide +kernel) ?_
      refine E_goto (pc := 37) (t := 41) (zDk zD_211_ok 17 rfl) rfl ?_
      exact ok_lm_readNext_c41 hq (1 : Int) M none none h
    · have h := zS_t h (F_ne hz)
      refine E_aload_n (pc := 18) (zDk zD_211_ok 8 rfl) rfl ?_
      refine E_ldc (pc := 19) (v := .inr (.inr 5025)) (zDk zD_211_ok 9 rfl) zc_211 (by decide +kernel) ?_
      obtain ⟨v21, e21, h⟩ := zS_bind h
      refine E_virI (pc := 21) (c := 198) (r := 106) (as := [.inr (.inr 5025)]) (rest := []) (zDk zD_211_ok 10 rfl) zc_211 (by decide +kernel) zk_198 ⟨(Nat.le_of_ble_eq_true rfl), rfl, rfl⟩ (Nat.le_of_ble_eq_true rfl) (zr_198 _) (Nat.lt_of_lt_of_le (by decide) hq) (by rw [zm_198]; exact (Nat.le_of_ble_eq_true rfl)) ⟨zc_198, by decide⟩ zis_8_106 (ok_lm_is ⟨v21, e21, ?_⟩)
      refine E_if (pc := 24) (t := 36) (zDk zD_211_ok 11 rfl) rfl (fun hz => ?_) (fun hz => ?_)
      · have h := zS_f h (T_ne hz)
        refine E_iconst (pc := 36) (zDk zD_211_ok 16 rfl) (by decide +kernel) ?_
        refine E_goto (pc := 37) (t := 41) (zDk zD_211_ok 17 rfl) rfl ?_
        exact ok_lm_readNext_c41 hq (1 : Int) M none none h
      · have h := zS_t h (F_ne hz)
        refine E_aload_n (pc := 27) (zDk zD_211_ok 12 rfl) rfl ?_
        refine E_ldc (pc := 28) (v := .inr (.inr 5026)) (zDk zD_211_ok 13 rfl) zc_211 (by decide +kernel) ?_
        obtain ⟨v30, e30, h⟩ := zS_bind h
        refine E_virI (pc := 30) (c := 198) (r := 106) (as := [.inr (.inr 5026)]) (rest := []) (zDk zD_211_ok 14 rfl) zc_211 (by decide +kernel) zk_198 ⟨(Nat.le_of_ble_eq_true rfl), rfl, rfl⟩ (Nat.le_of_ble_eq_true rfl) (zr_198 _) (Nat.lt_of_lt_of_le (by decide) hq) (by rw [zm_198]; exact (Nat.le_of_ble_eq_true rfl)) ⟨zc_198, by decide⟩ zis_8_106 (ok_lm_is ⟨v30, e30, ?_⟩)
        refine E_if (pc := 33) (t := 40) (zDk zD_211_ok 15 rfl) rfl (fun hz => ?_) (fun hz => ?_)
        · have h := zS_t h (T_eq hz)
          refine E_iconst (pc := 40) (zDk zD_211_ok 18 rfl) (by decide +kernel) ?_
          exact ok_lm_readNext_c41 hq (0 : Int) M none none h
        · have h := zS_f h (F_eq hz)
          refine E_iconst (pc := 36) (zDk zD_211_ok 16 rfl) (by decide +kernel) ?_
          refine E_goto (pc := 37) (t := 41) (zDk zD_211_ok 17 rfl) rfl ?_
          exact ok_lm_readNext_c41 hq (1 : Int) M none none h
def zD_79 : List (Nat × Instr × Nat) := [(0, .aload_n (0), 1), (1, .getfield (10), 3), (4, .aload_n (0), 1), (5, .getfield (23), 3), (8, .invokevirtual (71), 3), (11, .aload_n (0), 1), (12, .getfield (10), 3), (15, .getfield (75), 3), (18, .ifCond .eq (6), 3), (21, .bipush (-4), 2), (23, .ireturn, 1), (24, .aload_n (0), 1), (25, .getfield (19), 3), (28, .aload_n (0), 1), (29, .getfield (23), 3), (32, .invokevirtual (78), 3), (35, .aload_n (0), 1), (36, .getfield (29), 3), (39, .invokevirtual (81), 3), (42, .aload_n (0), 1), (43, .invokevirtual (84), 3), (46, .aload_n (0), 1), (47, .getfield (19), 3), (50, .getfield (87), 3), (53, .ireturn, 1)]
set_option maxRecDepth 100000 in
theorem zD_79_ok : zDo 79 zD_79 = true := by decide +kernel
theorem zc_79 : zcls 79 = 7 := by decide +kernel
theorem zm_79 : zml 79 = 1 := by decide +kernel
theorem zt_79 : zrt 79 = (some (.int)) := by decide +kernel
theorem zk_79 : zkd 79 = 1 ∧ znp 79 + 1 = 1 := by decide +kernel
theorem zr_79 (as : List zV) : zrk 79 as = 10 := by unfold zrk; rw [if_neg (by decide)]; decide +kernel
def lX_state (M : Nat → Nat → Int) : Option (Int × (Nat → Nat → Int)) :=
    ((lR_readAll 13 M).bind (fun M8 =>
    (if (M8 1 2) = 0 then
    ((lT_takeFrom 3 13 M8).bind (fun M32 =>
    ((lA_removeAll 23 M32).bind (fun M39 =>
    ((lX_settle M39).bind (fun M43 =>
    (some ((M43 3 4), M43))))))))
    else
    (some ((-4 : Int), M8)))))
set_option maxRecDepth 100000 in
theorem ok_lX_state {sc : zSc} {M : Nat → Nat → Int} {P : Int → (Nat → Nat → Int) → Prop} (h : zS (lX_state M) (fun r => P r.1 r.2)) : zCi sc 79 [.inr (.inr 0)] M P := by
  have ea : zarg (zml 79) [.inr (.inr 0)] = [some (.inr (.inr 0))] := by rw [zm_79]; rfl
  unfold zCi zCw
  rw [ea, zr_79]
  have hq : 10 ≤ 10 := Nat.le_refl _
  unfold lX_state at h
  have h := zS_mono h (fun x hx => (⟨x.1, rfl, hx⟩ : ∃ y, (some (.inl x.1) : Option zV) = some (.inl y) ∧ P y x.2))
  skip
  refine E_aload_n (pc := 0) (zDk zD_79_ok 0 rfl) rfl ?_
  refine E_getR (pc := 1) (ci := 7) (f := 0) (r := 1) (zDk zD_79_ok 1 rfl) zc_79 (by decide +kernel) (by decide) zis_7_0 (by decide +kernel) (by decide) ?_
  refine E_aload_n (pc := 4) (zDk zD_79_ok 2 rfl) rfl ?_
  refine E_getR (pc := 5) (ci := 7) (f := 2) (r := 13) (zDk zD_79_ok 3 rfl) zc_79 (by decide +kernel) (by decide) zis_7_0 (by decide +kernel) (by decide) ?_
  obtain ⟨M8, e8, h⟩ := zS_bind h
  refine E_virV (pc := 8) (c := 43) (r := 1) (as := [.inr (.inr 13)]) (rest := []) (zDk zD_79_ok 4 rfl) zc_79 (by decide +kernel) zk_43 ⟨(Nat.le_of_ble_eq_true rfl), rfl, rfl⟩ (Nat.le_of_ble_eq_true rfl) (zr_43 _) (Nat.lt_of_lt_of_le (by decide) hq) (by rw [zm_43]; exact (Nat.le_of_ble_eq_true rfl)) ⟨zc_43, by decide⟩ zis_4_1 (ok_lR_readAll ⟨M8, e8, ?_⟩)
  refine E_aload_n (pc := 11) (zDk zD_79_ok 5 rfl) rfl ?_
  refine E_getR (pc := 12) (ci := 7) (f := 0) (r := 1) (zDk zD_79_ok 6 rfl) zc_79 (by decide +kernel) (by decide) zis_7_0 (by decide +kernel) (by decide) ?_
  refine E_getI (pc := 15) (ci := 4) (f := 2) (zDk zD_79_ok 7 rfl) zc_79 (by decide +kernel) (by decide) zis_4_1 ?_
  refine E_if (pc := 18) (t := 24) (zDk zD_79_ok 8 rfl) rfl (fun hz => ?_) (fun hz => ?_)
  · have h := zS_t h (T_eq hz)
    refine E_aload_n (pc := 24) (zDk zD_79_ok 11 rfl) rfl ?_
    refine E_getR (pc := 25) (ci := 7) (f := 1) (r := 3) (zDk zD_79_ok 12 rfl) zc_79 (by decide +kernel) (by decide) zis_7_0 (by decide +kernel) (by decide) ?_
    refine E_aload_n (pc := 28) (zDk zD_79_ok 13 rfl) rfl ?_
    refine E_getR (pc := 29) (ci := 7) (f := 2) (r := 13) (zDk zD_79_ok 14 rfl) zc_79 (by decide +kernel) (by decide) zis_7_0 (by decide +kernel) (by decide) ?_
    obtain ⟨M32, e32, h⟩ := zS_bind h
    refine E_virV (pc := 32) (c := 68) (r := 3) (as := [.inr (.inr 13)]) (rest := []) (zDk zD_79_ok 15 rfl) zc_79 (by decide +kernel) zk_68 ⟨(Nat.le_of_ble_eq_true rfl), rfl, rfl⟩ (Nat.le_of_ble_eq_true rfl) (zr_68 _) (Nat.lt_of_lt_of_le (by decide) hq) (by rw [zm_68]; exact (Nat.le_of_ble_eq_true rfl)) ⟨zc_68, by decide⟩ zis_6_3 (ok_lT_takeFrom ⟨M32, e32, ?_⟩)
    refine E_aload_n (pc := 35) (zDk zD_79_ok 16 rfl) rfl ?_
    refine E_getR (pc := 36) (ci := 7) (f := 3) (r := 23) (zDk zD_79_ok 17 rfl) zc_79 (by decide +kernel) (by decide) zis_7_0 (by decide +kernel) (by decide) ?_
    obtain ⟨M39, e39, h⟩ := zS_bind h
    refine E_virV (pc := 39) (c := 3) (r := 23) (as := []) (rest := []) (zDk zD_79_ok 18 rfl) zc_79 (by decide +kernel) zk_3 ⟨(Nat.le_of_ble_eq_true rfl), rfl, rfl⟩ (Nat.le_of_ble_eq_true rfl) (zr_3 _) (Nat.lt_of_lt_of_le (by decide) hq) (by rw [zm_3]; exact (Nat.le_of_ble_eq_true rfl)) ⟨zc_3, by decide⟩ zis_0_23 (ok_lA_removeAll ⟨M39, e39, ?_⟩)
    refine E_aload_n (pc := 42) (zDk zD_79_ok 19 rfl) rfl ?_
    obtain ⟨M43, e43, h⟩ := zS_bind h
    refine E_virV (pc := 43) (c := 145) (r := 0) (as := []) (rest := []) (zDk zD_79_ok 20 rfl) zc_79 (by decide +kernel) zk_145 ⟨(Nat.le_of_ble_eq_true rfl), rfl, rfl⟩ (Nat.le_of_ble_eq_true rfl) (zr_145 _) (Nat.lt_of_lt_of_le (by decide) hq) (by rw [zm_145]; exact (Nat.le_of_ble_eq_true rfl)) ⟨zc_145, by decide⟩ zis_7_0 (ok_lX_settle ⟨M43, e43, ?_⟩)
    refine E_aload_n (pc := 46) (zDk zD_79_ok 21 rfl) rfl ?_
    refine E_getR (pc := 47) (ci := 7) (f := 1) (r := 3) (zDk zD_79_ok 22 rfl) zc_79 (by decide +kernel) (by decide) zis_7_0 (by decide +kernel) (by decide) ?_
    refine E_getI (pc := 50) (ci := 6) (f := 4) (zDk zD_79_ok 23 rfl) zc_79 (by decide +kernel) (by decide) zis_6_3 ?_
    have h := zS_some h
    exact E_ireturn (pc := 53) (zDk zD_79_ok 24 rfl) zt_79 h
  · have h := zS_f h (F_eq hz)
    refine E_bipush (pc := 21) (zDk zD_79_ok 9 rfl) (by decide +kernel) ?_
    have h := zS_some h
    exact E_ireturn (pc := 23) (zDk zD_79_ok 10 rfl) zt_79 h
def zD_212 : List (Nat × Instr × Nat) := [(0, .aload_n (0), 1), (1, .getfield (31), 3), (4, .bipush (9), 2), (6, .iaload, 1), (7, .ifCond .ne (10), 3), (10, .aload_n (0), 1), (11, .invokevirtual (230), 3), (14, .goto (7), 3), (17, .aload_n (0), 1), (18, .invokevirtual (233), 3), (21, .aload_n (0), 1), (22, .invokevirtual (143), 3), (25, .ifCond .eq (16), 3), (28, .aload_n (0), 1), (29, .getfield (119), 3), (32, .iconst (3), 1), (33, .if_icmp .eq (8), 3), (36, .aload_n (0), 1), (37, .iconst (1), 1), (38, .invokevirtual (165), 3), (41, .aload_n (0), 1), (42, .invokevirtual (143), 3), (45, .ifCond .eq (7), 3), (48, .aload_n (0), 1), (49, .invokevirtual (159), 3), (52, .aload_n (0), 1), (53, .getfield (31), 3), (56, .bipush (9), 2), (58, .dup2, 1), (59, .iaload, 1), (60, .iconst (1), 1), (61, .iadd, 1), (62, .iastore, 1), (63, .return_, 1)]
set_option maxRecDepth 100000 in
theorem zD_212_ok : zDo 212 zD_212 = true := by decide +kernel
theorem zc_212 : zcls 212 = 8 := by decide +kernel
theorem zm_212 : zml 212 = 1 := by decide +kernel
theorem zt_212 : zrt 212 = none := by decide +kernel
theorem zk_212 : zkd 212 = 1 ∧ znp 212 + 1 = 1 := by decide +kernel
theorem zr_212 (as : List zV) : zrk 212 as = 10 := by unfold zrk; rw [if_neg (by decide)]; decide +kernel
def lm_readLine_c41 (M : Nat → Nat → Int) : Option (Nat → Nat → Int) :=
    ((lm_good M).bind (fun v42 =>
    (if v42 = 0 then
    ((rdI 112 (9 : Int) M).bind (fun v59 =>
    ((wrI 112 (9 : Int) (w32 (v59 + (1 : Int))) M).bind (fun M62 =>
    (some M62)))))
    else
    ((lm_advance M).bind (fun M49 =>
    ((rdI 112 (9 : Int) M49).bind (fun v59 =>
    ((wrI 112 (9 : Int) (w32 (v59 + (1 : Int))) M49).bind (fun M62 =>
    (some M62))))))))))
set_option maxRecDepth 100000 in
theorem ok_lm_readLine_c41 {sc : zSc} {q : Nat} {P : Option zV → (Nat → Nat → Int) → Prop} (hq : 10 ≤ q) : ∀ (M : Nat → Nat → Int), zS (lm_readLine_c41 M) (fun M0 => P none M0) → zWp sc q 212 41 [some (.inr (.inr 106))] [] M P := by
  intro M h
  unfold lm_readLine_c41 at h
  refine E_aload_n (pc := 41) (zDk zD_212_ok 20 rfl) rfl ?_
  obtain ⟨v42, e42, h⟩ := zS_bind h
  refine E_virI (pc := 42) (c := 196) (r := 106) (as := []) (rest := []) (zDk zD_212_ok 21 rfl) zc_212 (by decide +kernel) zk_196 ⟨(Nat.le_of_ble_eq_true rfl), rfl, rfl⟩ (Nat.le_of_ble_eq_true rfl) (zr_196 _) (Nat.lt_of_lt_of_le (by decide) hq) (by rw [zm_196]; exact (Nat.le_of_ble_eq_true rfl)) ⟨zc_196, by decide⟩ zis_8_106 (ok_lm_good ⟨v42, e42, ?_⟩)
  refine E_if (pc := 45) (t := 52) (zDk zD_212_ok 22 rfl) rfl (fun hz => ?_) (fun hz => ?_)
  · have h := zS_t h (T_eq hz)
    refine E_aload_n (pc := 52) (zDk zD_212_ok 25 rfl) rfl ?_
    refine E_getR (pc := 53) (ci := 8) (f := 14) (r := 112) (zDk zD_212_ok 26 rfl) zc_212 (by decide +kernel) (by decide) zis_8_106 (by decide +kernel) (by decide) ?_
    refine E_bipush (pc := 56) (zDk zD_212_ok 27 rfl) (by decide +kernel) ?_
    refine E_dup2 (pc := 58) (zDk zD_212_ok 28 rfl) rfl rfl ?_
    obtain ⟨v59, e59, h⟩ := zS_bind h
    refine E_iaload (pc := 59) (zDk zD_212_ok 29 rfl) e59 ?_
    refine E_iconst (pc := 60) (zDk zD_212_ok 30 rfl) (by decide +kernel) ?_
    refine W_iadd (pc := 61) (zDk zD_212_ok 31 rfl) ?_
    obtain ⟨M62, e62, h⟩ := zS_bind h
    refine E_iastore (pc := 62) (zDk zD_212_ok 32 rfl) e62 ?_
    have h := zS_some h
    exact E_return (x := ()) (pc := 63) (zDk zD_212_ok 33 rfl) zt_212 h
  · have h := zS_f h (F_eq hz)
    refine E_aload_n (pc := 48) (zDk zD_212_ok 23 rfl) rfl ?_
    obtain ⟨M49, e49, h⟩ := zS_bind h
    refine E_virV (pc := 49) (c := 195) (r := 106) (as := []) (rest := []) (zDk zD_212_ok 24 rfl) zc_212 (by decide +kernel) zk_195 ⟨(Nat.le_of_ble_eq_true rfl), rfl, rfl⟩ (Nat.le_of_ble_eq_true rfl) (zr_195 _) (Nat.lt_of_lt_of_le (by decide) hq) (by rw [zm_195]; exact (Nat.le_of_ble_eq_true rfl)) ⟨zc_195, by decide⟩ zis_8_106 (ok_lm_advance ⟨M49, e49, ?_⟩)
    refine E_aload_n (pc := 52) (zDk zD_212_ok 25 rfl) rfl ?_
    refine E_getR (pc := 53) (ci := 8) (f := 14) (r := 112) (zDk zD_212_ok 26 rfl) zc_212 (by decide +kernel) (by decide) zis_8_106 (by decide +kernel) (by decide) ?_
    refine E_bipush (pc := 56) (zDk zD_212_ok 27 rfl) (by decide +kernel) ?_
    refine E_dup2 (pc := 58) (zDk zD_212_ok 28 rfl) rfl rfl ?_
    obtain ⟨v59, e59, h⟩ := zS_bind h
    refine E_iaload (pc := 59) (zDk zD_212_ok 29 rfl) e59 ?_
    refine E_iconst (pc := 60) (zDk zD_212_ok 30 rfl) (by decide +kernel) ?_
    refine W_iadd (pc := 61) (zDk zD_212_ok 31 rfl) ?_
    obtain ⟨M62, e62, h⟩ := zS_bind h
    refine E_iastore (pc := 62) (zDk zD_212_ok 32 rfl) e62 ?_
    have h := zS_some h
    exact E_return (x := ()) (pc := 63) (zDk zD_212_ok 33 rfl) zt_212 h
def lm_readLine_c21 (M : Nat → Nat → Int) : Option (Nat → Nat → Int) :=
    ((lm_good M).bind (fun v22 =>
    (if v22 = 0 then
    (lm_readLine_c41 M)
    else
    (if (M 106 10) = (3 : Int) then
    (lm_readLine_c41 M)
    else
    ((lm_errs (1 : Int) M).bind (fun M38 =>
    (lm_readLine_c41 M38)))))))
set_option maxRecDepth 100000 in
theorem ok_lm_readLine_c21 {sc : zSc} {q : Nat} {P : Option zV → (Nat → Nat → Int) → Prop} (hq : 10 ≤ q) : ∀ (M : Nat → Nat → Int), zS (lm_readLine_c21 M) (fun M0 => P none M0) → zWp sc q 212 21 [some (.inr (.inr 106))] [] M P := by
  intro M h
  unfold lm_readLine_c21 at h
  refine E_aload_n (pc := 21) (zDk zD_212_ok 10 rfl) rfl ?_
  obtain ⟨v22, e22, h⟩ := zS_bind h
  refine E_virI (pc := 22) (c := 196) (r := 106) (as := []) (rest := []) (zDk zD_212_ok 11 rfl) zc_212 (by decide +kernel) zk_196 ⟨(Nat.le_of_ble_eq_true rfl), rfl, rfl⟩ (Nat.le_of_ble_eq_true rfl) (zr_196 _) (Nat.lt_of_lt_of_le (by decide) hq) (by rw [zm_196]; exact (Nat.le_of_ble_eq_true rfl)) ⟨zc_196, by decide⟩ zis_8_106 (ok_lm_good ⟨v22, e22, ?_⟩)
  refine E_if (pc := 25) (t := 41) (zDk zD_212_ok 12 rfl) rfl (fun hz => ?_) (fun hz => ?_)
  · have h := zS_t h (T_eq hz)
    exact ok_lm_readLine_c41 hq M h
  · have h := zS_f h (F_eq hz)
    refine E_aload_n (pc := 28) (zDk zD_212_ok 13 rfl) rfl ?_
    refine E_getI (pc := 29) (ci := 8) (f := 10) (zDk zD_212_ok 14 rfl) zc_212 (by decide +kernel) (by decide) zis_8_106 ?_
    refine E_iconst (pc := 32) (zDk zD_212_ok 15 rfl) (by decide +kernel) ?_
    refine E_icmp (pc := 33) (t := 41) (zDk zD_212_ok 16 rfl) rfl (fun hz => ?_) (fun hz => ?_)
    · have h := zS_t h (T_eq hz)
      exact ok_lm_readLine_c41 hq M h
    · have h := zS_f h (F_eq hz)
      refine E_aload_n (pc := 36) (zDk zD_212_ok 17 rfl) rfl ?_
      refine E_iconst (pc := 37) (zDk zD_212_ok 18 rfl) (by decide +kernel) ?_
      obtain ⟨M38, e38, h⟩ := zS_bind h
      refine E_virV (pc := 38) (c := 197) (r := 106) (as := [.inl (1 : Int)]) (rest := []) (zDk zD_212_ok 19 rfl) zc_212 (by decide +kernel) zk_197 ⟨(Nat.le_of_ble_eq_true rfl), rfl, rfl⟩ (Nat.le_of_ble_eq_true rfl) (zr_197 _) (Nat.lt_of_lt_of_le (by decide) hq) (by rw [zm_197]; exact (Nat.le_of_ble_eq_true rfl)) ⟨zc_197, by decide⟩ zis_8_106 (ok_lm_errs ⟨M38, e38, ?_⟩)
      exact ok_lm_readLine_c41 hq M38 h
def lm_readLine (M : Nat → Nat → Int) : Option (Nat → Nat → Int) :=
    ((rdI 112 (9 : Int) M).bind (fun v6 =>
    (if v6 = 0 then
    ((lm_readFirst M).bind (fun M11 =>
    (lm_readLine_c21 M11)))
    else
    ((lm_readNext M).bind (fun M18 =>
    (lm_readLine_c21 M18))))))
set_option maxRecDepth 100000 in
theorem ok_lm_readLine {sc : zSc} {M : Nat → Nat → Int} {P : (Nat → Nat → Int) → Prop} (h : zS (lm_readLine M) P) : zCv sc 212 [.inr (.inr 106)] M P := by
  have ea : zarg (zml 212) [.inr (.inr 106)] = [some (.inr (.inr 106))] := by rw [zm_212]; rfl
  unfold zCv zCw
  rw [ea, zr_212]
  have hq : 10 ≤ 10 := Nat.le_refl _
  unfold lm_readLine at h
  have h := zS_mono h (fun x hx => (⟨rfl, hx⟩ : (none : Option zV) = none ∧ P x))
  skip
  refine E_aload_n (pc := 0) (zDk zD_212_ok 0 rfl) rfl ?_
  refine E_getR (pc := 1) (ci := 8) (f := 14) (r := 112) (zDk zD_212_ok 1 rfl) zc_212 (by decide +kernel) (by decide) zis_8_106 (by decide +kernel) (by decide) ?_
  refine E_bipush (pc := 4) (zDk zD_212_ok 2 rfl) (by decide +kernel) ?_
  obtain ⟨v6, e6, h⟩ := zS_bind h
  refine E_iaload (pc := 6) (zDk zD_212_ok 3 rfl) e6 ?_
  refine E_if (pc := 7) (t := 17) (zDk zD_212_ok 4 rfl) rfl (fun hz => ?_) (fun hz => ?_)
  · have h := zS_f h (T_ne hz)
    refine E_aload_n (pc := 17) (zDk zD_212_ok 8 rfl) rfl ?_
    obtain ⟨M18, e18, h⟩ := zS_bind h
    refine E_virV (pc := 18) (c := 211) (r := 106) (as := []) (rest := []) (zDk zD_212_ok 9 rfl) zc_212 (by decide +kernel) zk_211 ⟨(Nat.le_of_ble_eq_true rfl), rfl, rfl⟩ (Nat.le_of_ble_eq_true rfl) (zr_211 _) (Nat.lt_of_lt_of_le (by decide) hq) (by rw [zm_211]; exact (Nat.le_of_ble_eq_true rfl)) ⟨zc_211, by decide⟩ zis_8_106 (ok_lm_readNext ⟨M18, e18, ?_⟩)
    exact ok_lm_readLine_c21 hq M18 h
  · have h := zS_t h (F_ne hz)
    refine E_aload_n (pc := 10) (zDk zD_212_ok 5 rfl) rfl ?_
    obtain ⟨M11, e11, h⟩ := zS_bind h
    refine E_virV (pc := 11) (c := 205) (r := 106) (as := []) (rest := []) (zDk zD_212_ok 6 rfl) zc_212 (by decide +kernel) zk_205 ⟨(Nat.le_of_ble_eq_true rfl), rfl, rfl⟩ (Nat.le_of_ble_eq_true rfl) (zr_205 _) (Nat.lt_of_lt_of_le (by decide) hq) (by rw [zm_205]; exact (Nat.le_of_ble_eq_true rfl)) ⟨zc_205, by decide⟩ zis_8_106 (ok_lm_readFirst ⟨M11, e11, ?_⟩)
    refine E_goto (pc := 14) (t := 21) (zDk zD_212_ok 7 rfl) rfl ?_
    exact ok_lm_readLine_c21 hq M11 h
def zD_213 : List (Nat × Instr × Nat) := [(0, .aload_n (0), 1), (1, .aload_n (0), 1), (2, .getfield (103), 3), (5, .putfield (106), 3), (8, .aload_n (0), 1), (9, .iconst (0), 1), (10, .putfield (103), 3), (13, .aload_n (0), 1), (14, .iconst (0), 1), (15, .putfield (109), 3), (18, .aload_n (0), 1), (19, .iconst (0), 1), (20, .putfield (140), 3), (23, .aload_n (0), 1), (24, .iconst (-1), 1), (25, .putfield (27), 3), (28, .iconst (0), 1), (29, .istore_n (1), 1), (30, .iload_n (1), 1), (31, .sipush (138), 3), (34, .if_icmp .ge (16), 3), (37, .aload_n (0), 1), (38, .getfield (31), 3), (41, .iload_n (1), 1), (42, .iconst (0), 1), (43, .iastore, 1), (44, .iinc (1) (1), 3), (47, .goto (-17), 3), (50, .aload_n (0), 1), (51, .invokevirtual (159), 3), (54, .aload_n (0), 1), (55, .invokevirtual (143), 3), (58, .ifCond .eq (17), 3), (61, .aload_n (0), 1), (62, .getfield (119), 3), (65, .ifCond .eq (10), 3), (68, .aload_n (0), 1), (69, .invokevirtual (236), 3), (72, .goto (-18), 3), (75, .aload_n (0), 1), (76, .invokevirtual (143), 3), (79, .ifCond .ne (6), 3), (82, .bipush (-4), 2), (84, .ireturn, 1), (85, .iconst (0), 1), (86, .istore_n (1), 1), (87, .iload_n (1), 1), (88, .sipush (138), 3), (91, .if_icmp .ge (21), 3), (94, .aload_n (0), 1), (95, .getfield (9), 3), (98, .iload_n (1), 1), (99, .aload_n (0), 1), (100, .getfield (31), 3), (103, .iload_n (1), 1), (104, .iaload, 1), (105, .iastore, 1), (106, .iinc (1) (1), 3), (109, .goto (-22), 3), (112, .aload_n (0), 1), (113, .getfield (9), 3), (116, .bipush (9), 2), (118, .iaload, 1), (119, .ireturn, 1)]
set_option maxRecDepth 100000 in
theorem zD_213_ok : zDo 213 zD_213 = true := by decide +kernel
theorem zc_213 : zcls 213 = 8 := by decide +kernel
theorem zm_213 : zml 213 = 2 := by decide +kernel
theorem zt_213 : zrt 213 = (some (.int)) := by decide +kernel
theorem zk_213 : zkd 213 = 1 ∧ znp 213 + 1 = 1 := by decide +kernel
theorem zr_213 (as : List zV) : zrk 213 as = 11 := by unfold zrk; rw [if_neg (by decide)]; decide +kernel
def lm_state_c87 : Nat → Int → (Nat → Nat → Int) → Option (Int × (Nat → Nat → Int))
  | 0, _, _ => none
  | n + 1, y1, M =>
    (if y1 < (138 : Int) then
    ((rdI 112 y1 M).bind (fun v104 =>
    ((wrI 107 y1 v104 M).bind (fun M105 =>
    ((lm_state_c87 n) (w32 (y1 + 1)) M105)))))
    else
    ((rdI 107 (9 : Int) M).bind (fun v118 =>
    (some (v118, M)))))
set_option maxRecDepth 100000 in
theorem ok_lm_state_c87 {sc : zSc} {q : Nat} {P : Option zV → (Nat → Nat → Int) → Prop} (hq : 11 ≤ q) : ∀ (n : Nat) (y1 : Int) (M : Nat → Nat → Int), zS (lm_state_c87 n y1 M) (fun r => P (some (.inl r.1)) r.2) → zWp sc q 213 87 [some (.inr (.inr 106)), some (.inl y1)] [] M P := by
  intro n
  induction n with
  | zero => intro y1 M h; exact (zS_none h).elim
  | succ n ih =>
    intro y1 M h
    rw [lm_state_c87] at h
    refine E_iload_n (pc := 87) (zDk zD_213_ok 46 rfl) rfl ?_
    refine E_sipush (pc := 88) (zDk zD_213_ok 47 rfl) (by decide +kernel) ?_
    refine E_icmp (pc := 91) (t := 112) (zDk zD_213_ok 48 rfl) rfl (fun hz => ?_) (fun hz => ?_)
    · have h := zS_f h (Int.not_lt.mpr (T_ge hz))
      refine E_aload_n (pc := 112) (zDk zD_213_ok 59 rfl) rfl ?_
      refine E_getR (pc := 113) (ci := 8) (f := 1) (r := 107) (zDk zD_213_ok 60 rfl) zc_213 (by decide +kernel) (by decide) zis_8_106 (by decide +kernel) (by decide) ?_
      refine E_bipush (pc := 116) (zDk zD_213_ok 61 rfl) (by decide +kernel) ?_
      obtain ⟨v118, e118, h⟩ := zS_bind h
      refine E_iaload (pc := 118) (zDk zD_213_ok 62 rfl) e118 ?_
      have h := zS_some h
      exact E_ireturn (pc := 119) (zDk zD_213_ok 63 rfl) zt_213 h
    · have h := zS_t h (F_ge hz)
      refine E_aload_n (pc := 94) (zDk zD_213_ok 49 rfl) rfl ?_
      refine E_getR (pc := 95) (ci := 8) (f := 1) (r := 107) (zDk zD_213_ok 50 rfl) zc_213 (by decide +kernel) (by decide) zis_8_106 (by decide +kernel) (by decide) ?_
      refine E_iload_n (pc := 98) (zDk zD_213_ok 51 rfl) rfl ?_
      refine E_aload_n (pc := 99) (zDk zD_213_ok 52 rfl) rfl ?_
      refine E_getR (pc := 100) (ci := 8) (f := 14) (r := 112) (zDk zD_213_ok 53 rfl) zc_213 (by decide +kernel) (by decide) zis_8_106 (by decide +kernel) (by decide) ?_
      refine E_iload_n (pc := 103) (zDk zD_213_ok 54 rfl) rfl ?_
      obtain ⟨v104, e104, h⟩ := zS_bind h
      refine E_iaload (pc := 104) (zDk zD_213_ok 55 rfl) e104 ?_
      obtain ⟨M105, e105, h⟩ := zS_bind h
      refine E_iastore (pc := 105) (zDk zD_213_ok 56 rfl) e105 ?_
      refine W_iinc (pc := 106) (L' := [some (.inr (.inr 106)), some (.inl (w32 (y1 + 1)))]) (zDk zD_213_ok 57 rfl) rfl zm_213 (by decide) rfl ?_
      refine E_goto (pc := 109) (t := 87) (zDk zD_213_ok 58 rfl) rfl ?_
      exact (ih) (w32 (y1 + 1)) M105 h
def lm_state_c54 : Nat → (Nat → Nat → Int) → Option (Int × (Nat → Nat → Int))
  | 0, _ => none
  | n + 1, M =>
    ((lm_good M).bind (fun v55 =>
    (if v55 = 0 then
    ((lm_good M).bind (fun v76 =>
    (if v76 = 0 then
    (some ((-4 : Int), M))
    else
    (lm_state_c87 zN (0 : Int) M))))
    else
    (if (M 106 10) = 0 then
    ((lm_good M).bind (fun v76 =>
    (if v76 = 0 then
    (some ((-4 : Int), M))
    else
    (lm_state_c87 zN (0 : Int) M))))
    else
    ((lm_readLine M).bind (fun M69 =>
    ((lm_state_c54 n) M69)))))))
set_option maxRecDepth 100000 in
theorem ok_lm_state_c54 {sc : zSc} {q : Nat} {P : Option zV → (Nat → Nat → Int) → Prop} (hq : 11 ≤ q) : ∀ (n : Nat) (M : Nat → Nat → Int) (d1 : Option zV), zS (lm_state_c54 n M) (fun r => P (some (.inl r.1)) r.2) → zWp sc q 213 54 [some (.inr (.inr 106)), d1] [] M P := by
  intro n
  induction n with
  | zero => intro M d1 h; exact (zS_none h).elim
  | succ n ih =>
    intro M d1 h
    rw [lm_state_c54] at h
    refine E_aload_n (pc := 54) (zDk zD_213_ok 30 rfl) rfl ?_
    obtain ⟨v55, e55, h⟩ := zS_bind h
    refine E_virI (pc := 55) (c := 196) (r := 106) (as := []) (rest := []) (zDk zD_213_ok 31 rfl) zc_213 (by decide +kernel) zk_196 ⟨(Nat.le_of_ble_eq_true rfl), rfl, rfl⟩ (Nat.le_of_ble_eq_true rfl) (zr_196 _) (Nat.lt_of_lt_of_le (by decide) hq) (by rw [zm_196]; exact (Nat.le_of_ble_eq_true rfl)) ⟨zc_196, by decide⟩ zis_8_106 (ok_lm_good ⟨v55, e55, ?_⟩)
    refine E_if (pc := 58) (t := 75) (zDk zD_213_ok 32 rfl) rfl (fun hz => ?_) (fun hz => ?_)
    · have h := zS_t h (T_eq hz)
      refine E_aload_n (pc := 75) (zDk zD_213_ok 39 rfl) rfl ?_
      obtain ⟨v76, e76, h⟩ := zS_bind h
      refine E_virI (pc := 76) (c := 196) (r := 106) (as := []) (rest := []) (zDk zD_213_ok 40 rfl) zc_213 (by decide +kernel) zk_196 ⟨(Nat.le_of_ble_eq_true rfl), rfl, rfl⟩ (Nat.le_of_ble_eq_true rfl) (zr_196 _) (Nat.lt_of_lt_of_le (by decide) hq) (by rw [zm_196]; exact (Nat.le_of_ble_eq_true rfl)) ⟨zc_196, by decide⟩ zis_8_106 (ok_lm_good ⟨v76, e76, ?_⟩)
      refine E_if (pc := 79) (t := 85) (zDk zD_213_ok 41 rfl) rfl (fun hz => ?_) (fun hz => ?_)
      · have h := zS_f h (T_ne hz)
        refine E_iconst (pc := 85) (zDk zD_213_ok 44 rfl) (by decide +kernel) ?_
        refine W_istore_n (pc := 86) (L' := [some (.inr (.inr 106)), some (.inl (0 : Int))]) (zDk zD_213_ok 45 rfl) zm_213 (by decide) rfl ?_
        exact ok_lm_state_c87 hq zN (0 : Int) M h
      · have h := zS_t h (F_ne hz)
        refine E_bipush (pc := 82) (zDk zD_213_ok 42 rfl) (by decide +kernel) ?_
        have h := zS_some h
        exact E_ireturn (pc := 84) (zDk zD_213_ok 43 rfl) zt_213 h
    · have h := zS_f h (F_eq hz)
      refine E_aload_n (pc := 61) (zDk zD_213_ok 33 rfl) rfl ?_
      refine E_getI (pc := 62) (ci := 8) (f := 10) (zDk zD_213_ok 34 rfl) zc_213 (by decide +kernel) (by decide) zis_8_106 ?_
      refine E_if (pc := 65) (t := 75) (zDk zD_213_ok 35 rfl) rfl (fun hz => ?_) (fun hz => ?_)
      · have h := zS_t h (T_eq hz)
        refine E_aload_n (pc := 75) (zDk zD_213_ok 39 rfl) rfl ?_
        obtain ⟨v76, e76, h⟩ := zS_bind h
        refine E_virI (pc := 76) (c := 196) (r := 106) (as := []) (rest := []) (zDk zD_213_ok 40 rfl) zc_213 (by decide +kernel) zk_196 ⟨(Nat.le_of_ble_eq_true rfl), rfl, rfl⟩ (Nat.le_of_ble_eq_true rfl) (zr_196 _) (Nat.lt_of_lt_of_le (by decide) hq) (by rw [zm_196]; exact (Nat.le_of_ble_eq_true rfl)) ⟨zc_196, by decide⟩ zis_8_106 (ok_lm_good ⟨v76, e76, ?_⟩)
        refine E_if (pc := 79) (t := 85) (zDk zD_213_ok 41 rfl) rfl (fun hz => ?_) (fun hz => ?_)
        · have h := zS_f h (T_ne hz)
          refine E_iconst (pc := 85) (zDk zD_213_ok 44 rfl) (by decide +kernel) ?_
          refine W_istore_n (pc := 86) (L' := [some (.inr (.inr 106)), some (.inl (0 : Int))]) (zDk zD_213_ok 45 rfl) zm_213 (by decide) rfl ?_
          exact ok_lm_state_c87 hq zN (0 : Int) M h
        · have h := zS_t h (F_ne hz)
          refine E_bipush (pc := 82) (zDk zD_213_ok 42 rfl) (by decide +kernel) ?_
          have h := zS_some h
          exact E_ireturn (pc := 84) (zDk zD_213_ok 43 rfl) zt_213 h
      · have h := zS_f h (F_eq hz)
        refine E_aload_n (pc := 68) (zDk zD_213_ok 36 rfl) rfl ?_
        obtain ⟨M69, e69, h⟩ := zS_bind h
        refine E_virV (pc := 69) (c := 212) (r := 106) (as := []) (rest := []) (zDk zD_213_ok 37 rfl) zc_213 (by decide +kernel) zk_212 ⟨(Nat.le_of_ble_eq_true rfl), rfl, rfl⟩ (Nat.le_of_ble_eq_true rfl) (zr_212 _) (Nat.lt_of_lt_of_le (by decide) hq) (by rw [zm_212]; exact (Nat.le_of_ble_eq_true rfl)) ⟨zc_212, by decide⟩ zis_8_106 (ok_lm_readLine ⟨M69, e69, ?_⟩)
        refine E_goto (pc := 72) (t := 54) (zDk zD_213_ok 38 rfl) rfl ?_
        exact (ih) M69 d1 h
def lm_state_c30 : Nat → Int → (Nat → Nat → Int) → Option (Int × (Nat → Nat → Int))
  | 0, _, _ => none
  | n + 1, y1, M =>
    (if y1 < (138 : Int) then
    ((wrI 112 y1 (0 : Int) M).bind (fun M43 =>
    ((lm_state_c30 n) (w32 (y1 + 1)) M43)))
    else
    ((lm_advance M).bind (fun M51 =>
    (lm_state_c54 zN M51))))
set_option maxRecDepth 100000 in
theorem ok_lm_state_c30 {sc : zSc} {q : Nat} {P : Option zV → (Nat → Nat → Int) → Prop} (hq : 11 ≤ q) : ∀ (n : Nat) (y1 : Int) (M : Nat → Nat → Int), zS (lm_state_c30 n y1 M) (fun r => P (some (.inl r.1)) r.2) → zWp sc q 213 30 [some (.inr (.inr 106)), some (.inl y1)] [] M P := by
  intro n
  induction n with
  | zero => intro y1 M h; exact (zS_none h).elim
  | succ n ih =>
    intro y1 M h
    rw [lm_state_c30] at h
    refine E_iload_n (pc := 30) (zDk zD_213_ok 18 rfl) rfl ?_
    refine E_sipush (pc := 31) (zDk zD_213_ok 19 rfl) (by decide +kernel) ?_
    refine E_icmp (pc := 34) (t := 50) (zDk zD_213_ok 20 rfl) rfl (fun hz => ?_) (fun hz => ?_)
    · have h := zS_f h (Int.not_lt.mpr (T_ge hz))
      refine E_aload_n (pc := 50) (zDk zD_213_ok 28 rfl) rfl ?_
      obtain ⟨M51, e51, h⟩ := zS_bind h
      refine E_virV (pc := 51) (c := 195) (r := 106) (as := []) (rest := []) (zDk zD_213_ok 29 rfl) zc_213 (by decide +kernel) zk_195 ⟨(Nat.le_of_ble_eq_true rfl), rfl, rfl⟩ (Nat.le_of_ble_eq_true rfl) (zr_195 _) (Nat.lt_of_lt_of_le (by decide) hq) (by rw [zm_195]; exact (Nat.le_of_ble_eq_true rfl)) ⟨zc_195, by decide⟩ zis_8_106 (ok_lm_advance ⟨M51, e51, ?_⟩)
      exact ok_lm_state_c54 hq zN M51 (some (.inl y1)) h
    · have h := zS_t h (F_ge hz)
      refine E_aload_n (pc := 37) (zDk zD_213_ok 21 rfl) rfl ?_
      refine E_getR (pc := 38) (ci := 8) (f := 14) (r := 112) (zDk zD_213_ok 22 rfl) zc_213 (by decide +kernel) (by decide) zis_8_106 (by decide +kernel) (by decide) ?_
      refine E_iload_n (pc := 41) (zDk zD_213_ok 23 rfl) rfl ?_
      refine E_iconst (pc := 42) (zDk zD_213_ok 24 rfl) (by decide +kernel) ?_
      obtain ⟨M43, e43, h⟩ := zS_bind h
      refine E_iastore (pc := 43) (zDk zD_213_ok 25 rfl) e43 ?_
      refine W_iinc (pc := 44) (L' := [some (.inr (.inr 106)), some (.inl (w32 (y1 + 1)))]) (zDk zD_213_ok 26 rfl) rfl zm_213 (by decide) rfl ?_
      refine E_goto (pc := 47) (t := 30) (zDk zD_213_ok 27 rfl) rfl ?_
      exact (ih) (w32 (y1 + 1)) M43 h
def lm_state (M : Nat → Nat → Int) : Option (Int × (Nat → Nat → Int)) :=
    ((some (zup M 106 7 (M 106 5))).bind (fun M5 =>
    ((some (zup M5 106 5 (0 : Int))).bind (fun M10 =>
    ((some (zup M10 106 8 (0 : Int))).bind (fun M15 =>
    ((some (zup M15 106 12 (0 : Int))).bind (fun M20 =>
    ((some (zup M20 106 13 (-1 : Int))).bind (fun M25 =>
    (lm_state_c30 zN (0 : Int) M25)))))))))))
set_option maxRecDepth 100000 in
theorem ok_lm_state {sc : zSc} {M : Nat → Nat → Int} {P : Int → (Nat → Nat → Int) → Prop} (h : zS (lm_state M) (fun r => P r.1 r.2)) : zCi sc 213 [.inr (.inr 106)] M P := by
  have ea : zarg (zml 213) [.inr (.inr 106)] = [some (.inr (.inr 106)), none] := by rw [zm_213]; rfl
  unfold zCi zCw
  rw [ea, zr_213]
  have hq : 11 ≤ 11 := Nat.le_refl _
  unfold lm_state at h
  have h := zS_mono h (fun x hx => (⟨x.1, rfl, hx⟩ : ∃ y, (some (.inl x.1) : Option zV) = some (.inl y) ∧ P y x.2))
  skip
  refine E_aload_n (pc := 0) (zDk zD_213_ok 0 rfl) rfl ?_
  refine E_aload_n (pc := 1) (zDk zD_213_ok 1 rfl) rfl ?_
  refine E_getI (pc := 2) (ci := 8) (f := 5) (zDk zD_213_ok 2 rfl) zc_213 (by decide +kernel) (by decide) zis_8_106 ?_
  obtain ⟨M5, e5, h⟩ := zS_bind h
  refine W_putI (pc := 5) (ci := 8) (f := 7) (zDk zD_213_ok 3 rfl) zc_213 (by decide +kernel) (by decide) zis_8_106 (Option.some.inj e5) ?_
  refine E_aload_n (pc := 8) (zDk zD_213_ok 4 rfl) rfl ?_
  refine E_iconst (pc := 9) (zDk zD_213_ok 5 rfl) (by decide +kernel) ?_
  obtain ⟨M10, e10, h⟩ := zS_bind h
  refine W_putI (pc := 10) (ci := 8) (f := 5) (zDk zD_213_ok 6 rfl) zc_213 (by decide +kernel) (by decide) zis_8_106 (Option.some.inj e10) ?_
  refine E_aload_n (pc := 13) (zDk zD_213_ok 7 rfl) rfl ?_
  refine E_iconst (pc := 14) (zDk zD_213_ok 8 rfl) (by decide +kernel) ?_
  obtain ⟨M15, e15, h⟩ := zS_bind h
  refine W_putI (pc := 15) (ci := 8) (f := 8) (zDk zD_213_ok 9 rfl) zc_213 (by decide +kernel) (by decide) zis_8_106 (Option.some.inj e15) ?_
  refine E_aload_n (pc := 18) (zDk zD_213_ok 10 rfl) rfl ?_
  refine E_iconst (pc := 19) (zDk zD_213_ok 11 rfl) (by decide +kernel) ?_
  obtain ⟨M20, e20, h⟩ := zS_bind h
  refine W_putI (pc := 20) (ci := 8) (f := 12) (zDk zD_213_ok 12 rfl) zc_213 (by decide +kernel) (by decide) zis_8_106 (Option.some.inj e20) ?_
  refine E_aload_n (pc := 23) (zDk zD_213_ok 13 rfl) rfl ?_
  refine E_iconst (pc := 24) (zDk zD_213_ok 14 rfl) (by decide +kernel) ?_
  obtain ⟨M25, e25, h⟩ := zS_bind h
  refine W_putI (pc := 25) (ci := 8) (f := 13) (zDk zD_213_ok 15 rfl) zc_213 (by decide +kernel) (by decide) zis_8_106 (Option.some.inj e25) ?_
  refine E_iconst (pc := 28) (zDk zD_213_ok 16 rfl) (by decide +kernel) ?_
  refine W_istore_n (pc := 29) (L' := [some (.inr (.inr 106)), some (.inl (0 : Int))]) (zDk zD_213_ok 17 rfl) zm_213 (by decide) rfl ?_
  exact ok_lm_state_c30 hq zN (0 : Int) M25 h
