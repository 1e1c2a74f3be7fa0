/-! The law: its loop (written by wip/whole/lift.py). -/
def lQ_law_c320 (sc : zSc) (h18 : Int → (Nat → Nat → Int) → Option (Int × (Nat → Nat → Int))) (y3 : Int) (M : Nat → Nat → Int) : Option (Int × (Nat → Nat → Int)) :=
    ((rdX sc (w32 (y3 + (1 : Int)))).bind (fun v325 =>
    ((rdX sc (w32 (y3 + (2 : Int)))).bind (fun v330 =>
    ((rdX sc (w32 (y3 + (3 : Int)))).bind (fun v335 =>
    ((rdX sc (w32 (y3 + (4 : Int)))).bind (fun v340 =>
    ((rdX sc (w32 (y3 + (5 : Int)))).bind (fun v345 =>
    ((lX_feed v325 v330 v335 v340 v345 M).bind (fun r346_ =>
    ((rdX sc (w32 (y3 + (1 : Int)))).bind (fun v354 =>
    ((rdX sc (w32 (y3 + (2 : Int)))).bind (fun v359 =>
    ((rdX sc (w32 (y3 + (3 : Int)))).bind (fun v364 =>
    ((rdX sc (w32 (y3 + (4 : Int)))).bind (fun v369 =>
    ((rdX sc (w32 (y3 + (5 : Int)))).bind (fun v374 =>
    ((lm_feed v354 v359 v364 v369 v374 r346_.2).bind (fun r375_ =>
    (if r346_.1 = r375_.1 then
    (h18 (w32 (y3 + 6)) r375_.2)
    else
    (some ((0 : Int), r375_.2)))))))))))))))))))))))))))
set_option maxRecDepth 100000 in
theorem ok_lQ_law_c320 {q : Nat} {P : Option zV → (Nat → Nat → Int) → Prop} (hq : 20 ≤ q) (sc : zSc) (h18 : Int → (Nat → Nat → Int) → Option (Int × (Nat → Nat → Int))) (H18 : ∀ (y3 : Int) (M : Nat → Nat → Int), zS (h18 y3 M) (fun r => P (some (.inl r.1)) r.2) → zWp sc q 331 18 [some (.inr (.inr 5001)), some (.inr (.inr 0)), some (.inr (.inr 106)), some (.inl y3)] [] M P) : ∀ (y3 : Int) (M : Nat → Nat → Int), zS (lQ_law_c320 sc h18 y3 M) (fun r => P (some (.inl r.1)) r.2) → zWp sc q 331 320 [some (.inr (.inr 5001)), some (.inr (.inr 0)), some (.inr (.inr 106)), some (.inl y3)] [] M P := by
  intro y3 M h
  unfold lQ_law_c320 at h
  refine E_aload_n (pc := 320) (zDk zD_331_0_ok 22 rfl) rfl ?_
  refine E_aload_n (pc := 321) (zDk zD_331_0_ok 23 rfl) rfl ?_
  refine E_iload_n (pc := 322) (zDk zD_331_0_ok 24 rfl) rfl ?_
  refine E_iconst (pc := 323) (zDk zD_331_0_ok 25 rfl) (by decide +kernel) ?_
  refine W_iadd (pc := 324) (zDk zD_331_0_ok 26 rfl) ?_
  obtain ⟨v325, e325, h⟩ := zS_bind h
  refine E_ialoadX (pc := 325) (zDk zD_331_0_ok 27 rfl) e325 ?_
  refine E_aload_n (pc := 326) (zDk zD_331_0_ok 28 rfl) rfl ?_
  refine E_iload_n (pc := 327) (zDk zD_331_0_ok 29 rfl) rfl ?_
  refine E_iconst (pc := 328) (zDk zD_331_0_ok 30 rfl) (by decide +kernel) ?_
  refine W_iadd (pc := 329) (zDk zD_331_0_ok 31 rfl) ?_
  obtain ⟨v330, e330, h⟩ := zS_bind h
  refine E_ialoadX (pc := 330) (zDk zD_331_0_ok 32 rfl) e330 ?_
  refine E_aload_n (pc := 331) (zDk zD_331_0_ok 33 rfl) rfl ?_
  refine E_iload_n (pc := 332) (zDk zD_331_0_ok 34 rfl) rfl ?_
  refine E_iconst (pc := 333) (zDk zD_331_0_ok 35 rfl) (by decide +kernel) ?_
  refine W_iadd (pc := 334) (zDk zD_331_0_ok 36 rfl) ?_
  obtain ⟨v335, e335, h⟩ := zS_bind h
  refine E_ialoadX (pc := 335) (zDk zD_331_0_ok 37 rfl) e335 ?_
  refine E_aload_n (pc := 336) (zDk zD_331_0_ok 38 rfl) rfl ?_
  refine E_iload_n (pc := 337) (zDk zD_331_0_ok 39 rfl) rfl ?_
  refine E_iconst (pc := 338) (zDk zD_331_0_ok 40 rfl) (by decide +kernel) ?_
  refine W_iadd (pc := 339) (zDk zD_331_0_ok 41 rfl) ?_
  obtain ⟨v340, e340, h⟩ := zS_bind h
  refine E_ialoadX (pc := 340) (zDk zD_331_0_ok 42 rfl) e340 ?_
  refine E_aload_n (pc := 341) (zDk zD_331_0_ok 43 rfl) rfl ?_
  refine E_iload_n (pc := 342) (zDk zD_331_0_ok 44 rfl) rfl ?_
  refine E_iconst (pc := 343) (zDk zD_331_0_ok 45 rfl) (by decide +kernel) ?_
  refine W_iadd (pc := 344) (zDk zD_331_0_ok 46 rfl) ?_
  obtain ⟨v345, e345, h⟩ := zS_bind h
  refine E_ialoadX (pc := 345) (zDk zD_331_0_ok 47 rfl) e345 ?_
  obtain ⟨r346_, e346, h⟩ := zS_bind h
  refine E_virI (pc := 346) (c := 77) (r := 0) (as := [.inl v325, .inl v330, .inl v335, .inl v340, .inl v345]) (rest := []) (zDk zD_331_0_ok 48 rfl) zc_331 (by decide +kernel) zk_77 ⟨(Nat.le_of_ble_eq_true rfl), rfl, rfl⟩ (Nat.le_of_ble_eq_true rfl) (zr_77 _) (Nat.lt_of_lt_of_le (by decide) hq) (by rw [zm_77]; exact (Nat.le_of_ble_eq_true rfl)) ⟨zc_77, by decide⟩ zis_7_0 (ok_lX_feed ⟨r346_, e346, ?_⟩)
  refine E_aload_n (pc := 349) (zDk zD_331_0_ok 49 rfl) rfl ?_
  refine E_aload_n (pc := 350) (zDk zD_331_0_ok 50 rfl) rfl ?_
  refine E_iload_n (pc := 351) (zDk zD_331_0_ok 51 rfl) rfl ?_
  refine E_iconst (pc := 352) (zDk zD_331_0_ok 52 rfl) (by decide +kernel) ?_
  refine W_iadd (pc := 353) (zDk zD_331_0_ok 53 rfl) ?_
  obtain ⟨v354, e354, h⟩ := zS_bind h
  refine E_ialoadX (pc := 354) (zDk zD_331_0_ok 54 rfl) e354 ?_
  refine E_aload_n (pc := 355) (zDk zD_331_0_ok 55 rfl) rfl ?_
  refine E_iload_n (pc := 356) (zDk zD_331_0_ok 56 rfl) rfl ?_
  refine E_iconst (pc := 357) (zDk zD_331_0_ok 57 rfl) (by decide +kernel) ?_
  refine W_iadd (pc := 358) (zDk zD_331_0_ok 58 rfl) ?_
  obtain ⟨v359, e359, h⟩ := zS_bind h
  refine E_ialoadX (pc := 359) (zDk zD_331_0_ok 59 rfl) e359 ?_
  refine E_aload_n (pc := 360) (zDk zD_331_1_ok 0 rfl) rfl ?_
  refine E_iload_n (pc := 361) (zDk zD_331_1_ok 1 rfl) rfl ?_
  refine E_iconst (pc := 362) (zDk zD_331_1_ok 2 rfl) (by decide +kernel) ?_
  refine W_iadd (pc := 363) (zDk zD_331_1_ok 3 rfl) ?_
  obtain ⟨v364, e364, h⟩ := zS_bind h
  refine E_ialoadX (pc := 364) (zDk zD_331_1_ok 4 rfl) e364 ?_
  refine E_aload_n (pc := 365) (zDk zD_331_1_ok 5 rfl) rfl ?_
  refine E_iload_n (pc := 366) (zDk zD_331_1_ok 6 rfl) rfl ?_
  refine E_iconst (pc := 367) (zDk zD_331_1_ok 7 rfl) (by decide +kernel) ?_
  refine W_iadd (pc := 368) (zDk zD_331_1_ok 8 rfl) ?_
  obtain ⟨v369, e369, h⟩ := zS_bind h
  refine E_ialoadX (pc := 369) (zDk zD_331_1_ok 9 rfl) e369 ?_
  refine E_aload_n (pc := 370) (zDk zD_331_1_ok 10 rfl) rfl ?_
  refine E_iload_n (pc := 371) (zDk zD_331_1_ok 11 rfl) rfl ?_
  refine E_iconst (pc := 372) (zDk zD_331_1_ok 12 rfl) (by decide +kernel) ?_
  refine W_iadd (pc := 373) (zDk zD_331_1_ok 13 rfl) ?_
  obtain ⟨v374, e374, h⟩ := zS_bind h
  refine E_ialoadX (pc := 374) (zDk zD_331_1_ok 14 rfl) e374 ?_
  obtain ⟨r375_, e375, h⟩ := zS_bind h
  refine E_virI (pc := 375) (c := 192) (r := 106) (as := [.inl v354, .inl v359, .inl v364, .inl v369, .inl v374]) (rest := [.inl r346_.1]) (zDk zD_331_1_ok 15 rfl) zc_331 (by decide +kernel) zk_192 ⟨(Nat.le_of_ble_eq_true rfl), rfl, rfl⟩ (Nat.le_of_ble_eq_true rfl) (zr_192 _) (Nat.lt_of_lt_of_le (by decide) hq) (by rw [zm_192]; exact (Nat.le_of_ble_eq_true rfl)) ⟨zc_192, by decide⟩ zis_8_106 (ok_lm_feed ⟨r375_, e375, ?_⟩)
  refine E_icmp (pc := 378) (t := 2236) (zDk zD_331_1_ok 16 rfl) rfl (fun hz => ?_) (fun hz => ?_)
  · have h := zS_t h (T_eq hz)
    refine W_iinc (pc := 2236) (L' := [some (.inr (.inr 5001)), some (.inr (.inr 0)), some (.inr (.inr 106)), some (.inl (w32 (y3 + 6)))]) (zDk zD_331_25_ok 24 rfl) rfl zm_331 (by decide) rfl ?_
    refine E_goto (pc := 2239) (t := 18) (zDk zD_331_25_ok 25 rfl) rfl ?_
    exact H18 (w32 (y3 + 6)) r375_.2 h
  · have h := zS_f h (F_eq hz)
    refine E_iconst (pc := 381) (zDk zD_331_1_ok 17 rfl) (by decide +kernel) ?_
    have h := zS_some h
    exact E_ireturnZ (pc := 382) (zDk zD_331_1_ok 18 rfl) zt_331 (by decide) h
def lQ_law_c383 (sc : zSc) (h18 : Int → (Nat → Nat → Int) → Option (Int × (Nat → Nat → Int))) (y3 : Int) (M : Nat → Nat → Int) : Option (Int × (Nat → Nat → Int)) :=
    ((rdX sc (w32 (y3 + (1 : Int)))).bind (fun v388 =>
    ((lX_end v388 M).bind (fun r389_ =>
    ((rdX sc (w32 (y3 + (1 : Int)))).bind (fun v397 =>
    ((lm_end v397 r389_.2).bind (fun r398_ =>
    (if r389_.1 = r398_.1 then
    (h18 (w32 (y3 + 6)) r398_.2)
    else
    (some ((0 : Int), r398_.2)))))))))))
set_option maxRecDepth 100000 in
theorem ok_lQ_law_c383 {q : Nat} {P : Option zV → (Nat → Nat → Int) → Prop} (hq : 20 ≤ q) (sc : zSc) (h18 : Int → (Nat → Nat → Int) → Option (Int × (Nat → Nat → Int))) (H18 : ∀ (y3 : Int) (M : Nat → Nat → Int), zS (h18 y3 M) (fun r => P (some (.inl r.1)) r.2) → zWp sc q 331 18 [some (.inr (.inr 5001)), some (.inr (.inr 0)), some (.inr (.inr 106)), some (.inl y3)] [] M P) : ∀ (y3 : Int) (M : Nat → Nat → Int), zS (lQ_law_c383 sc h18 y3 M) (fun r => P (some (.inl r.1)) r.2) → zWp sc q 331 383 [some (.inr (.inr 5001)), some (.inr (.inr 0)), some (.inr (.inr 106)), some (.inl y3)] [] M P := by
  intro y3 M h
  unfold lQ_law_c383 at h
  refine E_aload_n (pc := 383) (zDk zD_331_1_ok 19 rfl) rfl ?_
  refine E_aload_n (pc := 384) (zDk zD_331_1_ok 20 rfl) rfl ?_
  refine E_iload_n (pc := 385) (zDk zD_331_1_ok 21 rfl) rfl ?_
  refine E_iconst (pc := 386) (zDk zD_331_1_ok 22 rfl) (by decide +kernel) ?_
  refine W_iadd (pc := 387) (zDk zD_331_1_ok 23 rfl) ?_
  obtain ⟨v388, e388, h⟩ := zS_bind h
  refine E_ialoadX (pc := 388) (zDk zD_331_1_ok 24 rfl) e388 ?_
  obtain ⟨r389_, e389, h⟩ := zS_bind h
  refine E_virI (pc := 389) (c := 78) (r := 0) (as := [.inl v388]) (rest := []) (zDk zD_331_1_ok 25 rfl) zc_331 (by decide +kernel) zk_78 ⟨(Nat.le_of_ble_eq_true rfl), rfl, rfl⟩ (Nat.le_of_ble_eq_true rfl) (zr_78 _) (Nat.lt_of_lt_of_le (by decide) hq) (by rw [zm_78]; exact (Nat.le_of_ble_eq_true rfl)) ⟨zc_78, by decide⟩ zis_7_0 (ok_lX_end ⟨r389_, e389, ?_⟩)
  refine E_aload_n (pc := 392) (zDk zD_331_1_ok 26 rfl) rfl ?_
  refine E_aload_n (pc := 393) (zDk zD_331_1_ok 27 rfl) rfl ?_
  refine E_iload_n (pc := 394) (zDk zD_331_1_ok 28 rfl) rfl ?_
  refine E_iconst (pc := 395) (zDk zD_331_1_ok 29 rfl) (by decide +kernel) ?_
  refine W_iadd (pc := 396) (zDk zD_331_1_ok 30 rfl) ?_
  obtain ⟨v397, e397, h⟩ := zS_bind h
  refine E_ialoadX (pc := 397) (zDk zD_331_1_ok 31 rfl) e397 ?_
  obtain ⟨r398_, e398, h⟩ := zS_bind h
  refine E_virI (pc := 398) (c := 193) (r := 106) (as := [.inl v397]) (rest := [.inl r389_.1]) (zDk zD_331_1_ok 32 rfl) zc_331 (by decide +kernel) zk_193 ⟨(Nat.le_of_ble_eq_true rfl), rfl, rfl⟩ (Nat.le_of_ble_eq_true rfl) (zr_193 _) (Nat.lt_of_lt_of_le (by decide) hq) (by rw [zm_193]; exact (Nat.le_of_ble_eq_true rfl)) ⟨zc_193, by decide⟩ zis_8_106 (ok_lm_end ⟨r398_, e398, ?_⟩)
  refine E_icmp (pc := 401) (t := 2236) (zDk zD_331_1_ok 33 rfl) rfl (fun hz => ?_) (fun hz => ?_)
  · have h := zS_t h (T_eq hz)
    refine W_iinc (pc := 2236) (L' := [some (.inr (.inr 5001)), some (.inr (.inr 0)), some (.inr (.inr 106)), some (.inl (w32 (y3 + 6)))]) (zDk zD_331_25_ok 24 rfl) rfl zm_331 (by decide) rfl ?_
    refine E_goto (pc := 2239) (t := 18) (zDk zD_331_25_ok 25 rfl) rfl ?_
    exact H18 (w32 (y3 + 6)) r398_.2 h
  · have h := zS_f h (F_eq hz)
    refine E_iconst (pc := 404) (zDk zD_331_1_ok 34 rfl) (by decide +kernel) ?_
    have h := zS_some h
    exact E_ireturnZ (pc := 405) (zDk zD_331_1_ok 35 rfl) zt_331 (by decide) h
def lQ_law_c406 (sc : zSc) (h18 : Int → (Nat → Nat → Int) → Option (Int × (Nat → Nat → Int))) (y3 : Int) (M : Nat → Nat → Int) : Option (Int × (Nat → Nat → Int)) :=
    ((lX_state M).bind (fun r407_ =>
    ((lm_state r407_.2).bind (fun r411_ =>
    (if r407_.1 = r411_.1 then
    (h18 (w32 (y3 + 6)) r411_.2)
    else
    (some ((0 : Int), r411_.2)))))))
set_option maxRecDepth 100000 in
theorem ok_lQ_law_c406 {q : Nat} {P : Option zV → (Nat → Nat → Int) → Prop} (hq : 20 ≤ q) (sc : zSc) (h18 : Int → (Nat → Nat → Int) → Option (Int × (Nat → Nat → Int))) (H18 : ∀ (y3 : Int) (M : Nat → Nat → Int), zS (h18 y3 M) (fun r => P (some (.inl r.1)) r.2) → zWp sc q 331 18 [some (.inr (.inr 5001)), some (.inr (.inr 0)), some (.inr (.inr 106)), some (.inl y3)] [] M P) : ∀ (y3 : Int) (M : Nat → Nat → Int), zS (lQ_law_c406 sc h18 y3 M) (fun r => P (some (.inl r.1)) r.2) → zWp sc q 331 406 [some (.inr (.inr 5001)), some (.inr (.inr 0)), some (.inr (.inr 106)), some (.inl y3)] [] M P := by
  intro y3 M h
  unfold lQ_law_c406 at h
  refine E_aload_n (pc := 406) (zDk zD_331_1_ok 36 rfl) rfl ?_
  obtain ⟨r407_, e407, h⟩ := zS_bind h
  refine E_virI (pc := 407) (c := 79) (r := 0) (as := []) (rest := []) (zDk zD_331_1_ok 37 rfl) zc_331 (by decide +kernel) zk_79 ⟨(Nat.le_of_ble_eq_true rfl), rfl, rfl⟩ (Nat.le_of_ble_eq_true rfl) (zr_79 _) (Nat.lt_of_lt_of_le (by decide) hq) (by rw [zm_79]; exact (Nat.le_of_ble_eq_true rfl)) ⟨zc_79, by decide⟩ zis_7_0 (ok_lX_state ⟨r407_, e407, ?_⟩)
  refine E_aload_n (pc := 410) (zDk zD_331_1_ok 38 rfl) rfl ?_
  obtain ⟨r411_, e411, h⟩ := zS_bind h
  refine E_virI (pc := 411) (c := 213) (r := 106) (as := []) (rest := [.inl r407_.1]) (zDk zD_331_1_ok 39 rfl) zc_331 (by decide +kernel) zk_213 ⟨(Nat.le_of_ble_eq_true rfl), rfl, rfl⟩ (Nat.le_of_ble_eq_true rfl) (zr_213 _) (Nat.lt_of_lt_of_le (by decide) hq) (by rw [zm_213]; exact (Nat.le_of_ble_eq_true rfl)) ⟨zc_213, by decide⟩ zis_8_106 (ok_lm_state ⟨r411_, e411, ?_⟩)
  refine E_icmp (pc := 414) (t := 2236) (zDk zD_331_1_ok 40 rfl) rfl (fun hz => ?_) (fun hz => ?_)
  · have h := zS_t h (T_eq hz)
    refine W_iinc (pc := 2236) (L' := [some (.inr (.inr 5001)), some (.inr (.inr 0)), some (.inr (.inr 106)), some (.inl (w32 (y3 + 6)))]) (zDk zD_331_25_ok 24 rfl) rfl zm_331 (by decide) rfl ?_
    refine E_goto (pc := 2239) (t := 18) (zDk zD_331_25_ok 25 rfl) rfl ?_
    exact H18 (w32 (y3 + 6)) r411_.2 h
  · have h := zS_f h (F_eq hz)
    refine E_iconst (pc := 417) (zDk zD_331_1_ok 41 rfl) (by decide +kernel) ?_
    have h := zS_some h
    exact E_ireturnZ (pc := 418) (zDk zD_331_1_ok 42 rfl) zt_331 (by decide) h
def lQ_law_c419 (sc : zSc) (h18 : Int → (Nat → Nat → Int) → Option (Int × (Nat → Nat → Int))) (y3 : Int) (M : Nat → Nat → Int) : Option (Int × (Nat → Nat → Int)) :=
    ((rdX sc (w32 (y3 + (1 : Int)))).bind (fun v424 =>
    ((lX_fault v424 M).bind (fun v425 =>
    ((rdX sc (w32 (y3 + (1 : Int)))).bind (fun v433 =>
    ((lm_fault v433 M).bind (fun v434 =>
    (if v425 = v434 then
    (h18 (w32 (y3 + 6)) M)
    else
    (some ((0 : Int), M)))))))))))
set_option maxRecDepth 100000 in
theorem ok_lQ_law_c419 {q : Nat} {P : Option zV → (Nat → Nat → Int) → Prop} (hq : 20 ≤ q) (sc : zSc) (h18 : Int → (Nat → Nat → Int) → Option (Int × (Nat → Nat → Int))) (H18 : ∀ (y3 : Int) (M : Nat → Nat → Int), zS (h18 y3 M) (fun r => P (some (.inl r.1)) r.2) → zWp sc q 331 18 [some (.inr (.inr 5001)), some (.inr (.inr 0)), some (.inr (.inr 106)), some (.inl y3)] [] M P) : ∀ (y3 : Int) (M : Nat → Nat → Int), zS (lQ_law_c419 sc h18 y3 M) (fun r => P (some (.inl r.1)) r.2) → zWp sc q 331 419 [some (.inr (.inr 5001)), some (.inr (.inr 0)), some (.inr (.inr 106)), some (.inl y3)] [] M P := by
  intro y3 M h
  unfold lQ_law_c419 at h
  refine E_aload_n (pc := 419) (zDk zD_331_1_ok 43 rfl) rfl ?_
  refine E_aload_n (pc := 420) (zDk zD_331_1_ok 44 rfl) rfl ?_
  refine E_iload_n (pc := 421) (zDk zD_331_1_ok 45 rfl) rfl ?_
  refine E_iconst (pc := 422) (zDk zD_331_1_ok 46 rfl) (by decide +kernel) ?_
  refine W_iadd (pc := 423) (zDk zD_331_1_ok 47 rfl) ?_
  obtain ⟨v424, e424, h⟩ := zS_bind h
  refine E_ialoadX (pc := 424) (zDk zD_331_1_ok 48 rfl) e424 ?_
  obtain ⟨v425, e425, h⟩ := zS_bind h
  refine E_virI (pc := 425) (c := 80) (r := 0) (as := [.inl v424]) (rest := []) (zDk zD_331_1_ok 49 rfl) zc_331 (by decide +kernel) zk_80 ⟨(Nat.le_of_ble_eq_true rfl), rfl, rfl⟩ (Nat.le_of_ble_eq_true rfl) (zr_80 _) (Nat.lt_of_lt_of_le (by decide) hq) (by rw [zm_80]; exact (Nat.le_of_ble_eq_true rfl)) ⟨zc_80, by decide⟩ zis_7_0 (ok_lX_fault ⟨v425, e425, ?_⟩)
  refine E_aload_n (pc := 428) (zDk zD_331_1_ok 50 rfl) rfl ?_
  refine E_aload_n (pc := 429) (zDk zD_331_1_ok 51 rfl) rfl ?_
  refine E_iload_n (pc := 430) (zDk zD_331_1_ok 52 rfl) rfl ?_
  refine E_iconst (pc := 431) (zDk zD_331_1_ok 53 rfl) (by decide +kernel) ?_
  refine W_iadd (pc := 432) (zDk zD_331_1_ok 54 rfl) ?_
  obtain ⟨v433, e433, h⟩ := zS_bind h
  refine E_ialoadX (pc := 433) (zDk zD_331_1_ok 55 rfl) e433 ?_
  obtain ⟨v434, e434, h⟩ := zS_bind h
  refine E_virI (pc := 434) (c := 203) (r := 106) (as := [.inl v433]) (rest := [.inl v425]) (zDk zD_331_1_ok 56 rfl) zc_331 (by decide +kernel) zk_203 ⟨(Nat.le_of_ble_eq_true rfl), rfl, rfl⟩ (Nat.le_of_ble_eq_true rfl) (zr_203 _) (Nat.lt_of_lt_of_le (by decide) hq) (by rw [zm_203]; exact (Nat.le_of_ble_eq_true rfl)) ⟨zc_203, by decide⟩ zis_8_106 (ok_lm_fault ⟨v434, e434, ?_⟩)
  refine E_icmp (pc := 437) (t := 2236) (zDk zD_331_1_ok 57 rfl) rfl (fun hz => ?_) (fun hz => ?_)
  · have h := zS_t h (T_eq hz)
    refine W_iinc (pc := 2236) (L' := [some (.inr (.inr 5001)), some (.inr (.inr 0)), some (.inr (.inr 106)), some (.inl (w32 (y3 + 6)))]) (zDk zD_331_25_ok 24 rfl) rfl zm_331 (by decide) rfl ?_
    refine E_goto (pc := 2239) (t := 18) (zDk zD_331_25_ok 25 rfl) rfl ?_
    exact H18 (w32 (y3 + 6)) M h
  · have h := zS_f h (F_eq hz)
    refine E_iconst (pc := 440) (zDk zD_331_1_ok 58 rfl) (by decide +kernel) ?_
    have h := zS_some h
    exact E_ireturnZ (pc := 441) (zDk zD_331_1_ok 59 rfl) zt_331 (by decide) h
def lQ_law_c442 (sc : zSc) (h18 : Int → (Nat → Nat → Int) → Option (Int × (Nat → Nat → Int))) (y3 : Int) (M : Nat → Nat → Int) : Option (Int × (Nat → Nat → Int)) :=
    ((rdX sc (w32 (y3 + (1 : Int)))).bind (fun v447 =>
    ((rdX sc (w32 (y3 + (2 : Int)))).bind (fun v452 =>
    ((lX_street v447 v452 M).bind (fun v453 =>
    ((rdX sc (w32 (y3 + (1 : Int)))).bind (fun v461 =>
    ((rdX sc (w32 (y3 + (2 : Int)))).bind (fun v466 =>
    ((lm_street v461 v466 M).bind (fun r467_ =>
    (if v453 = r467_.1 then
    (h18 (w32 (y3 + 6)) r467_.2)
    else
    (some ((0 : Int), r467_.2)))))))))))))))
set_option maxRecDepth 100000 in
theorem ok_lQ_law_c442 {q : Nat} {P : Option zV → (Nat → Nat → Int) → Prop} (hq : 20 ≤ q) (sc : zSc) (h18 : Int → (Nat → Nat → Int) → Option (Int × (Nat → Nat → Int))) (H18 : ∀ (y3 : Int) (M : Nat → Nat → Int), zS (h18 y3 M) (fun r => P (some (.inl r.1)) r.2) → zWp sc q 331 18 [some (.inr (.inr 5001)), some (.inr (.inr 0)), some (.inr (.inr 106)), some (.inl y3)] [] M P) : ∀ (y3 : Int) (M : Nat → Nat → Int), zS (lQ_law_c442 sc h18 y3 M) (fun r => P (some (.inl r.1)) r.2) → zWp sc q 331 442 [some (.inr (.inr 5001)), some (.inr (.inr 0)), some (.inr (.inr 106)), some (.inl y3)] [] M P := by
  intro y3 M h
  unfold lQ_law_c442 at h
  refine E_aload_n (pc := 442) (zDk zD_331_2_ok 0 rfl) rfl ?_
  refine E_aload_n (pc := 443) (zDk zD_331_2_ok 1 rfl) rfl ?_
  refine E_iload_n (pc := 444) (zDk zD_331_2_ok 2 rfl) rfl ?_
  refine E_iconst (pc := 445) (zDk zD_331_2_ok 3 rfl) (by decide +kernel) ?_
  refine W_iadd (pc := 446) (zDk zD_331_2_ok 4 rfl) ?_
  obtain ⟨v447, e447, h⟩ := zS_bind h
  refine E_ialoadX (pc := 447) (zDk zD_331_2_ok 5 rfl) e447 ?_
  refine E_aload_n (pc := 448) (zDk zD_331_2_ok 6 rfl) rfl ?_
  refine E_iload_n (pc := 449) (zDk zD_331_2_ok 7 rfl) rfl ?_
  refine E_iconst (pc := 450) (zDk zD_331_2_ok 8 rfl) (by decide +kernel) ?_
  refine W_iadd (pc := 451) (zDk zD_331_2_ok 9 rfl) ?_
  obtain ⟨v452, e452, h⟩ := zS_bind h
  refine E_ialoadX (pc := 452) (zDk zD_331_2_ok 10 rfl) e452 ?_
  obtain ⟨v453, e453, h⟩ := zS_bind h
  refine E_virI (pc := 453) (c := 81) (r := 0) (as := [.inl v447, .inl v452]) (rest := []) (zDk zD_331_2_ok 11 rfl) zc_331 (by decide +kernel) zk_81 ⟨(Nat.le_of_ble_eq_true rfl), rfl, rfl⟩ (Nat.le_of_ble_eq_true rfl) (zr_81 _) (Nat.lt_of_lt_of_le (by decide) hq) (by rw [zm_81]; exact (Nat.le_of_ble_eq_true rfl)) ⟨zc_81, by decide⟩ zis_7_0 (ok_lX_street ⟨v453, e453, ?_⟩)
  refine E_aload_n (pc := 456) (zDk zD_331_2_ok 12 rfl) rfl ?_
  refine E_aload_n (pc := 457) (zDk zD_331_2_ok 13 rfl) rfl ?_
  refine E_iload_n (pc := 458) (zDk zD_331_2_ok 14 rfl) rfl ?_
  refine E_iconst (pc := 459) (zDk zD_331_2_ok 15 rfl) (by decide +kernel) ?_
  refine W_iadd (pc := 460) (zDk zD_331_2_ok 16 rfl) ?_
  obtain ⟨v461, e461, h⟩ := zS_bind h
  refine E_ialoadX (pc := 461) (zDk zD_331_2_ok 17 rfl) e461 ?_
  refine E_aload_n (pc := 462) (zDk zD_331_2_ok 18 rfl) rfl ?_
  refine E_iload_n (pc := 463) (zDk zD_331_2_ok 19 rfl) rfl ?_
  refine E_iconst (pc := 464) (zDk zD_331_2_ok 20 rfl) (by decide +kernel) ?_
  refine W_iadd (pc := 465) (zDk zD_331_2_ok 21 rfl) ?_
  obtain ⟨v466, e466, h⟩ := zS_bind h
  refine E_ialoadX (pc := 466) (zDk zD_331_2_ok 22 rfl) e466 ?_
  obtain ⟨r467_, e467, h⟩ := zS_bind h
  refine E_virI (pc := 467) (c := 216) (r := 106) (as := [.inl v461, .inl v466]) (rest := [.inl v453]) (zDk zD_331_2_ok 23 rfl) zc_331 (by decide +kernel) zk_216 ⟨(Nat.le_of_ble_eq_true rfl), rfl, rfl⟩ (Nat.le_of_ble_eq_true rfl) (zr_216 _) (Nat.lt_of_lt_of_le (by decide) hq) (by rw [zm_216]; exact (Nat.le_of_ble_eq_true rfl)) ⟨zc_216, by decide⟩ zis_8_106 (ok_lm_street ⟨r467_, e467, ?_⟩)
  refine E_icmp (pc := 470) (t := 2236) (zDk zD_331_2_ok 24 rfl) rfl (fun hz => ?_) (fun hz => ?_)
  · have h := zS_t h (T_eq hz)
    refine W_iinc (pc := 2236) (L' := [some (.inr (.inr 5001)), some (.inr (.inr 0)), some (.inr (.inr 106)), some (.inl (w32 (y3 + 6)))]) (zDk zD_331_25_ok 24 rfl) rfl zm_331 (by decide) rfl ?_
    refine E_goto (pc := 2239) (t := 18) (zDk zD_331_25_ok 25 rfl) rfl ?_
    exact H18 (w32 (y3 + 6)) r467_.2 h
  · have h := zS_f h (F_eq hz)
    refine E_iconst (pc := 473) (zDk zD_331_2_ok 25 rfl) (by decide +kernel) ?_
    have h := zS_some h
    exact E_ireturnZ (pc := 474) (zDk zD_331_2_ok 26 rfl) zt_331 (by decide) h
def lQ_law_c475 (sc : zSc) (h18 : Int → (Nat → Nat → Int) → Option (Int × (Nat → Nat → Int))) (y3 : Int) (M : Nat → Nat → Int) : Option (Int × (Nat → Nat → Int)) :=
    ((rdX sc (w32 (y3 + (1 : Int)))).bind (fun v480 =>
    ((lX_well v480 M).bind (fun v481 =>
    ((rdX sc (w32 (y3 + (1 : Int)))).bind (fun v489 =>
    ((lm_well v489 M).bind (fun r490_ =>
    (if v481 = r490_.1 then
    (h18 (w32 (y3 + 6)) r490_.2)
    else
    (some ((0 : Int), r490_.2)))))))))))
set_option maxRecDepth 100000 in
theorem ok_lQ_law_c475 {q : Nat} {P : Option zV → (Nat → Nat → Int) → Prop} (hq : 20 ≤ q) (sc : zSc) (h18 : Int → (Nat → Nat → Int) → Option (Int × (Nat → Nat → Int))) (H18 : ∀ (y3 : Int) (M : Nat → Nat → Int), zS (h18 y3 M) (fun r => P (some (.inl r.1)) r.2) → zWp sc q 331 18 [some (.inr (.inr 5001)), some (.inr (.inr 0)), some (.inr (.inr 106)), some (.inl y3)] [] M P) : ∀ (y3 : Int) (M : Nat → Nat → Int), zS (lQ_law_c475 sc h18 y3 M) (fun r => P (some (.inl r.1)) r.2) → zWp sc q 331 475 [some (.inr (.inr 5001)), some (.inr (.inr 0)), some (.inr (.inr 106)), some (.inl y3)] [] M P := by
  intro y3 M h
  unfold lQ_law_c475 at h
  refine E_aload_n (pc := 475) (zDk zD_331_2_ok 27 rfl) rfl ?_
  refine E_aload_n (pc := 476) (zDk zD_331_2_ok 28 rfl) rfl ?_
  refine E_iload_n (pc := 477) (zDk zD_331_2_ok 29 rfl) rfl ?_
  refine E_iconst (pc := 478) (zDk zD_331_2_ok 30 rfl) (by decide +kernel) ?_
  refine W_iadd (pc := 479) (zDk zD_331_2_ok 31 rfl) ?_
  obtain ⟨v480, e480, h⟩ := zS_bind h
  refine E_ialoadX (pc := 480) (zDk zD_331_2_ok 32 rfl) e480 ?_
  obtain ⟨v481, e481, h⟩ := zS_bind h
  refine E_virI (pc := 481) (c := 82) (r := 0) (as := [.inl v480]) (rest := []) (zDk zD_331_2_ok 33 rfl) zc_331 (by decide +kernel) zk_82 ⟨(Nat.le_of_ble_eq_true rfl), rfl, rfl⟩ (Nat.le_of_ble_eq_true rfl) (zr_82 _) (Nat.lt_of_lt_of_le (by decide) hq) (by rw [zm_82]; exact (Nat.le_of_ble_eq_true rfl)) ⟨zc_82, by decide⟩ zis_7_0 (ok_lX_well ⟨v481, e481, ?_⟩)
  refine E_aload_n (pc := 484) (zDk zD_331_2_ok 34 rfl) rfl ?_
  refine E_aload_n (pc := 485) (zDk zD_331_2_ok 35 rfl) rfl ?_
  refine E_iload_n (pc := 486) (zDk zD_331_2_ok 36 rfl) rfl ?_
  refine E_iconst (pc := 487) (zDk zD_331_2_ok 37 rfl) (by decide +kernel) ?_
  refine W_iadd (pc := 488) (zDk zD_331_2_ok 38 rfl) ?_
  obtain ⟨v489, e489, h⟩ := zS_bind h
  refine E_ialoadX (pc := 489) (zDk zD_331_2_ok 39 rfl) e489 ?_
  obtain ⟨r490_, e490, h⟩ := zS_bind h
  refine E_virI (pc := 490) (c := 217) (r := 106) (as := [.inl v489]) (rest := [.inl v481]) (zDk zD_331_2_ok 40 rfl) zc_331 (by decide +kernel) zk_217 ⟨(Nat.le_of_ble_eq_true rfl), rfl, rfl⟩ (Nat.le_of_ble_eq_true rfl) (zr_217 _) (Nat.lt_of_lt_of_le (by decide) hq) (by rw [zm_217]; exact (Nat.le_of_ble_eq_true rfl)) ⟨zc_217, by decide⟩ zis_8_106 (ok_lm_well ⟨r490_, e490, ?_⟩)
  refine E_icmp (pc := 493) (t := 2236) (zDk zD_331_2_ok 41 rfl) rfl (fun hz => ?_) (fun hz => ?_)
  · have h := zS_t h (T_eq hz)
    refine W_iinc (pc := 2236) (L' := [some (.inr (.inr 5001)), some (.inr (.inr 0)), some (.inr (.inr 106)), some (.inl (w32 (y3 + 6)))]) (zDk zD_331_25_ok 24 rfl) rfl zm_331 (by decide) rfl ?_
    refine E_goto (pc := 2239) (t := 18) (zDk zD_331_25_ok 25 rfl) rfl ?_
    exact H18 (w32 (y3 + 6)) r490_.2 h
  · have h := zS_f h (F_eq hz)
    refine E_iconst (pc := 496) (zDk zD_331_2_ok 42 rfl) (by decide +kernel) ?_
    have h := zS_some h
    exact E_ireturnZ (pc := 497) (zDk zD_331_2_ok 43 rfl) zt_331 (by decide) h
def lQ_law_c498 (sc : zSc) (h18 : Int → (Nat → Nat → Int) → Option (Int × (Nat → Nat → Int))) (y3 : Int) (M : Nat → Nat → Int) : Option (Int × (Nat → Nat → Int)) :=
    ((rdX sc (w32 (y3 + (1 : Int)))).bind (fun v503 =>
    ((rdX sc (w32 (y3 + (2 : Int)))).bind (fun v508 =>
    ((lX_name v503 v508 M).bind (fun v509 =>
    ((rdX sc (w32 (y3 + (1 : Int)))).bind (fun v517 =>
    ((rdX sc (w32 (y3 + (2 : Int)))).bind (fun v522 =>
    ((lm_name v517 v522 M).bind (fun v523 =>
    (if v509 = v523 then
    (h18 (w32 (y3 + 6)) M)
    else
    (some ((0 : Int), M)))))))))))))))
set_option maxRecDepth 100000 in
theorem ok_lQ_law_c498 {q : Nat} {P : Option zV → (Nat → Nat → Int) → Prop} (hq : 20 ≤ q) (sc : zSc) (h18 : Int → (Nat → Nat → Int) → Option (Int × (Nat → Nat → Int))) (H18 : ∀ (y3 : Int) (M : Nat → Nat → Int), zS (h18 y3 M) (fun r => P (some (.inl r.1)) r.2) → zWp sc q 331 18 [some (.inr (.inr 5001)), some (.inr (.inr 0)), some (.inr (.inr 106)), some (.inl y3)] [] M P) : ∀ (y3 : Int) (M : Nat → Nat → Int), zS (lQ_law_c498 sc h18 y3 M) (fun r => P (some (.inl r.1)) r.2) → zWp sc q 331 498 [some (.inr (.inr 5001)), some (.inr (.inr 0)), some (.inr (.inr 106)), some (.inl y3)] [] M P := by
  intro y3 M h
  unfold lQ_law_c498 at h
  refine E_aload_n (pc := 498) (zDk zD_331_2_ok 44 rfl) rfl ?_
  refine E_aload_n (pc := 499) (zDk zD_331_2_ok 45 rfl) rfl ?_
  refine E_iload_n (pc := 500) (zDk zD_331_2_ok 46 rfl) rfl ?_
  refine E_iconst (pc := 501) (zDk zD_331_2_ok 47 rfl) (by decide +kernel) ?_
  refine W_iadd (pc := 502) (zDk zD_331_2_ok 48 rfl) ?_
  obtain ⟨v503, e503, h⟩ := zS_bind h
  refine E_ialoadX (pc := 503) (zDk zD_331_2_ok 49 rfl) e503 ?_
  refine E_aload_n (pc := 504) (zDk zD_331_2_ok 50 rfl) rfl ?_
  refine E_iload_n (pc := 505) (zDk zD_331_2_ok 51 rfl) rfl ?_
  refine E_iconst (pc := 506) (zDk zD_331_2_ok 52 rfl) (by decide +kernel) ?_
  refine W_iadd (pc := 507) (zDk zD_331_2_ok 53 rfl) ?_
  obtain ⟨v508, e508, h⟩ := zS_bind h
  refine E_ialoadX (pc := 508) (zDk zD_331_2_ok 54 rfl) e508 ?_
  obtain ⟨v509, e509, h⟩ := zS_bind h
  refine E_virI (pc := 509) (c := 83) (r := 0) (as := [.inl v503, .inl v508]) (rest := []) (zDk zD_331_2_ok 55 rfl) zc_331 (by decide +kernel) zk_83 ⟨(Nat.le_of_ble_eq_true rfl), rfl, rfl⟩ (Nat.le_of_ble_eq_true rfl) (zr_83 _) (Nat.lt_of_lt_of_le (by decide) hq) (by rw [zm_83]; exact (Nat.le_of_ble_eq_true rfl)) ⟨zc_83, by decide⟩ zis_7_0 (ok_lX_name ⟨v509, e509, ?_⟩)
  refine E_aload_n (pc := 512) (zDk zD_331_2_ok 56 rfl) rfl ?_
  refine E_aload_n (pc := 513) (zDk zD_331_2_ok 57 rfl) rfl ?_
  refine E_iload_n (pc := 514) (zDk zD_331_2_ok 58 rfl) rfl ?_
  refine E_iconst (pc := 515) (zDk zD_331_2_ok 59 rfl) (by decide +kernel) ?_
  refine W_iadd (pc := 516) (zDk zD_331_3_ok 0 rfl) ?_
  obtain ⟨v517, e517, h⟩ := zS_bind h
  refine E_ialoadX (pc := 517) (zDk zD_331_3_ok 1 rfl) e517 ?_
  refine E_aload_n (pc := 518) (zDk zD_331_3_ok 2 rfl) rfl ?_
  refine E_iload_n (pc := 519) (zDk zD_331_3_ok 3 rfl) rfl ?_
  refine E_iconst (pc := 520) (zDk zD_331_3_ok 4 rfl) (by decide +kernel) ?_
  refine W_iadd (pc := 521) (zDk zD_331_3_ok 5 rfl) ?_
  obtain ⟨v522, e522, h⟩ := zS_bind h
  refine E_ialoadX (pc := 522) (zDk zD_331_3_ok 6 rfl) e522 ?_
  obtain ⟨v523, e523, h⟩ := zS_bind h
  refine E_virI (pc := 523) (c := 218) (r := 106) (as := [.inl v517, .inl v522]) (rest := [.inl v509]) (zDk zD_331_3_ok 7 rfl) zc_331 (by decide +kernel) zk_218 ⟨(Nat.le_of_ble_eq_true rfl), rfl, rfl⟩ (Nat.le_of_ble_eq_true rfl) (zr_218 _) (Nat.lt_of_lt_of_le (by decide) hq) (by rw [zm_218]; exact (Nat.le_of_ble_eq_true rfl)) ⟨zc_218, by decide⟩ zis_8_106 (ok_lm_name ⟨v523, e523, ?_⟩)
  refine E_icmp (pc := 526) (t := 2236) (zDk zD_331_3_ok 8 rfl) rfl (fun hz => ?_) (fun hz => ?_)
  · have h := zS_t h (T_eq hz)
    refine W_iinc (pc := 2236) (L' := [some (.inr (.inr 5001)), some (.inr (.inr 0)), some (.inr (.inr 106)), some (.inl (w32 (y3 + 6)))]) (zDk zD_331_25_ok 24 rfl) rfl zm_331 (by decide) rfl ?_
    refine E_goto (pc := 2239) (t := 18) (zDk zD_331_25_ok 25 rfl) rfl ?_
    exact H18 (w32 (y3 + 6)) M h
  · have h := zS_f h (F_eq hz)
    refine E_iconst (pc := 529) (zDk zD_331_3_ok 9 rfl) (by decide +kernel) ?_
    have h := zS_some h
    exact E_ireturnZ (pc := 530) (zDk zD_331_3_ok 10 rfl) zt_331 (by decide) h
def lQ_law_c531 (sc : zSc) (h18 : Int → (Nat → Nat → Int) → Option (Int × (Nat → Nat → Int))) (y3 : Int) (M : Nat → Nat → Int) : Option (Int × (Nat → Nat → Int)) :=
    ((rdX sc (w32 (y3 + (1 : Int)))).bind (fun v536 =>
    ((rdX sc (w32 (y3 + (2 : Int)))).bind (fun v541 =>
    ((lX_walk v536 v541 M).bind (fun v542 =>
    ((rdX sc (w32 (y3 + (1 : Int)))).bind (fun v550 =>
    ((rdX sc (w32 (y3 + (2 : Int)))).bind (fun v555 =>
    ((lm_walk v550 v555 M).bind (fun v556 =>
    (if v542 = v556 then
    (h18 (w32 (y3 + 6)) M)
    else
    (some ((0 : Int), M)))))))))))))))
set_option maxRecDepth 100000 in
theorem ok_lQ_law_c531 {q : Nat} {P : Option zV → (Nat → Nat → Int) → Prop} (hq : 20 ≤ q) (sc : zSc) (h18 : Int → (Nat → Nat → Int) → Option (Int × (Nat → Nat → Int))) (H18 : ∀ (y3 : Int) (M : Nat → Nat → Int), zS (h18 y3 M) (fun r => P (some (.inl r.1)) r.2) → zWp sc q 331 18 [some (.inr (.inr 5001)), some (.inr (.inr 0)), some (.inr (.inr 106)), some (.inl y3)] [] M P) : ∀ (y3 : Int) (M : Nat → Nat → Int), zS (lQ_law_c531 sc h18 y3 M) (fun r => P (some (.inl r.1)) r.2) → zWp sc q 331 531 [some (.inr (.inr 5001)), some (.inr (.inr 0)), some (.inr (.inr 106)), some (.inl y3)] [] M P := by
  intro y3 M h
  unfold lQ_law_c531 at h
  refine E_aload_n (pc := 531) (zDk zD_331_3_ok 11 rfl) rfl ?_
  refine E_aload_n (pc := 532) (zDk zD_331_3_ok 12 rfl) rfl ?_
  refine E_iload_n (pc := 533) (zDk zD_331_3_ok 13 rfl) rfl ?_
  refine E_iconst (pc := 534) (zDk zD_331_3_ok 14 rfl) (by decide +kernel) ?_
  refine W_iadd (pc := 535) (zDk zD_331_3_ok 15 rfl) ?_
  obtain ⟨v536, e536, h⟩ := zS_bind h
  refine E_ialoadX (pc := 536) (zDk zD_331_3_ok 16 rfl) e536 ?_
  refine E_aload_n (pc := 537) (zDk zD_331_3_ok 17 rfl) rfl ?_
  refine E_iload_n (pc := 538) (zDk zD_331_3_ok 18 rfl) rfl ?_
  refine E_iconst (pc := 539) (zDk zD_331_3_ok 19 rfl) (by decide +kernel) ?_
  refine W_iadd (pc := 540) (zDk zD_331_3_ok 20 rfl) ?_
  obtain ⟨v541, e541, h⟩ := zS_bind h
  refine E_ialoadX (pc := 541) (zDk zD_331_3_ok 21 rfl) e541 ?_
  obtain ⟨v542, e542, h⟩ := zS_bind h
  refine E_virI (pc := 542) (c := 84) (r := 0) (as := [.inl v536, .inl v541]) (rest := []) (zDk zD_331_3_ok 22 rfl) zc_331 (by decide +kernel) zk_84 ⟨(Nat.le_of_ble_eq_true rfl), rfl, rfl⟩ (Nat.le_of_ble_eq_true rfl) (zr_84 _) (Nat.lt_of_lt_of_le (by decide) hq) (by rw [zm_84]; exact (Nat.le_of_ble_eq_true rfl)) ⟨zc_84, by decide⟩ zis_7_0 (ok_lX_walk ⟨v542, e542, ?_⟩)
  refine E_aload_n (pc := 545) (zDk zD_331_3_ok 23 rfl) rfl ?_
  refine E_aload_n (pc := 546) (zDk zD_331_3_ok 24 rfl) rfl ?_
  refine E_iload_n (pc := 547) (zDk zD_331_3_ok 25 rfl) rfl ?_
  refine E_iconst (pc := 548) (zDk zD_331_3_ok 26 rfl) (by decide +kernel) ?_
  refine W_iadd (pc := 549) (zDk zD_331_3_ok 27 rfl) ?_
  obtain ⟨v550, e550, h⟩ := zS_bind h
  refine E_ialoadX (pc := 550) (zDk zD_331_3_ok 28 rfl) e550 ?_
  refine E_aload_n (pc := 551) (zDk zD_331_3_ok 29 rfl) rfl ?_
  refine E_iload_n (pc := 552) (zDk zD_331_3_ok 30 rfl) rfl ?_
  refine E_iconst (pc := 553) (zDk zD_331_3_ok 31 rfl) (by decide +kernel) ?_
  refine W_iadd (pc := 554) (zDk zD_331_3_ok 32 rfl) ?_
  obtain ⟨v555, e555, h⟩ := zS_bind h
  refine E_ialoadX (pc := 555) (zDk zD_331_3_ok 33 rfl) e555 ?_
  obtain ⟨v556, e556, h⟩ := zS_bind h
  refine E_virI (pc := 556) (c := 219) (r := 106) (as := [.inl v550, .inl v555]) (rest := [.inl v542]) (zDk zD_331_3_ok 34 rfl) zc_331 (by decide +kernel) zk_219 ⟨(Nat.le_of_ble_eq_true rfl), rfl, rfl⟩ (Nat.le_of_ble_eq_true rfl) (zr_219 _) (Nat.lt_of_lt_of_le (by decide) hq) (by rw [zm_219]; exact (Nat.le_of_ble_eq_true rfl)) ⟨zc_219, by decide⟩ zis_8_106 (ok_lm_walk ⟨v556, e556, ?_⟩)
  refine E_icmp (pc := 559) (t := 2236) (zDk zD_331_3_ok 35 rfl) rfl (fun hz => ?_) (fun hz => ?_)
  · have h := zS_t h (T_eq hz)
    refine W_iinc (pc := 2236) (L' := [some (.inr (.inr 5001)), some (.inr (.inr 0)), some (.inr (.inr 106)), some (.inl (w32 (y3 + 6)))]) (zDk zD_331_25_ok 24 rfl) rfl zm_331 (by decide) rfl ?_
    refine E_goto (pc := 2239) (t := 18) (zDk zD_331_25_ok 25 rfl) rfl ?_
    exact H18 (w32 (y3 + 6)) M h
  · have h := zS_f h (F_eq hz)
    refine E_iconst (pc := 562) (zDk zD_331_3_ok 36 rfl) (by decide +kernel) ?_
    have h := zS_some h
    exact E_ireturnZ (pc := 563) (zDk zD_331_3_ok 37 rfl) zt_331 (by decide) h
def lQ_law_c564 (sc : zSc) (h18 : Int → (Nat → Nat → Int) → Option (Int × (Nat → Nat → Int))) (y3 : Int) (M : Nat → Nat → Int) : Option (Int × (Nat → Nat → Int)) :=
    ((rdX sc (w32 (y3 + (1 : Int)))).bind (fun v569 =>
    ((lX_contract v569 M).bind (fun v570 =>
    ((rdX sc (w32 (y3 + (1 : Int)))).bind (fun v578 =>
    ((lm_contract v578 M).bind (fun v579 =>
    (if v570 = v579 then
    (h18 (w32 (y3 + 6)) M)
    else
    (some ((0 : Int), M)))))))))))
set_option maxRecDepth 100000 in
theorem ok_lQ_law_c564 {q : Nat} {P : Option zV → (Nat → Nat → Int) → Prop} (hq : 20 ≤ q) (sc : zSc) (h18 : Int → (Nat → Nat → Int) → Option (Int × (Nat → Nat → Int))) (H18 : ∀ (y3 : Int) (M : Nat → Nat → Int), zS (h18 y3 M) (fun r => P (some (.inl r.1)) r.2) → zWp sc q 331 18 [some (.inr (.inr 5001)), some (.inr (.inr 0)), some (.inr (.inr 106)), some (.inl y3)] [] M P) : ∀ (y3 : Int) (M : Nat → Nat → Int), zS (lQ_law_c564 sc h18 y3 M) (fun r => P (some (.inl r.1)) r.2) → zWp sc q 331 564 [some (.inr (.inr 5001)), some (.inr (.inr 0)), some (.inr (.inr 106)), some (.inl y3)] [] M P := by
  intro y3 M h
  unfold lQ_law_c564 at h
  refine E_aload_n (pc := 564) (zDk zD_331_3_ok 38 rfl) rfl ?_
  refine E_aload_n (pc := 565) (zDk zD_331_3_ok 39 rfl) rfl ?_
  refine E_iload_n (pc := 566) (zDk zD_331_3_ok 40 rfl) rfl ?_
  refine E_iconst (pc := 567) (zDk zD_331_3_ok 41 rfl) (by decide +kernel) ?_
  refine W_iadd (pc := 568) (zDk zD_331_3_ok 42 rfl) ?_
  obtain ⟨v569, e569, h⟩ := zS_bind h
  refine E_ialoadX (pc := 569) (zDk zD_331_3_ok 43 rfl) e569 ?_
  obtain ⟨v570, e570, h⟩ := zS_bind h
  refine E_virI (pc := 570) (c := 85) (r := 0) (as := [.inl v569]) (rest := []) (zDk zD_331_3_ok 44 rfl) zc_331 (by decide +kernel) zk_85 ⟨(Nat.le_of_ble_eq_true rfl), rfl, rfl⟩ (Nat.le_of_ble_eq_true rfl) (zr_85 _) (Nat.lt_of_lt_of_le (by decide) hq) (by rw [zm_85]; exact (Nat.le_of_ble_eq_true rfl)) ⟨zc_85, by decide⟩ zis_7_0 (ok_lX_contract ⟨v570, e570, ?_⟩)
  refine E_aload_n (pc := 573) (zDk zD_331_3_ok 45 rfl) rfl ?_
  refine E_aload_n (pc := 574) (zDk zD_331_3_ok 46 rfl) rfl ?_
  refine E_iload_n (pc := 575) (zDk zD_331_3_ok 47 rfl) rfl ?_
  refine E_iconst (pc := 576) (zDk zD_331_3_ok 48 rfl) (by decide +kernel) ?_
  refine W_iadd (pc := 577) (zDk zD_331_3_ok 49 rfl) ?_
  obtain ⟨v578, e578, h⟩ := zS_bind h
  refine E_ialoadX (pc := 578) (zDk zD_331_3_ok 50 rfl) e578 ?_
  obtain ⟨v579, e579, h⟩ := zS_bind h
  refine E_virI (pc := 579) (c := 220) (r := 106) (as := [.inl v578]) (rest := [.inl v570]) (zDk zD_331_3_ok 51 rfl) zc_331 (by decide +kernel) zk_220 ⟨(Nat.le_of_ble_eq_true rfl), rfl, rfl⟩ (Nat.le_of_ble_eq_true rfl) (zr_220 _) (Nat.lt_of_lt_of_le (by decide) hq) (by rw [zm_220]; exact (Nat.le_of_ble_eq_true rfl)) ⟨zc_220, by decide⟩ zis_8_106 (ok_lm_contract ⟨v579, e579, ?_⟩)
  refine E_icmp (pc := 582) (t := 2236) (zDk zD_331_3_ok 52 rfl) rfl (fun hz => ?_) (fun hz => ?_)
  · have h := zS_t h (T_eq hz)
    refine W_iinc (pc := 2236) (L' := [some (.inr (.inr 5001)), some (.inr (.inr 0)), some (.inr (.inr 106)), some (.inl (w32 (y3 + 6)))]) (zDk zD_331_25_ok 24 rfl) rfl zm_331 (by decide) rfl ?_
    refine E_goto (pc := 2239) (t := 18) (zDk zD_331_25_ok 25 rfl) rfl ?_
    exact H18 (w32 (y3 + 6)) M h
  · have h := zS_f h (F_eq hz)
    refine E_iconst (pc := 585) (zDk zD_331_3_ok 53 rfl) (by decide +kernel) ?_
    have h := zS_some h
    exact E_ireturnZ (pc := 586) (zDk zD_331_3_ok 54 rfl) zt_331 (by decide) h
def lQ_law_c587 (sc : zSc) (h18 : Int → (Nat → Nat → Int) → Option (Int × (Nat → Nat → Int))) (y3 : Int) (M : Nat → Nat → Int) : Option (Int × (Nat → Nat → Int)) :=
    ((rdX sc (w32 (y3 + (1 : Int)))).bind (fun v592 =>
    ((rdX sc (w32 (y3 + (2 : Int)))).bind (fun v597 =>
    ((lX_at v592 v597 M).bind (fun v598 =>
    ((rdX sc (w32 (y3 + (1 : Int)))).bind (fun v606 =>
    ((rdX sc (w32 (y3 + (2 : Int)))).bind (fun v611 =>
    ((lm_at v606 v611 M).bind (fun r612_ =>
    (if v598 = r612_.1 then
    (h18 (w32 (y3 + 6)) r612_.2)
    else
    (some ((0 : Int), r612_.2)))))))))))))))
set_option maxRecDepth 100000 in
theorem ok_lQ_law_c587 {q : Nat} {P : Option zV → (Nat → Nat → Int) → Prop} (hq : 20 ≤ q) (sc : zSc) (h18 : Int → (Nat → Nat → Int) → Option (Int × (Nat → Nat → Int))) (H18 : ∀ (y3 : Int) (M : Nat → Nat → Int), zS (h18 y3 M) (fun r => P (some (.inl r.1)) r.2) → zWp sc q 331 18 [some (.inr (.inr 5001)), some (.inr (.inr 0)), some (.inr (.inr 106)), some (.inl y3)] [] M P) : ∀ (y3 : Int) (M : Nat → Nat → Int), zS (lQ_law_c587 sc h18 y3 M) (fun r => P (some (.inl r.1)) r.2) → zWp sc q 331 587 [some (.inr (.inr 5001)), some (.inr (.inr 0)), some (.inr (.inr 106)), some (.inl y3)] [] M P := by
  intro y3 M h
  unfold lQ_law_c587 at h
  refine E_aload_n (pc := 587) (zDk zD_331_3_ok 55 rfl) rfl ?_
  refine E_aload_n (pc := 588) (zDk zD_331_3_ok 56 rfl) rfl ?_
  refine E_iload_n (pc := 589) (zDk zD_331_3_ok 57 rfl) rfl ?_
  refine E_iconst (pc := 590) (zDk zD_331_3_ok 58 rfl) (by decide +kernel) ?_
  refine W_iadd (pc := 591) (zDk zD_331_3_ok 59 rfl) ?_
  obtain ⟨v592, e592, h⟩ := zS_bind h
  refine E_ialoadX (pc := 592) (zDk zD_331_4_ok 0 rfl) e592 ?_
  refine E_aload_n (pc := 593) (zDk zD_331_4_ok 1 rfl) rfl ?_
  refine E_iload_n (pc := 594) (zDk zD_331_4_ok 2 rfl) rfl ?_
  refine E_iconst (pc := 595) (zDk zD_331_4_ok 3 rfl) (by decide +kernel) ?_
  refine W_iadd (pc := 596) (zDk zD_331_4_ok 4 rfl) ?_
  obtain ⟨v597, e597, h⟩ := zS_bind h
  refine E_ialoadX (pc := 597) (zDk zD_331_4_ok 5 rfl) e597 ?_
  obtain ⟨v598, e598, h⟩ := zS_bind h
  refine E_virI (pc := 598) (c := 86) (r := 0) (as := [.inl v592, .inl v597]) (rest := []) (zDk zD_331_4_ok 6 rfl) zc_331 (by decide +kernel) zk_86 ⟨(Nat.le_of_ble_eq_true rfl), rfl, rfl⟩ (Nat.le_of_ble_eq_true rfl) (zr_86 _) (Nat.lt_of_lt_of_le (by decide) hq) (by rw [zm_86]; exact (Nat.le_of_ble_eq_true rfl)) ⟨zc_86, by decide⟩ zis_7_0 (ok_lX_at ⟨v598, e598, ?_⟩)
  refine E_aload_n (pc := 601) (zDk zD_331_4_ok 7 rfl) rfl ?_
  refine E_aload_n (pc := 602) (zDk zD_331_4_ok 8 rfl) rfl ?_
  refine E_iload_n (pc := 603) (zDk zD_331_4_ok 9 rfl) rfl ?_
  refine E_iconst (pc := 604) (zDk zD_331_4_ok 10 rfl) (by decide +kernel) ?_
  refine W_iadd (pc := 605) (zDk zD_331_4_ok 11 rfl) ?_
  obtain ⟨v606, e606, h⟩ := zS_bind h
  refine E_ialoadX (pc := 606) (zDk zD_331_4_ok 12 rfl) e606 ?_
  refine E_aload_n (pc := 607) (zDk zD_331_4_ok 13 rfl) rfl ?_
  refine E_iload_n (pc := 608) (zDk zD_331_4_ok 14 rfl) rfl ?_
  refine E_iconst (pc := 609) (zDk zD_331_4_ok 15 rfl) (by decide +kernel) ?_
  refine W_iadd (pc := 610) (zDk zD_331_4_ok 16 rfl) ?_
  obtain ⟨v611, e611, h⟩ := zS_bind h
  refine E_ialoadX (pc := 611) (zDk zD_331_4_ok 17 rfl) e611 ?_
  obtain ⟨r612_, e612, h⟩ := zS_bind h
  refine E_virI (pc := 612) (c := 233) (r := 106) (as := [.inl v606, .inl v611]) (rest := [.inl v598]) (zDk zD_331_4_ok 18 rfl) zc_331 (by decide +kernel) zk_233 ⟨(Nat.le_of_ble_eq_true rfl), rfl, rfl⟩ (Nat.le_of_ble_eq_true rfl) (zr_233 _) (Nat.lt_of_lt_of_le (by decide) hq) (by rw [zm_233]; exact (Nat.le_of_ble_eq_true rfl)) ⟨zc_233, by decide⟩ zis_8_106 (ok_lm_at ⟨r612_, e612, ?_⟩)
  refine E_icmp (pc := 615) (t := 2236) (zDk zD_331_4_ok 19 rfl) rfl (fun hz => ?_) (fun hz => ?_)
  · have h := zS_t h (T_eq hz)
    refine W_iinc (pc := 2236) (L' := [some (.inr (.inr 5001)), some (.inr (.inr 0)), some (.inr (.inr 106)), some (.inl (w32 (y3 + 6)))]) (zDk zD_331_25_ok 24 rfl) rfl zm_331 (by decide) rfl ?_
    refine E_goto (pc := 2239) (t := 18) (zDk zD_331_25_ok 25 rfl) rfl ?_
    exact H18 (w32 (y3 + 6)) r612_.2 h
  · have h := zS_f h (F_eq hz)
    refine E_iconst (pc := 618) (zDk zD_331_4_ok 20 rfl) (by decide +kernel) ?_
    have h := zS_some h
    exact E_ireturnZ (pc := 619) (zDk zD_331_4_ok 21 rfl) zt_331 (by decide) h
def lQ_law_c620 (sc : zSc) (h18 : Int → (Nat → Nat → Int) → Option (Int × (Nat → Nat → Int))) (y3 : Int) (M : Nat → Nat → Int) : Option (Int × (Nat → Nat → Int)) :=
    ((rdX sc (w32 (y3 + (1 : Int)))).bind (fun v625 =>
    ((rdX sc (w32 (y3 + (2 : Int)))).bind (fun v630 =>
    ((lX_ink v625 v630 M).bind (fun v631 =>
    ((rdX sc (w32 (y3 + (1 : Int)))).bind (fun v639 =>
    ((rdX sc (w32 (y3 + (2 : Int)))).bind (fun v644 =>
    ((lm_ink v639 v644 M).bind (fun r645_ =>
    (if v631 = r645_.1 then
    (h18 (w32 (y3 + 6)) r645_.2)
    else
    (some ((0 : Int), r645_.2)))))))))))))))
set_option maxRecDepth 100000 in
theorem ok_lQ_law_c620 {q : Nat} {P : Option zV → (Nat → Nat → Int) → Prop} (hq : 20 ≤ q) (sc : zSc) (h18 : Int → (Nat → Nat → Int) → Option (Int × (Nat → Nat → Int))) (H18 : ∀ (y3 : Int) (M : Nat → Nat → Int), zS (h18 y3 M) (fun r => P (some (.inl r.1)) r.2) → zWp sc q 331 18 [some (.inr (.inr 5001)), some (.inr (.inr 0)), some (.inr (.inr 106)), some (.inl y3)] [] M P) : ∀ (y3 : Int) (M : Nat → Nat → Int), zS (lQ_law_c620 sc h18 y3 M) (fun r => P (some (.inl r.1)) r.2) → zWp sc q 331 620 [some (.inr (.inr 5001)), some (.inr (.inr 0)), some (.inr (.inr 106)), some (.inl y3)] [] M P := by
  intro y3 M h
  unfold lQ_law_c620 at h
  refine E_aload_n (pc := 620) (zDk zD_331_4_ok 22 rfl) rfl ?_
  refine E_aload_n (pc := 621) (zDk zD_331_4_ok 23 rfl) rfl ?_
  refine E_iload_n (pc := 622) (zDk zD_331_4_ok 24 rfl) rfl ?_
  refine E_iconst (pc := 623) (zDk zD_331_4_ok 25 rfl) (by decide +kernel) ?_
  refine W_iadd (pc := 624) (zDk zD_331_4_ok 26 rfl) ?_
  obtain ⟨v625, e625, h⟩ := zS_bind h
  refine E_ialoadX (pc := 625) (zDk zD_331_4_ok 27 rfl) e625 ?_
  refine E_aload_n (pc := 626) (zDk zD_331_4_ok 28 rfl) rfl ?_
  refine E_iload_n (pc := 627) (zDk zD_331_4_ok 29 rfl) rfl ?_
  refine E_iconst (pc := 628) (zDk zD_331_4_ok 30 rfl) (by decide +kernel) ?_
  refine W_iadd (pc := 629) (zDk zD_331_4_ok 31 rfl) ?_
  obtain ⟨v630, e630, h⟩ := zS_bind h
  refine E_ialoadX (pc := 630) (zDk zD_331_4_ok 32 rfl) e630 ?_
  obtain ⟨v631, e631, h⟩ := zS_bind h
  refine E_virI (pc := 631) (c := 87) (r := 0) (as := [.inl v625, .inl v630]) (rest := []) (zDk zD_331_4_ok 33 rfl) zc_331 (by decide +kernel) zk_87 ⟨(Nat.le_of_ble_eq_true rfl), rfl, rfl⟩ (Nat.le_of_ble_eq_true rfl) (zr_87 _) (Nat.lt_of_lt_of_le (by decide) hq) (by rw [zm_87]; exact (Nat.le_of_ble_eq_true rfl)) ⟨zc_87, by decide⟩ zis_7_0 (ok_lX_ink ⟨v631, e631, ?_⟩)
  refine E_aload_n (pc := 634) (zDk zD_331_4_ok 34 rfl) rfl ?_
  refine E_aload_n (pc := 635) (zDk zD_331_4_ok 35 rfl) rfl ?_
  refine E_iload_n (pc := 636) (zDk zD_331_4_ok 36 rfl) rfl ?_
  refine E_iconst (pc := 637) (zDk zD_331_4_ok 37 rfl) (by decide +kernel) ?_
  refine W_iadd (pc := 638) (zDk zD_331_4_ok 38 rfl) ?_
  obtain ⟨v639, e639, h⟩ := zS_bind h
  refine E_ialoadX (pc := 639) (zDk zD_331_4_ok 39 rfl) e639 ?_
  refine E_aload_n (pc := 640) (zDk zD_331_4_ok 40 rfl) rfl ?_
  refine E_iload_n (pc := 641) (zDk zD_331_4_ok 41 rfl) rfl ?_
  refine E_iconst (pc := 642) (zDk zD_331_4_ok 42 rfl) (by decide +kernel) ?_
  refine W_iadd (pc := 643) (zDk zD_331_4_ok 43 rfl) ?_
  obtain ⟨v644, e644, h⟩ := zS_bind h
  refine E_ialoadX (pc := 644) (zDk zD_331_4_ok 44 rfl) e644 ?_
  obtain ⟨r645_, e645, h⟩ := zS_bind h
  refine E_virI (pc := 645) (c := 234) (r := 106) (as := [.inl v639, .inl v644]) (rest := [.inl v631]) (zDk zD_331_4_ok 45 rfl) zc_331 (by decide +kernel) zk_234 ⟨(Nat.le_of_ble_eq_true rfl), rfl, rfl⟩ (Nat.le_of_ble_eq_true rfl) (zr_234 _) (Nat.lt_of_lt_of_le (by decide) hq) (by rw [zm_234]; exact (Nat.le_of_ble_eq_true rfl)) ⟨zc_234, by decide⟩ zis_8_106 (ok_lm_ink ⟨r645_, e645, ?_⟩)
  refine E_icmp (pc := 648) (t := 2236) (zDk zD_331_4_ok 46 rfl) rfl (fun hz => ?_) (fun hz => ?_)
  · have h := zS_t h (T_eq hz)
    refine W_iinc (pc := 2236) (L' := [some (.inr (.inr 5001)), some (.inr (.inr 0)), some (.inr (.inr 106)), some (.inl (w32 (y3 + 6)))]) (zDk zD_331_25_ok 24 rfl) rfl zm_331 (by decide) rfl ?_
    refine E_goto (pc := 2239) (t := 18) (zDk zD_331_25_ok 25 rfl) rfl ?_
    exact H18 (w32 (y3 + 6)) r645_.2 h
  · have h := zS_f h (F_eq hz)
    refine E_iconst (pc := 651) (zDk zD_331_4_ok 47 rfl) (by decide +kernel) ?_
    have h := zS_some h
    exact E_ireturnZ (pc := 652) (zDk zD_331_4_ok 48 rfl) zt_331 (by decide) h
def lQ_law_c653 (sc : zSc) (h18 : Int → (Nat → Nat → Int) → Option (Int × (Nat → Nat → Int))) (y3 : Int) (M : Nat → Nat → Int) : Option (Int × (Nat → Nat → Int)) :=
    ((rdX sc (w32 (y3 + (1 : Int)))).bind (fun v658 =>
    ((lX_awake v658 M).bind (fun v659 =>
    ((rdX sc (w32 (y3 + (1 : Int)))).bind (fun v667 =>
    ((lm_awake v667 M).bind (fun r668_ =>
    (if v659 = r668_.1 then
    (h18 (w32 (y3 + 6)) r668_.2)
    else
    (some ((0 : Int), r668_.2)))))))))))
set_option maxRecDepth 100000 in
theorem ok_lQ_law_c653 {q : Nat} {P : Option zV → (Nat → Nat → Int) → Prop} (hq : 20 ≤ q) (sc : zSc) (h18 : Int → (Nat → Nat → Int) → Option (Int × (Nat → Nat → Int))) (H18 : ∀ (y3 : Int) (M : Nat → Nat → Int), zS (h18 y3 M) (fun r => P (some (.inl r.1)) r.2) → zWp sc q 331 18 [some (.inr (.inr 5001)), some (.inr (.inr 0)), some (.inr (.inr 106)), some (.inl y3)] [] M P) : ∀ (y3 : Int) (M : Nat → Nat → Int), zS (lQ_law_c653 sc h18 y3 M) (fun r => P (some (.inl r.1)) r.2) → zWp sc q 331 653 [some (.inr (.inr 5001)), some (.inr (.inr 0)), some (.inr (.inr 106)), some (.inl y3)] [] M P := by
  intro y3 M h
  unfold lQ_law_c653 at h
  refine E_aload_n (pc := 653) (zDk zD_331_4_ok 49 rfl) rfl ?_
  refine E_aload_n (pc := 654) (zDk zD_331_4_ok 50 rfl) rfl ?_
  refine E_iload_n (pc := 655) (zDk zD_331_4_ok 51 rfl) rfl ?_
  refine E_iconst (pc := 656) (zDk zD_331_4_ok 52 rfl) (by decide +kernel) ?_
  refine W_iadd (pc := 657) (zDk zD_331_4_ok 53 rfl) ?_
  obtain ⟨v658, e658, h⟩ := zS_bind h
  refine E_ialoadX (pc := 658) (zDk zD_331_4_ok 54 rfl) e658 ?_
  obtain ⟨v659, e659, h⟩ := zS_bind h
  refine E_virI (pc := 659) (c := 88) (r := 0) (as := [.inl v658]) (rest := []) (zDk zD_331_4_ok 55 rfl) zc_331 (by decide +kernel) zk_88 ⟨(Nat.le_of_ble_eq_true rfl), rfl, rfl⟩ (Nat.le_of_ble_eq_true rfl) (zr_88 _) (Nat.lt_of_lt_of_le (by decide) hq) (by rw [zm_88]; exact (Nat.le_of_ble_eq_true rfl)) ⟨zc_88, by decide⟩ zis_7_0 (ok_lX_awake ⟨v659, e659, ?_⟩)
  refine E_aload_n (pc := 662) (zDk zD_331_4_ok 56 rfl) rfl ?_
  refine E_aload_n (pc := 663) (zDk zD_331_4_ok 57 rfl) rfl ?_
  refine E_iload_n (pc := 664) (zDk zD_331_4_ok 58 rfl) rfl ?_
  refine E_iconst (pc := 665) (zDk zD_331_4_ok 59 rfl) (by decide +kernel) ?_
  refine W_iadd (pc := 666) (zDk zD_331_5_ok 0 rfl) ?_
  obtain ⟨v667, e667, h⟩ := zS_bind h
  refine E_ialoadX (pc := 667) (zDk zD_331_5_ok 1 rfl) e667 ?_
  obtain ⟨r668_, e668, h⟩ := zS_bind h
  refine E_virI (pc := 668) (c := 235) (r := 106) (as := [.inl v667]) (rest := [.inl v659]) (zDk zD_331_5_ok 2 rfl) zc_331 (by decide +kernel) zk_235 ⟨(Nat.le_of_ble_eq_true rfl), rfl, rfl⟩ (Nat.le_of_ble_eq_true rfl) (zr_235 _) (Nat.lt_of_lt_of_le (by decide) hq) (by rw [zm_235]; exact (Nat.le_of_ble_eq_true rfl)) ⟨zc_235, by decide⟩ zis_8_106 (ok_lm_awake ⟨r668_, e668, ?_⟩)
  refine E_icmp (pc := 671) (t := 2236) (zDk zD_331_5_ok 3 rfl) rfl (fun hz => ?_) (fun hz => ?_)
  · have h := zS_t h (T_eq hz)
    refine W_iinc (pc := 2236) (L' := [some (.inr (.inr 5001)), some (.inr (.inr 0)), some (.inr (.inr 106)), some (.inl (w32 (y3 + 6)))]) (zDk zD_331_25_ok 24 rfl) rfl zm_331 (by decide) rfl ?_
    refine E_goto (pc := 2239) (t := 18) (zDk zD_331_25_ok 25 rfl) rfl ?_
    exact H18 (w32 (y3 + 6)) r668_.2 h
  · have h := zS_f h (F_eq hz)
    refine E_iconst (pc := 674) (zDk zD_331_5_ok 4 rfl) (by decide +kernel) ?_
    have h := zS_some h
    exact E_ireturnZ (pc := 675) (zDk zD_331_5_ok 5 rfl) zt_331 (by decide) h
def lQ_law_c676 (sc : zSc) (h18 : Int → (Nat → Nat → Int) → Option (Int × (Nat → Nat → Int))) (y3 : Int) (M : Nat → Nat → Int) : Option (Int × (Nat → Nat → Int)) :=
    ((rdX sc (w32 (y3 + (1 : Int)))).bind (fun v681 =>
    ((rdX sc (w32 (y3 + (2 : Int)))).bind (fun v686 =>
    ((lX_here v681 v686 M).bind (fun v687 =>
    ((rdX sc (w32 (y3 + (1 : Int)))).bind (fun v695 =>
    ((rdX sc (w32 (y3 + (2 : Int)))).bind (fun v700 =>
    ((lm_here v695 v700 M).bind (fun r701_ =>
    (if v687 = r701_.1 then
    (h18 (w32 (y3 + 6)) r701_.2)
    else
    (some ((0 : Int), r701_.2)))))))))))))))
set_option maxRecDepth 100000 in
theorem ok_lQ_law_c676 {q : Nat} {P : Option zV → (Nat → Nat → Int) → Prop} (hq : 20 ≤ q) (sc : zSc) (h18 : Int → (Nat → Nat → Int) → Option (Int × (Nat → Nat → Int))) (H18 : ∀ (y3 : Int) (M : Nat → Nat → Int), zS (h18 y3 M) (fun r => P (some (.inl r.1)) r.2) → zWp sc q 331 18 [some (.inr (.inr 5001)), some (.inr (.inr 0)), some (.inr (.inr 106)), some (.inl y3)] [] M P) : ∀ (y3 : Int) (M : Nat → Nat → Int), zS (lQ_law_c676 sc h18 y3 M) (fun r => P (some (.inl r.1)) r.2) → zWp sc q 331 676 [some (.inr (.inr 5001)), some (.inr (.inr 0)), some (.inr (.inr 106)), some (.inl y3)] [] M P := by
  intro y3 M h
  unfold lQ_law_c676 at h
  refine E_aload_n (pc := 676) (zDk zD_331_5_ok 6 rfl) rfl ?_
  refine E_aload_n (pc := 677) (zDk zD_331_5_ok 7 rfl) rfl ?_
  refine E_iload_n (pc := 678) (zDk zD_331_5_ok 8 rfl) rfl ?_
  refine E_iconst (pc := 679) (zDk zD_331_5_ok 9 rfl) (by decide +kernel) ?_
  refine W_iadd (pc := 680) (zDk zD_331_5_ok 10 rfl) ?_
  obtain ⟨v681, e681, h⟩ := zS_bind h
  refine E_ialoadX (pc := 681) (zDk zD_331_5_ok 11 rfl) e681 ?_
  refine E_aload_n (pc := 682) (zDk zD_331_5_ok 12 rfl) rfl ?_
  refine E_iload_n (pc := 683) (zDk zD_331_5_ok 13 rfl) rfl ?_
  refine E_iconst (pc := 684) (zDk zD_331_5_ok 14 rfl) (by decide +kernel) ?_
  refine W_iadd (pc := 685) (zDk zD_331_5_ok 15 rfl) ?_
  obtain ⟨v686, e686, h⟩ := zS_bind h
  refine E_ialoadX (pc := 686) (zDk zD_331_5_ok 16 rfl) e686 ?_
  obtain ⟨v687, e687, h⟩ := zS_bind h
  refine E_virI (pc := 687) (c := 89) (r := 0) (as := [.inl v681, .inl v686]) (rest := []) (zDk zD_331_5_ok 17 rfl) zc_331 (by decide +kernel) zk_89 ⟨(Nat.le_of_ble_eq_true rfl), rfl, rfl⟩ (Nat.le_of_ble_eq_true rfl) (zr_89 _) (Nat.lt_of_lt_of_le (by decide) hq) (by rw [zm_89]; exact (Nat.le_of_ble_eq_true rfl)) ⟨zc_89, by decide⟩ zis_7_0 (ok_lX_here ⟨v687, e687, ?_⟩)
  refine E_aload_n (pc := 690) (zDk zD_331_5_ok 18 rfl) rfl ?_
  refine E_aload_n (pc := 691) (zDk zD_331_5_ok 19 rfl) rfl ?_
  refine E_iload_n (pc := 692) (zDk zD_331_5_ok 20 rfl) rfl ?_
  refine E_iconst (pc := 693) (zDk zD_331_5_ok 21 rfl) (by decide +kernel) ?_
  refine W_iadd (pc := 694) (zDk zD_331_5_ok 22 rfl) ?_
  obtain ⟨v695, e695, h⟩ := zS_bind h
  refine E_ialoadX (pc := 695) (zDk zD_331_5_ok 23 rfl) e695 ?_
  refine E_aload_n (pc := 696) (zDk zD_331_5_ok 24 rfl) rfl ?_
  refine E_iload_n (pc := 697) (zDk zD_331_5_ok 25 rfl) rfl ?_
  refine E_iconst (pc := 698) (zDk zD_331_5_ok 26 rfl) (by decide +kernel) ?_
  refine W_iadd (pc := 699) (zDk zD_331_5_ok 27 rfl) ?_
  obtain ⟨v700, e700, h⟩ := zS_bind h
  refine E_ialoadX (pc := 700) (zDk zD_331_5_ok 28 rfl) e700 ?_
  obtain ⟨r701_, e701, h⟩ := zS_bind h
  refine E_virI (pc := 701) (c := 237) (r := 106) (as := [.inl v695, .inl v700]) (rest := [.inl v687]) (zDk zD_331_5_ok 29 rfl) zc_331 (by decide +kernel) zk_237 ⟨(Nat.le_of_ble_eq_true rfl), rfl, rfl⟩ (Nat.le_of_ble_eq_true rfl) (zr_237 _) (Nat.lt_of_lt_of_le (by decide) hq) (by rw [zm_237]; exact (Nat.le_of_ble_eq_true rfl)) ⟨zc_237, by decide⟩ zis_8_106 (ok_lm_here ⟨r701_, e701, ?_⟩)
  refine E_icmp (pc := 704) (t := 2236) (zDk zD_331_5_ok 30 rfl) rfl (fun hz => ?_) (fun hz => ?_)
  · have h := zS_t h (T_eq hz)
    refine W_iinc (pc := 2236) (L' := [some (.inr (.inr 5001)), some (.inr (.inr 0)), some (.inr (.inr 106)), some (.inl (w32 (y3 + 6)))]) (zDk zD_331_25_ok 24 rfl) rfl zm_331 (by decide) rfl ?_
    refine E_goto (pc := 2239) (t := 18) (zDk zD_331_25_ok 25 rfl) rfl ?_
    exact H18 (w32 (y3 + 6)) r701_.2 h
  · have h := zS_f h (F_eq hz)
    refine E_iconst (pc := 707) (zDk zD_331_5_ok 31 rfl) (by decide +kernel) ?_
    have h := zS_some h
    exact E_ireturnZ (pc := 708) (zDk zD_331_5_ok 32 rfl) zt_331 (by decide) h
def lQ_law_c709 (sc : zSc) (h18 : Int → (Nat → Nat → Int) → Option (Int × (Nat → Nat → Int))) (y3 : Int) (M : Nat → Nat → Int) : Option (Int × (Nat → Nat → Int)) :=
    ((rdX sc (w32 (y3 + (1 : Int)))).bind (fun v714 =>
    ((lX_sleeps v714 M).bind (fun v715 =>
    ((rdX sc (w32 (y3 + (1 : Int)))).bind (fun v723 =>
    ((lm_sleeps v723 M).bind (fun r724_ =>
    (if v715 = r724_.1 then
    (h18 (w32 (y3 + 6)) r724_.2)
    else
    (some ((0 : Int), r724_.2)))))))))))
set_option maxRecDepth 100000 in
theorem ok_lQ_law_c709 {q : Nat} {P : Option zV → (Nat → Nat → Int) → Prop} (hq : 20 ≤ q) (sc : zSc) (h18 : Int → (Nat → Nat → Int) → Option (Int × (Nat → Nat → Int))) (H18 : ∀ (y3 : Int) (M : Nat → Nat → Int), zS (h18 y3 M) (fun r => P (some (.inl r.1)) r.2) → zWp sc q 331 18 [some (.inr (.inr 5001)), some (.inr (.inr 0)), some (.inr (.inr 106)), some (.inl y3)] [] M P) : ∀ (y3 : Int) (M : Nat → Nat → Int), zS (lQ_law_c709 sc h18 y3 M) (fun r => P (some (.inl r.1)) r.2) → zWp sc q 331 709 [some (.inr (.inr 5001)), some (.inr (.inr 0)), some (.inr (.inr 106)), some (.inl y3)] [] M P := by
  intro y3 M h
  unfold lQ_law_c709 at h
  refine E_aload_n (pc := 709) (zDk zD_331_5_ok 33 rfl) rfl ?_
  refine E_aload_n (pc := 710) (zDk zD_331_5_ok 34 rfl) rfl ?_
  refine E_iload_n (pc := 711) (zDk zD_331_5_ok 35 rfl) rfl ?_
  refine E_iconst (pc := 712) (zDk zD_331_5_ok 36 rfl) (by decide +kernel) ?_
  refine W_iadd (pc := 713) (zDk zD_331_5_ok 37 rfl) ?_
  obtain ⟨v714, e714, h⟩ := zS_bind h
  refine E_ialoadX (pc := 714) (zDk zD_331_5_ok 38 rfl) e714 ?_
  obtain ⟨v715, e715, h⟩ := zS_bind h
  refine E_virI (pc := 715) (c := 90) (r := 0) (as := [.inl v714]) (rest := []) (zDk zD_331_5_ok 39 rfl) zc_331 (by decide +kernel) zk_90 ⟨(Nat.le_of_ble_eq_true rfl), rfl, rfl⟩ (Nat.le_of_ble_eq_true rfl) (zr_90 _) (Nat.lt_of_lt_of_le (by decide) hq) (by rw [zm_90]; exact (Nat.le_of_ble_eq_true rfl)) ⟨zc_90, by decide⟩ zis_7_0 (ok_lX_sleeps ⟨v715, e715, ?_⟩)
  refine E_aload_n (pc := 718) (zDk zD_331_5_ok 40 rfl) rfl ?_
  refine E_aload_n (pc := 719) (zDk zD_331_5_ok 41 rfl) rfl ?_
  refine E_iload_n (pc := 720) (zDk zD_331_5_ok 42 rfl) rfl ?_
  refine E_iconst (pc := 721) (zDk zD_331_5_ok 43 rfl) (by decide +kernel) ?_
  refine W_iadd (pc := 722) (zDk zD_331_5_ok 44 rfl) ?_
  obtain ⟨v723, e723, h⟩ := zS_bind h
  refine E_ialoadX (pc := 723) (zDk zD_331_5_ok 45 rfl) e723 ?_
  obtain ⟨r724_, e724, h⟩ := zS_bind h
  refine E_virI (pc := 724) (c := 239) (r := 106) (as := [.inl v723]) (rest := [.inl v715]) (zDk zD_331_5_ok 46 rfl) zc_331 (by decide +kernel) zk_239 ⟨(Nat.le_of_ble_eq_true rfl), rfl, rfl⟩ (Nat.le_of_ble_eq_true rfl) (zr_239 _) (Nat.lt_of_lt_of_le (by decide) hq) (by rw [zm_239]; exact (Nat.le_of_ble_eq_true rfl)) ⟨zc_239, by decide⟩ zis_8_106 (ok_lm_sleeps ⟨r724_, e724, ?_⟩)
  refine E_icmp (pc := 727) (t := 2236) (zDk zD_331_5_ok 47 rfl) rfl (fun hz => ?_) (fun hz => ?_)
  · have h := zS_t h (T_eq hz)
    refine W_iinc (pc := 2236) (L' := [some (.inr (.inr 5001)), some (.inr (.inr 0)), some (.inr (.inr 106)), some (.inl (w32 (y3 + 6)))]) (zDk zD_331_25_ok 24 rfl) rfl zm_331 (by decide) rfl ?_
    refine E_goto (pc := 2239) (t := 18) (zDk zD_331_25_ok 25 rfl) rfl ?_
    exact H18 (w32 (y3 + 6)) r724_.2 h
  · have h := zS_f h (F_eq hz)
    refine E_iconst (pc := 730) (zDk zD_331_5_ok 48 rfl) (by decide +kernel) ?_
    have h := zS_some h
    exact E_ireturnZ (pc := 731) (zDk zD_331_5_ok 49 rfl) zt_331 (by decide) h
def lQ_law_c732 (sc : zSc) (h18 : Int → (Nat → Nat → Int) → Option (Int × (Nat → Nat → Int))) (y3 : Int) (M : Nat → Nat → Int) : Option (Int × (Nat → Nat → Int)) :=
    ((rdX sc (w32 (y3 + (1 : Int)))).bind (fun v737 =>
    ((lX_goes v737 M).bind (fun v738 =>
    ((rdX sc (w32 (y3 + (1 : Int)))).bind (fun v746 =>
    ((lm_goes v746 M).bind (fun r747_ =>
    (if v738 = r747_.1 then
    (h18 (w32 (y3 + 6)) r747_.2)
    else
    (some ((0 : Int), r747_.2)))))))))))
set_option maxRecDepth 100000 in
theorem ok_lQ_law_c732 {q : Nat} {P : Option zV → (Nat → Nat → Int) → Prop} (hq : 20 ≤ q) (sc : zSc) (h18 : Int → (Nat → Nat → Int) → Option (Int × (Nat → Nat → Int))) (H18 : ∀ (y3 : Int) (M : Nat → Nat → Int), zS (h18 y3 M) (fun r => P (some (.inl r.1)) r.2) → zWp sc q 331 18 [some (.inr (.inr 5001)), some (.inr (.inr 0)), some (.inr (.inr 106)), some (.inl y3)] [] M P) : ∀ (y3 : Int) (M : Nat → Nat → Int), zS (lQ_law_c732 sc h18 y3 M) (fun r => P (some (.inl r.1)) r.2) → zWp sc q 331 732 [some (.inr (.inr 5001)), some (.inr (.inr 0)), some (.inr (.inr 106)), some (.inl y3)] [] M P := by
  intro y3 M h
  unfold lQ_law_c732 at h
  refine E_aload_n (pc := 732) (zDk zD_331_5_ok 50 rfl) rfl ?_
  refine E_aload_n (pc := 733) (zDk zD_331_5_ok 51 rfl) rfl ?_
  refine E_iload_n (pc := 734) (zDk zD_331_5_ok 52 rfl) rfl ?_
  refine E_iconst (pc := 735) (zDk zD_331_5_ok 53 rfl) (by decide +kernel) ?_
  refine W_iadd (pc := 736) (zDk zD_331_5_ok 54 rfl) ?_
  obtain ⟨v737, e737, h⟩ := zS_bind h
  refine E_ialoadX (pc := 737) (zDk zD_331_5_ok 55 rfl) e737 ?_
  obtain ⟨v738, e738, h⟩ := zS_bind h
  refine E_virI (pc := 738) (c := 91) (r := 0) (as := [.inl v737]) (rest := []) (zDk zD_331_5_ok 56 rfl) zc_331 (by decide +kernel) zk_91 ⟨(Nat.le_of_ble_eq_true rfl), rfl, rfl⟩ (Nat.le_of_ble_eq_true rfl) (zr_91 _) (Nat.lt_of_lt_of_le (by decide) hq) (by rw [zm_91]; exact (Nat.le_of_ble_eq_true rfl)) ⟨zc_91, by decide⟩ zis_7_0 (ok_lX_goes ⟨v738, e738, ?_⟩)
  refine E_aload_n (pc := 741) (zDk zD_331_5_ok 57 rfl) rfl ?_
  refine E_aload_n (pc := 742) (zDk zD_331_5_ok 58 rfl) rfl ?_
  refine E_iload_n (pc := 743) (zDk zD_331_5_ok 59 rfl) rfl ?_
  refine E_iconst (pc := 744) (zDk zD_331_6_ok 0 rfl) (by decide +kernel) ?_
  refine W_iadd (pc := 745) (zDk zD_331_6_ok 1 rfl) ?_
  obtain ⟨v746, e746, h⟩ := zS_bind h
  refine E_ialoadX (pc := 746) (zDk zD_331_6_ok 2 rfl) e746 ?_
  obtain ⟨r747_, e747, h⟩ := zS_bind h
  refine E_virI (pc := 747) (c := 240) (r := 106) (as := [.inl v746]) (rest := [.inl v738]) (zDk zD_331_6_ok 3 rfl) zc_331 (by decide +kernel) zk_240 ⟨(Nat.le_of_ble_eq_true rfl), rfl, rfl⟩ (Nat.le_of_ble_eq_true rfl) (zr_240 _) (Nat.lt_of_lt_of_le (by decide) hq) (by rw [zm_240]; exact (Nat.le_of_ble_eq_true rfl)) ⟨zc_240, by decide⟩ zis_8_106 (ok_lm_goes ⟨r747_, e747, ?_⟩)
  refine E_icmp (pc := 750) (t := 2236) (zDk zD_331_6_ok 4 rfl) rfl (fun hz => ?_) (fun hz => ?_)
  · have h := zS_t h (T_eq hz)
    refine W_iinc (pc := 2236) (L' := [some (.inr (.inr 5001)), some (.inr (.inr 0)), some (.inr (.inr 106)), some (.inl (w32 (y3 + 6)))]) (zDk zD_331_25_ok 24 rfl) rfl zm_331 (by decide) rfl ?_
    refine E_goto (pc := 2239) (t := 18) (zDk zD_331_25_ok 25 rfl) rfl ?_
    exact H18 (w32 (y3 + 6)) r747_.2 h
  · have h := zS_f h (F_eq hz)
    refine E_iconst (pc := 753) (zDk zD_331_6_ok 5 rfl) (by decide +kernel) ?_
    have h := zS_some h
    exact E_ireturnZ (pc := 754) (zDk zD_331_6_ok 6 rfl) zt_331 (by decide) h
def lQ_law_c755 (sc : zSc) (h18 : Int → (Nat → Nat → Int) → Option (Int × (Nat → Nat → Int))) (y3 : Int) (M : Nat → Nat → Int) : Option (Int × (Nat → Nat → Int)) :=
    ((rdX sc (w32 (y3 + (1 : Int)))).bind (fun v760 =>
    ((lX_stuck v760 M).bind (fun v761 =>
    ((rdX sc (w32 (y3 + (1 : Int)))).bind (fun v769 =>
    ((lm_stuck v769 M).bind (fun r770_ =>
    (if v761 = r770_.1 then
    (h18 (w32 (y3 + 6)) r770_.2)
    else
    (some ((0 : Int), r770_.2)))))))))))
set_option maxRecDepth 100000 in
theorem ok_lQ_law_c755 {q : Nat} {P : Option zV → (Nat → Nat → Int) → Prop} (hq : 20 ≤ q) (sc : zSc) (h18 : Int → (Nat → Nat → Int) → Option (Int × (Nat → Nat → Int))) (H18 : ∀ (y3 : Int) (M : Nat → Nat → Int), zS (h18 y3 M) (fun r => P (some (.inl r.1)) r.2) → zWp sc q 331 18 [some (.inr (.inr 5001)), some (.inr (.inr 0)), some (.inr (.inr 106)), some (.inl y3)] [] M P) : ∀ (y3 : Int) (M : Nat → Nat → Int), zS (lQ_law_c755 sc h18 y3 M) (fun r => P (some (.inl r.1)) r.2) → zWp sc q 331 755 [some (.inr (.inr 5001)), some (.inr (.inr 0)), some (.inr (.inr 106)), some (.inl y3)] [] M P := by
  intro y3 M h
  unfold lQ_law_c755 at h
  refine E_aload_n (pc := 755) (zDk zD_331_6_ok 7 rfl) rfl ?_
  refine E_aload_n (pc := 756) (zDk zD_331_6_ok 8 rfl) rfl ?_
  refine E_iload_n (pc := 757) (zDk zD_331_6_ok 9 rfl) rfl ?_
  refine E_iconst (pc := 758) (zDk zD_331_6_ok 10 rfl) (by decide +kernel) ?_
  refine W_iadd (pc := 759) (zDk zD_331_6_ok 11 rfl) ?_
  obtain ⟨v760, e760, h⟩ := zS_bind h
  refine E_ialoadX (pc := 760) (zDk zD_331_6_ok 12 rfl) e760 ?_
  obtain ⟨v761, e761, h⟩ := zS_bind h
  refine E_virI (pc := 761) (c := 92) (r := 0) (as := [.inl v760]) (rest := []) (zDk zD_331_6_ok 13 rfl) zc_331 (by decide +kernel) zk_92 ⟨(Nat.le_of_ble_eq_true rfl), rfl, rfl⟩ (Nat.le_of_ble_eq_true rfl) (zr_92 _) (Nat.lt_of_lt_of_le (by decide) hq) (by rw [zm_92]; exact (Nat.le_of_ble_eq_true rfl)) ⟨zc_92, by decide⟩ zis_7_0 (ok_lX_stuck ⟨v761, e761, ?_⟩)
  refine E_aload_n (pc := 764) (zDk zD_331_6_ok 14 rfl) rfl ?_
  refine E_aload_n (pc := 765) (zDk zD_331_6_ok 15 rfl) rfl ?_
  refine E_iload_n (pc := 766) (zDk zD_331_6_ok 16 rfl) rfl ?_
  refine E_iconst (pc := 767) (zDk zD_331_6_ok 17 rfl) (by decide +kernel) ?_
  refine W_iadd (pc := 768) (zDk zD_331_6_ok 18 rfl) ?_
  obtain ⟨v769, e769, h⟩ := zS_bind h
  refine E_ialoadX (pc := 769) (zDk zD_331_6_ok 19 rfl) e769 ?_
  obtain ⟨r770_, e770, h⟩ := zS_bind h
  refine E_virI (pc := 770) (c := 241) (r := 106) (as := [.inl v769]) (rest := [.inl v761]) (zDk zD_331_6_ok 20 rfl) zc_331 (by decide +kernel) zk_241 ⟨(Nat.le_of_ble_eq_true rfl), rfl, rfl⟩ (Nat.le_of_ble_eq_true rfl) (zr_241 _) (Nat.lt_of_lt_of_le (by decide) hq) (by rw [zm_241]; exact (Nat.le_of_ble_eq_true rfl)) ⟨zc_241, by decide⟩ zis_8_106 (ok_lm_stuck ⟨r770_, e770, ?_⟩)
  refine E_icmp (pc := 773) (t := 2236) (zDk zD_331_6_ok 21 rfl) rfl (fun hz => ?_) (fun hz => ?_)
  · have h := zS_t h (T_eq hz)
    refine W_iinc (pc := 2236) (L' := [some (.inr (.inr 5001)), some (.inr (.inr 0)), some (.inr (.inr 106)), some (.inl (w32 (y3 + 6)))]) (zDk zD_331_25_ok 24 rfl) rfl zm_331 (by decide) rfl ?_
    refine E_goto (pc := 2239) (t := 18) (zDk zD_331_25_ok 25 rfl) rfl ?_
    exact H18 (w32 (y3 + 6)) r770_.2 h
  · have h := zS_f h (F_eq hz)
    refine E_iconst (pc := 776) (zDk zD_331_6_ok 22 rfl) (by decide +kernel) ?_
    have h := zS_some h
    exact E_ireturnZ (pc := 777) (zDk zD_331_6_ok 23 rfl) zt_331 (by decide) h
def lQ_law_c778 (sc : zSc) (h18 : Int → (Nat → Nat → Int) → Option (Int × (Nat → Nat → Int))) (y3 : Int) (M : Nat → Nat → Int) : Option (Int × (Nat → Nat → Int)) :=
    ((rdX sc (w32 (y3 + (1 : Int)))).bind (fun v783 =>
    ((lX_sees v783 M).bind (fun v784 =>
    ((rdX sc (w32 (y3 + (1 : Int)))).bind (fun v792 =>
    ((lm_sees v792 M).bind (fun r793_ =>
    (if v784 = r793_.1 then
    (h18 (w32 (y3 + 6)) r793_.2)
    else
    (some ((0 : Int), r793_.2)))))))))))
set_option maxRecDepth 100000 in
theorem ok_lQ_law_c778 {q : Nat} {P : Option zV → (Nat → Nat → Int) → Prop} (hq : 20 ≤ q) (sc : zSc) (h18 : Int → (Nat → Nat → Int) → Option (Int × (Nat → Nat → Int))) (H18 : ∀ (y3 : Int) (M : Nat → Nat → Int), zS (h18 y3 M) (fun r => P (some (.inl r.1)) r.2) → zWp sc q 331 18 [some (.inr (.inr 5001)), some (.inr (.inr 0)), some (.inr (.inr 106)), some (.inl y3)] [] M P) : ∀ (y3 : Int) (M : Nat → Nat → Int), zS (lQ_law_c778 sc h18 y3 M) (fun r => P (some (.inl r.1)) r.2) → zWp sc q 331 778 [some (.inr (.inr 5001)), some (.inr (.inr 0)), some (.inr (.inr 106)), some (.inl y3)] [] M P := by
  intro y3 M h
  unfold lQ_law_c778 at h
  refine E_aload_n (pc := 778) (zDk zD_331_6_ok 24 rfl) rfl ?_
  refine E_aload_n (pc := 779) (zDk zD_331_6_ok 25 rfl) rfl ?_
  refine E_iload_n (pc := 780) (zDk zD_331_6_ok 26 rfl) rfl ?_
  refine E_iconst (pc := 781) (zDk zD_331_6_ok 27 rfl) (by decide +kernel) ?_
  refine W_iadd (pc := 782) (zDk zD_331_6_ok 28 rfl) ?_
  obtain ⟨v783, e783, h⟩ := zS_bind h
  refine E_ialoadX (pc := 783) (zDk zD_331_6_ok 29 rfl) e783 ?_
  obtain ⟨v784, e784, h⟩ := zS_bind h
  refine E_virI (pc := 784) (c := 93) (r := 0) (as := [.inl v783]) (rest := []) (zDk zD_331_6_ok 30 rfl) zc_331 (by decide +kernel) zk_93 ⟨(Nat.le_of_ble_eq_true rfl), rfl, rfl⟩ (Nat.le_of_ble_eq_true rfl) (zr_93 _) (Nat.lt_of_lt_of_le (by decide) hq) (by rw [zm_93]; exact (Nat.le_of_ble_eq_true rfl)) ⟨zc_93, by decide⟩ zis_7_0 (ok_lX_sees ⟨v784, e784, ?_⟩)
  refine E_aload_n (pc := 787) (zDk zD_331_6_ok 31 rfl) rfl ?_
  refine E_aload_n (pc := 788) (zDk zD_331_6_ok 32 rfl) rfl ?_
  refine E_iload_n (pc := 789) (zDk zD_331_6_ok 33 rfl) rfl ?_
  refine E_iconst (pc := 790) (zDk zD_331_6_ok 34 rfl) (by decide +kernel) ?_
  refine W_iadd (pc := 791) (zDk zD_331_6_ok 35 rfl) ?_
  obtain ⟨v792, e792, h⟩ := zS_bind h
  refine E_ialoadX (pc := 792) (zDk zD_331_6_ok 36 rfl) e792 ?_
  obtain ⟨r793_, e793, h⟩ := zS_bind h
  refine E_virI (pc := 793) (c := 242) (r := 106) (as := [.inl v792]) (rest := [.inl v784]) (zDk zD_331_6_ok 37 rfl) zc_331 (by decide +kernel) zk_242 ⟨(Nat.le_of_ble_eq_true rfl), rfl, rfl⟩ (Nat.le_of_ble_eq_true rfl) (zr_242 _) (Nat.lt_of_lt_of_le (by decide) hq) (by rw [zm_242]; exact (Nat.le_of_ble_eq_true rfl)) ⟨zc_242, by decide⟩ zis_8_106 (ok_lm_sees ⟨r793_, e793, ?_⟩)
  refine E_icmp (pc := 796) (t := 2236) (zDk zD_331_6_ok 38 rfl) rfl (fun hz => ?_) (fun hz => ?_)
  · have h := zS_t h (T_eq hz)
    refine W_iinc (pc := 2236) (L' := [some (.inr (.inr 5001)), some (.inr (.inr 0)), some (.inr (.inr 106)), some (.inl (w32 (y3 + 6)))]) (zDk zD_331_25_ok 24 rfl) rfl zm_331 (by decide) rfl ?_
    refine E_goto (pc := 2239) (t := 18) (zDk zD_331_25_ok 25 rfl) rfl ?_
    exact H18 (w32 (y3 + 6)) r793_.2 h
  · have h := zS_f h (F_eq hz)
    refine E_iconst (pc := 799) (zDk zD_331_6_ok 39 rfl) (by decide +kernel) ?_
    have h := zS_some h
    exact E_ireturnZ (pc := 800) (zDk zD_331_6_ok 40 rfl) zt_331 (by decide) h
def lQ_law_c801 (sc : zSc) (h18 : Int → (Nat → Nat → Int) → Option (Int × (Nat → Nat → Int))) (y3 : Int) (M : Nat → Nat → Int) : Option (Int × (Nat → Nat → Int)) :=
    ((rdX sc (w32 (y3 + (1 : Int)))).bind (fun v806 =>
    ((lX_drinks v806 M).bind (fun v807 =>
    ((rdX sc (w32 (y3 + (1 : Int)))).bind (fun v815 =>
    ((lm_drinks v815 M).bind (fun r816_ =>
    (if v807 = r816_.1 then
    (h18 (w32 (y3 + 6)) r816_.2)
    else
    (some ((0 : Int), r816_.2)))))))))))
set_option maxRecDepth 100000 in
theorem ok_lQ_law_c801 {q : Nat} {P : Option zV → (Nat → Nat → Int) → Prop} (hq : 20 ≤ q) (sc : zSc) (h18 : Int → (Nat → Nat → Int) → Option (Int × (Nat → Nat → Int))) (H18 : ∀ (y3 : Int) (M : Nat → Nat → Int), zS (h18 y3 M) (fun r => P (some (.inl r.1)) r.2) → zWp sc q 331 18 [some (.inr (.inr 5001)), some (.inr (.inr 0)), some (.inr (.inr 106)), some (.inl y3)] [] M P) : ∀ (y3 : Int) (M : Nat → Nat → Int), zS (lQ_law_c801 sc h18 y3 M) (fun r => P (some (.inl r.1)) r.2) → zWp sc q 331 801 [some (.inr (.inr 5001)), some (.inr (.inr 0)), some (.inr (.inr 106)), some (.inl y3)] [] M P := by
  intro y3 M h
  unfold lQ_law_c801 at h
  refine E_aload_n (pc := 801) (zDk zD_331_6_ok 41 rfl) rfl ?_
  refine E_aload_n (pc := 802) (zDk zD_331_6_ok 42 rfl) rfl ?_
  refine E_iload_n (pc := 803) (zDk zD_331_6_ok 43 rfl) rfl ?_
  refine E_iconst (pc := 804) (zDk zD_331_6_ok 44 rfl) (by decide +kernel) ?_
  refine W_iadd (pc := 805) (zDk zD_331_6_ok 45 rfl) ?_
  obtain ⟨v806, e806, h⟩ := zS_bind h
  refine E_ialoadX (pc := 806) (zDk zD_331_6_ok 46 rfl) e806 ?_
  obtain ⟨v807, e807, h⟩ := zS_bind h
  refine E_virI (pc := 807) (c := 94) (r := 0) (as := [.inl v806]) (rest := []) (zDk zD_331_6_ok 47 rfl) zc_331 (by decide +kernel) zk_94 ⟨(Nat.le_of_ble_eq_true rfl), rfl, rfl⟩ (Nat.le_of_ble_eq_true rfl) (zr_94 _) (Nat.lt_of_lt_of_le (by decide) hq) (by rw [zm_94]; exact (Nat.le_of_ble_eq_true rfl)) ⟨zc_94, by decide⟩ zis_7_0 (ok_lX_drinks ⟨v807, e807, ?_⟩)
  refine E_aload_n (pc := 810) (zDk zD_331_6_ok 48 rfl) rfl ?_
  refine E_aload_n (pc := 811) (zDk zD_331_6_ok 49 rfl) rfl ?_
  refine E_iload_n (pc := 812) (zDk zD_331_6_ok 50 rfl) rfl ?_
  refine E_iconst (pc := 813) (zDk zD_331_6_ok 51 rfl) (by decide +kernel) ?_
  refine W_iadd (pc := 814) (zDk zD_331_6_ok 52 rfl) ?_
  obtain ⟨v815, e815, h⟩ := zS_bind h
  refine E_ialoadX (pc := 815) (zDk zD_331_6_ok 53 rfl) e815 ?_
  obtain ⟨r816_, e816, h⟩ := zS_bind h
  refine E_virI (pc := 816) (c := 243) (r := 106) (as := [.inl v815]) (rest := [.inl v807]) (zDk zD_331_6_ok 54 rfl) zc_331 (by decide +kernel) zk_243 ⟨(Nat.le_of_ble_eq_true rfl), rfl, rfl⟩ (Nat.le_of_ble_eq_true rfl) (zr_243 _) (Nat.lt_of_lt_of_le (by decide) hq) (by rw [zm_243]; exact (Nat.le_of_ble_eq_true rfl)) ⟨zc_243, by decide⟩ zis_8_106 (ok_lm_drinks ⟨r816_, e816, ?_⟩)
  refine E_icmp (pc := 819) (t := 2236) (zDk zD_331_6_ok 55 rfl) rfl (fun hz => ?_) (fun hz => ?_)
  · have h := zS_t h (T_eq hz)
    refine W_iinc (pc := 2236) (L' := [some (.inr (.inr 5001)), some (.inr (.inr 0)), some (.inr (.inr 106)), some (.inl (w32 (y3 + 6)))]) (zDk zD_331_25_ok 24 rfl) rfl zm_331 (by decide) rfl ?_
    refine E_goto (pc := 2239) (t := 18) (zDk zD_331_25_ok 25 rfl) rfl ?_
    exact H18 (w32 (y3 + 6)) r816_.2 h
  · have h := zS_f h (F_eq hz)
    refine E_iconst (pc := 822) (zDk zD_331_6_ok 56 rfl) (by decide +kernel) ?_
    have h := zS_some h
    exact E_ireturnZ (pc := 823) (zDk zD_331_6_ok 57 rfl) zt_331 (by decide) h
def lQ_law_c824 (sc : zSc) (h18 : Int → (Nat → Nat → Int) → Option (Int × (Nat → Nat → Int))) (y3 : Int) (M : Nat → Nat → Int) : Option (Int × (Nat → Nat → Int)) :=
    ((rdX sc (w32 (y3 + (1 : Int)))).bind (fun v829 =>
    ((lX_signed v829 M).bind (fun v830 =>
    ((rdX sc (w32 (y3 + (1 : Int)))).bind (fun v838 =>
    ((lm_signed v838 M).bind (fun r839_ =>
    (if v830 = r839_.1 then
    (h18 (w32 (y3 + 6)) r839_.2)
    else
    (some ((0 : Int), r839_.2)))))))))))
set_option maxRecDepth 100000 in
theorem ok_lQ_law_c824 {q : Nat} {P : Option zV → (Nat → Nat → Int) → Prop} (hq : 20 ≤ q) (sc : zSc) (h18 : Int → (Nat → Nat → Int) → Option (Int × (Nat → Nat → Int))) (H18 : ∀ (y3 : Int) (M : Nat → Nat → Int), zS (h18 y3 M) (fun r => P (some (.inl r.1)) r.2) → zWp sc q 331 18 [some (.inr (.inr 5001)), some (.inr (.inr 0)), some (.inr (.inr 106)), some (.inl y3)] [] M P) : ∀ (y3 : Int) (M : Nat → Nat → Int), zS (lQ_law_c824 sc h18 y3 M) (fun r => P (some (.inl r.1)) r.2) → zWp sc q 331 824 [some (.inr (.inr 5001)), some (.inr (.inr 0)), some (.inr (.inr 106)), some (.inl y3)] [] M P := by
  intro y3 M h
  unfold lQ_law_c824 at h
  refine E_aload_n (pc := 824) (zDk zD_331_6_ok 58 rfl) rfl ?_
  refine E_aload_n (pc := 825) (zDk zD_331_6_ok 59 rfl) rfl ?_
  refine E_iload_n (pc := 826) (zDk zD_331_7_ok 0 rfl) rfl ?_
  refine E_iconst (pc := 827) (zDk zD_331_7_ok 1 rfl) (by decide +kernel) ?_
  refine W_iadd (pc := 828) (zDk zD_331_7_ok 2 rfl) ?_
  obtain ⟨v829, e829, h⟩ := zS_bind h
  refine E_ialoadX (pc := 829) (zDk zD_331_7_ok 3 rfl) e829 ?_
  obtain ⟨v830, e830, h⟩ := zS_bind h
  refine E_virI (pc := 830) (c := 95) (r := 0) (as := [.inl v829]) (rest := []) (zDk zD_331_7_ok 4 rfl) zc_331 (by decide +kernel) zk_95 ⟨(Nat.le_of_ble_eq_true rfl), rfl, rfl⟩ (Nat.le_of_ble_eq_true rfl) (zr_95 _) (Nat.lt_of_lt_of_le (by decide) hq) (by rw [zm_95]; exact (Nat.le_of_ble_eq_true rfl)) ⟨zc_95, by decide⟩ zis_7_0 (ok_lX_signed ⟨v830, e830, ?_⟩)
  refine E_aload_n (pc := 833) (zDk zD_331_7_ok 5 rfl) rfl ?_
  refine E_aload_n (pc := 834) (zDk zD_331_7_ok 6 rfl) rfl ?_
  refine E_iload_n (pc := 835) (zDk zD_331_7_ok 7 rfl) rfl ?_
  refine E_iconst (pc := 836) (zDk zD_331_7_ok 8 rfl) (by decide +kernel) ?_
  refine W_iadd (pc := 837) (zDk zD_331_7_ok 9 rfl) ?_
  obtain ⟨v838, e838, h⟩ := zS_bind h
  refine E_ialoadX (pc := 838) (zDk zD_331_7_ok 10 rfl) e838 ?_
  obtain ⟨r839_, e839, h⟩ := zS_bind h
  refine E_virI (pc := 839) (c := 244) (r := 106) (as := [.inl v838]) (rest := [.inl v830]) (zDk zD_331_7_ok 11 rfl) zc_331 (by decide +kernel) zk_244 ⟨(Nat.le_of_ble_eq_true rfl), rfl, rfl⟩ (Nat.le_of_ble_eq_true rfl) (zr_244 _) (Nat.lt_of_lt_of_le (by decide) hq) (by rw [zm_244]; exact (Nat.le_of_ble_eq_true rfl)) ⟨zc_244, by decide⟩ zis_8_106 (ok_lm_signed ⟨r839_, e839, ?_⟩)
  refine E_icmp (pc := 842) (t := 2236) (zDk zD_331_7_ok 12 rfl) rfl (fun hz => ?_) (fun hz => ?_)
  · have h := zS_t h (T_eq hz)
    refine W_iinc (pc := 2236) (L' := [some (.inr (.inr 5001)), some (.inr (.inr 0)), some (.inr (.inr 106)), some (.inl (w32 (y3 + 6)))]) (zDk zD_331_25_ok 24 rfl) rfl zm_331 (by decide) rfl ?_
    refine E_goto (pc := 2239) (t := 18) (zDk zD_331_25_ok 25 rfl) rfl ?_
    exact H18 (w32 (y3 + 6)) r839_.2 h
  · have h := zS_f h (F_eq hz)
    refine E_iconst (pc := 845) (zDk zD_331_7_ok 13 rfl) (by decide +kernel) ?_
    have h := zS_some h
    exact E_ireturnZ (pc := 846) (zDk zD_331_7_ok 14 rfl) zt_331 (by decide) h
def lQ_law_c847 (sc : zSc) (h18 : Int → (Nat → Nat → Int) → Option (Int × (Nat → Nat → Int))) (y3 : Int) (M : Nat → Nat → Int) : Option (Int × (Nat → Nat → Int)) :=
    ((rdX sc (w32 (y3 + (1 : Int)))).bind (fun v852 =>
    ((lX_where v852 M).bind (fun v853 =>
    ((rdX sc (w32 (y3 + (1 : Int)))).bind (fun v861 =>
    ((lm_where v861 M).bind (fun r862_ =>
    (if v853 = r862_.1 then
    (h18 (w32 (y3 + 6)) r862_.2)
    else
    (some ((0 : Int), r862_.2)))))))))))
set_option maxRecDepth 100000 in
theorem ok_lQ_law_c847 {q : Nat} {P : Option zV → (Nat → Nat → Int) → Prop} (hq : 20 ≤ q) (sc : zSc) (h18 : Int → (Nat → Nat → Int) → Option (Int × (Nat → Nat → Int))) (H18 : ∀ (y3 : Int) (M : Nat → Nat → Int), zS (h18 y3 M) (fun r => P (some (.inl r.1)) r.2) → zWp sc q 331 18 [some (.inr (.inr 5001)), some (.inr (.inr 0)), some (.inr (.inr 106)), some (.inl y3)] [] M P) : ∀ (y3 : Int) (M : Nat → Nat → Int), zS (lQ_law_c847 sc h18 y3 M) (fun r => P (some (.inl r.1)) r.2) → zWp sc q 331 847 [some (.inr (.inr 5001)), some (.inr (.inr 0)), some (.inr (.inr 106)), some (.inl y3)] [] M P := by
  intro y3 M h
  unfold lQ_law_c847 at h
  refine E_aload_n (pc := 847) (zDk zD_331_7_ok 15 rfl) rfl ?_
  refine E_aload_n (pc := 848) (zDk zD_331_7_ok 16 rfl) rfl ?_
  refine E_iload_n (pc := 849) (zDk zD_331_7_ok 17 rfl) rfl ?_
  refine E_iconst (pc := 850) (zDk zD_331_7_ok 18 rfl) (by decide +kernel) ?_
  refine W_iadd (pc := 851) (zDk zD_331_7_ok 19 rfl) ?_
  obtain ⟨v852, e852, h⟩ := zS_bind h
  refine E_ialoadX (pc := 852) (zDk zD_331_7_ok 20 rfl) e852 ?_
  obtain ⟨v853, e853, h⟩ := zS_bind h
  refine E_virI (pc := 853) (c := 96) (r := 0) (as := [.inl v852]) (rest := []) (zDk zD_331_7_ok 21 rfl) zc_331 (by decide +kernel) zk_96 ⟨(Nat.le_of_ble_eq_true rfl), rfl, rfl⟩ (Nat.le_of_ble_eq_true rfl) (zr_96 _) (Nat.lt_of_lt_of_le (by decide) hq) (by rw [zm_96]; exact (Nat.le_of_ble_eq_true rfl)) ⟨zc_96, by decide⟩ zis_7_0 (ok_lX_where ⟨v853, e853, ?_⟩)
  refine E_aload_n (pc := 856) (zDk zD_331_7_ok 22 rfl) rfl ?_
  refine E_aload_n (pc := 857) (zDk zD_331_7_ok 23 rfl) rfl ?_
  refine E_iload_n (pc := 858) (zDk zD_331_7_ok 24 rfl) rfl ?_
  refine E_iconst (pc := 859) (zDk zD_331_7_ok 25 rfl) (by decide +kernel) ?_
  refine W_iadd (pc := 860) (zDk zD_331_7_ok 26 rfl) ?_
  obtain ⟨v861, e861, h⟩ := zS_bind h
  refine E_ialoadX (pc := 861) (zDk zD_331_7_ok 27 rfl) e861 ?_
  obtain ⟨r862_, e862, h⟩ := zS_bind h
  refine E_virI (pc := 862) (c := 245) (r := 106) (as := [.inl v861]) (rest := [.inl v853]) (zDk zD_331_7_ok 28 rfl) zc_331 (by decide +kernel) zk_245 ⟨(Nat.le_of_ble_eq_true rfl), rfl, rfl⟩ (Nat.le_of_ble_eq_true rfl) (zr_245 _) (Nat.lt_of_lt_of_le (by decide) hq) (by rw [zm_245]; exact (Nat.le_of_ble_eq_true rfl)) ⟨zc_245, by decide⟩ zis_8_106 (ok_lm_where ⟨r862_, e862, ?_⟩)
  refine E_icmp (pc := 865) (t := 2236) (zDk zD_331_7_ok 29 rfl) rfl (fun hz => ?_) (fun hz => ?_)
  · have h := zS_t h (T_eq hz)
    refine W_iinc (pc := 2236) (L' := [some (.inr (.inr 5001)), some (.inr (.inr 0)), some (.inr (.inr 106)), some (.inl (w32 (y3 + 6)))]) (zDk zD_331_25_ok 24 rfl) rfl zm_331 (by decide) rfl ?_
    refine E_goto (pc := 2239) (t := 18) (zDk zD_331_25_ok 25 rfl) rfl ?_
    exact H18 (w32 (y3 + 6)) r862_.2 h
  · have h := zS_f h (F_eq hz)
    refine E_iconst (pc := 868) (zDk zD_331_7_ok 30 rfl) (by decide +kernel) ?_
    have h := zS_some h
    exact E_ireturnZ (pc := 869) (zDk zD_331_7_ok 31 rfl) zt_331 (by decide) h
def lQ_law_c870 (sc : zSc) (h18 : Int → (Nat → Nat → Int) → Option (Int × (Nat → Nat → Int))) (y3 : Int) (M : Nat → Nat → Int) : Option (Int × (Nat → Nat → Int)) :=
    ((rdX sc (w32 (y3 + (1 : Int)))).bind (fun v875 =>
    ((lX_signs v875 M).bind (fun v876 =>
    ((rdX sc (w32 (y3 + (1 : Int)))).bind (fun v884 =>
    ((lm_signs v884 M).bind (fun r885_ =>
    (if v876 = r885_.1 then
    (h18 (w32 (y3 + 6)) r885_.2)
    else
    (some ((0 : Int), r885_.2)))))))))))
set_option maxRecDepth 100000 in
theorem ok_lQ_law_c870 {q : Nat} {P : Option zV → (Nat → Nat → Int) → Prop} (hq : 20 ≤ q) (sc : zSc) (h18 : Int → (Nat → Nat → Int) → Option (Int × (Nat → Nat → Int))) (H18 : ∀ (y3 : Int) (M : Nat → Nat → Int), zS (h18 y3 M) (fun r => P (some (.inl r.1)) r.2) → zWp sc q 331 18 [some (.inr (.inr 5001)), some (.inr (.inr 0)), some (.inr (.inr 106)), some (.inl y3)] [] M P) : ∀ (y3 : Int) (M : Nat → Nat → Int), zS (lQ_law_c870 sc h18 y3 M) (fun r => P (some (.inl r.1)) r.2) → zWp sc q 331 870 [some (.inr (.inr 5001)), some (.inr (.inr 0)), some (.inr (.inr 106)), some (.inl y3)] [] M P := by
  intro y3 M h
  unfold lQ_law_c870 at h
  refine E_aload_n (pc := 870) (zDk zD_331_7_ok 32 rfl) rfl ?_
  refine E_aload_n (pc := 871) (zDk zD_331_7_ok 33 rfl) rfl ?_
  refine E_iload_n (pc := 872) (zDk zD_331_7_ok 34 rfl) rfl ?_
  refine E_iconst (pc := 873) (zDk zD_331_7_ok 35 rfl) (by decide +kernel) ?_
  refine W_iadd (pc := 874) (zDk zD_331_7_ok 36 rfl) ?_
  obtain ⟨v875, e875, h⟩ := zS_bind h
  refine E_ialoadX (pc := 875) (zDk zD_331_7_ok 37 rfl) e875 ?_
  obtain ⟨v876, e876, h⟩ := zS_bind h
  refine E_virI (pc := 876) (c := 97) (r := 0) (as := [.inl v875]) (rest := []) (zDk zD_331_7_ok 38 rfl) zc_331 (by decide +kernel) zk_97 ⟨(Nat.le_of_ble_eq_true rfl), rfl, rfl⟩ (Nat.le_of_ble_eq_true rfl) (zr_97 _) (Nat.lt_of_lt_of_le (by decide) hq) (by rw [zm_97]; exact (Nat.le_of_ble_eq_true rfl)) ⟨zc_97, by decide⟩ zis_7_0 (ok_lX_signs ⟨v876, e876, ?_⟩)
  refine E_aload_n (pc := 879) (zDk zD_331_7_ok 39 rfl) rfl ?_
  refine E_aload_n (pc := 880) (zDk zD_331_7_ok 40 rfl) rfl ?_
  refine E_iload_n (pc := 881) (zDk zD_331_7_ok 41 rfl) rfl ?_
  refine E_iconst (pc := 882) (zDk zD_331_7_ok 42 rfl) (by decide +kernel) ?_
  refine W_iadd (pc := 883) (zDk zD_331_7_ok 43 rfl) ?_
  obtain ⟨v884, e884, h⟩ := zS_bind h
  refine E_ialoadX (pc := 884) (zDk zD_331_7_ok 44 rfl) e884 ?_
  obtain ⟨r885_, e885, h⟩ := zS_bind h
  refine E_virI (pc := 885) (c := 248) (r := 106) (as := [.inl v884]) (rest := [.inl v876]) (zDk zD_331_7_ok 45 rfl) zc_331 (by decide +kernel) zk_248 ⟨(Nat.le_of_ble_eq_true rfl), rfl, rfl⟩ (Nat.le_of_ble_eq_true rfl) (zr_248 _) (Nat.lt_of_lt_of_le (by decide) hq) (by rw [zm_248]; exact (Nat.le_of_ble_eq_true rfl)) ⟨zc_248, by decide⟩ zis_8_106 (ok_lm_signs ⟨r885_, e885, ?_⟩)
  refine E_icmp (pc := 888) (t := 2236) (zDk zD_331_7_ok 46 rfl) rfl (fun hz => ?_) (fun hz => ?_)
  · have h := zS_t h (T_eq hz)
    refine W_iinc (pc := 2236) (L' := [some (.inr (.inr 5001)), some (.inr (.inr 0)), some (.inr (.inr 106)), some (.inl (w32 (y3 + 6)))]) (zDk zD_331_25_ok 24 rfl) rfl zm_331 (by decide) rfl ?_
    refine E_goto (pc := 2239) (t := 18) (zDk zD_331_25_ok 25 rfl) rfl ?_
    exact H18 (w32 (y3 + 6)) r885_.2 h
  · have h := zS_f h (F_eq hz)
    refine E_iconst (pc := 891) (zDk zD_331_7_ok 47 rfl) (by decide +kernel) ?_
    have h := zS_some h
    exact E_ireturnZ (pc := 892) (zDk zD_331_7_ok 48 rfl) zt_331 (by decide) h
def lQ_law_c893 (sc : zSc) (h18 : Int → (Nat → Nat → Int) → Option (Int × (Nat → Nat → Int))) (y3 : Int) (M : Nat → Nat → Int) : Option (Int × (Nat → Nat → Int)) :=
    ((rdX sc (w32 (y3 + (1 : Int)))).bind (fun v898 =>
    ((lX_deeds v898 M).bind (fun v899 =>
    ((rdX sc (w32 (y3 + (1 : Int)))).bind (fun v907 =>
    ((lm_deeds v907 M).bind (fun r908_ =>
    (if v899 = r908_.1 then
    (h18 (w32 (y3 + 6)) r908_.2)
    else
    (some ((0 : Int), r908_.2)))))))))))
set_option maxRecDepth 100000 in
theorem ok_lQ_law_c893 {q : Nat} {P : Option zV → (Nat → Nat → Int) → Prop} (hq : 20 ≤ q) (sc : zSc) (h18 : Int → (Nat → Nat → Int) → Option (Int × (Nat → Nat → Int))) (H18 : ∀ (y3 : Int) (M : Nat → Nat → Int), zS (h18 y3 M) (fun r => P (some (.inl r.1)) r.2) → zWp sc q 331 18 [some (.inr (.inr 5001)), some (.inr (.inr 0)), some (.inr (.inr 106)), some (.inl y3)] [] M P) : ∀ (y3 : Int) (M : Nat → Nat → Int), zS (lQ_law_c893 sc h18 y3 M) (fun r => P (some (.inl r.1)) r.2) → zWp sc q 331 893 [some (.inr (.inr 5001)), some (.inr (.inr 0)), some (.inr (.inr 106)), some (.inl y3)] [] M P := by
  intro y3 M h
  unfold lQ_law_c893 at h
  refine E_aload_n (pc := 893) (zDk zD_331_7_ok 49 rfl) rfl ?_
  refine E_aload_n (pc := 894) (zDk zD_331_7_ok 50 rfl) rfl ?_
  refine E_iload_n (pc := 895) (zDk zD_331_7_ok 51 rfl) rfl ?_
  refine E_iconst (pc := 896) (zDk zD_331_7_ok 52 rfl) (by decide +kernel) ?_
  refine W_iadd (pc := 897) (zDk zD_331_7_ok 53 rfl) ?_
  obtain ⟨v898, e898, h⟩ := zS_bind h
  refine E_ialoadX (pc := 898) (zDk zD_331_7_ok 54 rfl) e898 ?_
  obtain ⟨v899, e899, h⟩ := zS_bind h
  refine E_virI (pc := 899) (c := 98) (r := 0) (as := [.inl v898]) (rest := []) (zDk zD_331_7_ok 55 rfl) zc_331 (by decide +kernel) zk_98 ⟨(Nat.le_of_ble_eq_true rfl), rfl, rfl⟩ (Nat.le_of_ble_eq_true rfl) (zr_98 _) (Nat.lt_of_lt_of_le (by decide) hq) (by rw [zm_98]; exact (Nat.le_of_ble_eq_true rfl)) ⟨zc_98, by decide⟩ zis_7_0 (ok_lX_deeds ⟨v899, e899, ?_⟩)
  refine E_aload_n (pc := 902) (zDk zD_331_7_ok 56 rfl) rfl ?_
  refine E_aload_n (pc := 903) (zDk zD_331_7_ok 57 rfl) rfl ?_
  refine E_iload_n (pc := 904) (zDk zD_331_7_ok 58 rfl) rfl ?_
  refine E_iconst (pc := 905) (zDk zD_331_7_ok 59 rfl) (by decide +kernel) ?_
  refine W_iadd (pc := 906) (zDk zD_331_8_ok 0 rfl) ?_
  obtain ⟨v907, e907, h⟩ := zS_bind h
  refine E_ialoadX (pc := 907) (zDk zD_331_8_ok 1 rfl) e907 ?_
  obtain ⟨r908_, e908, h⟩ := zS_bind h
  refine E_virI (pc := 908) (c := 250) (r := 106) (as := [.inl v907]) (rest := [.inl v899]) (zDk zD_331_8_ok 2 rfl) zc_331 (by decide +kernel) zk_250 ⟨(Nat.le_of_ble_eq_true rfl), rfl, rfl⟩ (Nat.le_of_ble_eq_true rfl) (zr_250 _) (Nat.lt_of_lt_of_le (by decide) hq) (by rw [zm_250]; exact (Nat.le_of_ble_eq_true rfl)) ⟨zc_250, by decide⟩ zis_8_106 (ok_lm_deeds ⟨r908_, e908, ?_⟩)
  refine E_icmp (pc := 911) (t := 2236) (zDk zD_331_8_ok 3 rfl) rfl (fun hz => ?_) (fun hz => ?_)
  · have h := zS_t h (T_eq hz)
    refine W_iinc (pc := 2236) (L' := [some (.inr (.inr 5001)), some (.inr (.inr 0)), some (.inr (.inr 106)), some (.inl (w32 (y3 + 6)))]) (zDk zD_331_25_ok 24 rfl) rfl zm_331 (by decide) rfl ?_
    refine E_goto (pc := 2239) (t := 18) (zDk zD_331_25_ok 25 rfl) rfl ?_
    exact H18 (w32 (y3 + 6)) r908_.2 h
  · have h := zS_f h (F_eq hz)
    refine E_iconst (pc := 914) (zDk zD_331_8_ok 4 rfl) (by decide +kernel) ?_
    have h := zS_some h
    exact E_ireturnZ (pc := 915) (zDk zD_331_8_ok 5 rfl) zt_331 (by decide) h
def lQ_law_c916 (sc : zSc) (h18 : Int → (Nat → Nat → Int) → Option (Int × (Nat → Nat → Int))) (y3 : Int) (M : Nat → Nat → Int) : Option (Int × (Nat → Nat → Int)) :=
    ((rdX sc (w32 (y3 + (1 : Int)))).bind (fun v921 =>
    ((rdX sc (w32 (y3 + (2 : Int)))).bind (fun v926 =>
    ((lX_meets v921 v926 M).bind (fun v927 =>
    ((rdX sc (w32 (y3 + (1 : Int)))).bind (fun v935 =>
    ((rdX sc (w32 (y3 + (2 : Int)))).bind (fun v940 =>
    ((lm_meets v935 v940 M).bind (fun r941_ =>
    (if v927 = r941_.1 then
    (h18 (w32 (y3 + 6)) r941_.2)
    else
    (some ((0 : Int), r941_.2)))))))))))))))
set_option maxRecDepth 100000 in
theorem ok_lQ_law_c916 {q : Nat} {P : Option zV → (Nat → Nat → Int) → Prop} (hq : 20 ≤ q) (sc : zSc) (h18 : Int → (Nat → Nat → Int) → Option (Int × (Nat → Nat → Int))) (H18 : ∀ (y3 : Int) (M : Nat → Nat → Int), zS (h18 y3 M) (fun r => P (some (.inl r.1)) r.2) → zWp sc q 331 18 [some (.inr (.inr 5001)), some (.inr (.inr 0)), some (.inr (.inr 106)), some (.inl y3)] [] M P) : ∀ (y3 : Int) (M : Nat → Nat → Int), zS (lQ_law_c916 sc h18 y3 M) (fun r => P (some (.inl r.1)) r.2) → zWp sc q 331 916 [some (.inr (.inr 5001)), some (.inr (.inr 0)), some (.inr (.inr 106)), some (.inl y3)] [] M P := by
  intro y3 M h
  unfold lQ_law_c916 at h
  refine E_aload_n (pc := 916) (zDk zD_331_8_ok 6 rfl) rfl ?_
  refine E_aload_n (pc := 917) (zDk zD_331_8_ok 7 rfl) rfl ?_
  refine E_iload_n (pc := 918) (zDk zD_331_8_ok 8 rfl) rfl ?_
  refine E_iconst (pc := 919) (zDk zD_331_8_ok 9 rfl) (by decide +kernel) ?_
  refine W_iadd (pc := 920) (zDk zD_331_8_ok 10 rfl) ?_
  obtain ⟨v921, e921, h⟩ := zS_bind h
  refine E_ialoadX (pc := 921) (zDk zD_331_8_ok 11 rfl) e921 ?_
  refine E_aload_n (pc := 922) (zDk zD_331_8_ok 12 rfl) rfl ?_
  refine E_iload_n (pc := 923) (zDk zD_331_8_ok 13 rfl) rfl ?_
  refine E_iconst (pc := 924) (zDk zD_331_8_ok 14 rfl) (by decide +kernel) ?_
  refine W_iadd (pc := 925) (zDk zD_331_8_ok 15 rfl) ?_
  obtain ⟨v926, e926, h⟩ := zS_bind h
  refine E_ialoadX (pc := 926) (zDk zD_331_8_ok 16 rfl) e926 ?_
  obtain ⟨v927, e927, h⟩ := zS_bind h
  refine E_virI (pc := 927) (c := 99) (r := 0) (as := [.inl v921, .inl v926]) (rest := []) (zDk zD_331_8_ok 17 rfl) zc_331 (by decide +kernel) zk_99 ⟨(Nat.le_of_ble_eq_true rfl), rfl, rfl⟩ (Nat.le_of_ble_eq_true rfl) (zr_99 _) (Nat.lt_of_lt_of_le (by decide) hq) (by rw [zm_99]; exact (Nat.le_of_ble_eq_true rfl)) ⟨zc_99, by decide⟩ zis_7_0 (ok_lX_meets ⟨v927, e927, ?_⟩)
  refine E_aload_n (pc := 930) (zDk zD_331_8_ok 18 rfl) rfl ?_
  refine E_aload_n (pc := 931) (zDk zD_331_8_ok 19 rfl) rfl ?_
  refine E_iload_n (pc := 932) (zDk zD_331_8_ok 20 rfl) rfl ?_
  refine E_iconst (pc := 933) (zDk zD_331_8_ok 21 rfl) (by decide +kernel) ?_
  refine W_iadd (pc := 934) (zDk zD_331_8_ok 22 rfl) ?_
  obtain ⟨v935, e935, h⟩ := zS_bind h
  refine E_ialoadX (pc := 935) (zDk zD_331_8_ok 23 rfl) e935 ?_
  refine E_aload_n (pc := 936) (zDk zD_331_8_ok 24 rfl) rfl ?_
  refine E_iload_n (pc := 937) (zDk zD_331_8_ok 25 rfl) rfl ?_
  refine E_iconst (pc := 938) (zDk zD_331_8_ok 26 rfl) (by decide +kernel) ?_
  refine W_iadd (pc := 939) (zDk zD_331_8_ok 27 rfl) ?_
  obtain ⟨v940, e940, h⟩ := zS_bind h
  refine E_ialoadX (pc := 940) (zDk zD_331_8_ok 28 rfl) e940 ?_
  obtain ⟨r941_, e941, h⟩ := zS_bind h
  refine E_virI (pc := 941) (c := 251) (r := 106) (as := [.inl v935, .inl v940]) (rest := [.inl v927]) (zDk zD_331_8_ok 29 rfl) zc_331 (by decide +kernel) zk_251 ⟨(Nat.le_of_ble_eq_true rfl), rfl, rfl⟩ (Nat.le_of_ble_eq_true rfl) (zr_251 _) (Nat.lt_of_lt_of_le (by decide) hq) (by rw [zm_251]; exact (Nat.le_of_ble_eq_true rfl)) ⟨zc_251, by decide⟩ zis_8_106 (ok_lm_meets ⟨r941_, e941, ?_⟩)
  refine E_icmp (pc := 944) (t := 2236) (zDk zD_331_8_ok 30 rfl) rfl (fun hz => ?_) (fun hz => ?_)
  · have h := zS_t h (T_eq hz)
    refine W_iinc (pc := 2236) (L' := [some (.inr (.inr 5001)), some (.inr (.inr 0)), some (.inr (.inr 106)), some (.inl (w32 (y3 + 6)))]) (zDk zD_331_25_ok 24 rfl) rfl zm_331 (by decide) rfl ?_
    refine E_goto (pc := 2239) (t := 18) (zDk zD_331_25_ok 25 rfl) rfl ?_
    exact H18 (w32 (y3 + 6)) r941_.2 h
  · have h := zS_f h (F_eq hz)
    refine E_iconst (pc := 947) (zDk zD_331_8_ok 31 rfl) (by decide +kernel) ?_
    have h := zS_some h
    exact E_ireturnZ (pc := 948) (zDk zD_331_8_ok 32 rfl) zt_331 (by decide) h
def lQ_law_c949 (sc : zSc) (h18 : Int → (Nat → Nat → Int) → Option (Int × (Nat → Nat → Int))) (y3 : Int) (M : Nat → Nat → Int) : Option (Int × (Nat → Nat → Int)) :=
    ((rdX sc (w32 (y3 + (1 : Int)))).bind (fun v954 =>
    ((rdX sc (w32 (y3 + (2 : Int)))).bind (fun v959 =>
    ((lX_often v954 v959 M).bind (fun v960 =>
    ((rdX sc (w32 (y3 + (1 : Int)))).bind (fun v968 =>
    ((rdX sc (w32 (y3 + (2 : Int)))).bind (fun v973 =>
    ((lm_often v968 v973 M).bind (fun r974_ =>
    (if v960 = r974_.1 then
    (h18 (w32 (y3 + 6)) r974_.2)
    else
    (some ((0 : Int), r974_.2)))))))))))))))
set_option maxRecDepth 100000 in
theorem ok_lQ_law_c949 {q : Nat} {P : Option zV → (Nat → Nat → Int) → Prop} (hq : 20 ≤ q) (sc : zSc) (h18 : Int → (Nat → Nat → Int) → Option (Int × (Nat → Nat → Int))) (H18 : ∀ (y3 : Int) (M : Nat → Nat → Int), zS (h18 y3 M) (fun r => P (some (.inl r.1)) r.2) → zWp sc q 331 18 [some (.inr (.inr 5001)), some (.inr (.inr 0)), some (.inr (.inr 106)), some (.inl y3)] [] M P) : ∀ (y3 : Int) (M : Nat → Nat → Int), zS (lQ_law_c949 sc h18 y3 M) (fun r => P (some (.inl r.1)) r.2) → zWp sc q 331 949 [some (.inr (.inr 5001)), some (.inr (.inr 0)), some (.inr (.inr 106)), some (.inl y3)] [] M P := by
  intro y3 M h
  unfold lQ_law_c949 at h
  refine E_aload_n (pc := 949) (zDk zD_331_8_ok 33 rfl) rfl ?_
  refine E_aload_n (pc := 950) (zDk zD_331_8_ok 34 rfl) rfl ?_
  refine E_iload_n (pc := 951) (zDk zD_331_8_ok 35 rfl) rfl ?_
  refine E_iconst (pc := 952) (zDk zD_331_8_ok 36 rfl) (by decide +kernel) ?_
  refine W_iadd (pc := 953) (zDk zD_331_8_ok 37 rfl) ?_
  obtain ⟨v954, e954, h⟩ := zS_bind h
  refine E_ialoadX (pc := 954) (zDk zD_331_8_ok 38 rfl) e954 ?_
  refine E_aload_n (pc := 955) (zDk zD_331_8_ok 39 rfl) rfl ?_
  refine E_iload_n (pc := 956) (zDk zD_331_8_ok 40 rfl) rfl ?_
  refine E_iconst (pc := 957) (zDk zD_331_8_ok 41 rfl) (by decide +kernel) ?_
  refine W_iadd (pc := 958) (zDk zD_331_8_ok 42 rfl) ?_
  obtain ⟨v959, e959, h⟩ := zS_bind h
  refine E_ialoadX (pc := 959) (zDk zD_331_8_ok 43 rfl) e959 ?_
  obtain ⟨v960, e960, h⟩ := zS_bind h
  refine E_virI (pc := 960) (c := 100) (r := 0) (as := [.inl v954, .inl v959]) (rest := []) (zDk zD_331_8_ok 44 rfl) zc_331 (by decide +kernel) zk_100 ⟨(Nat.le_of_ble_eq_true rfl), rfl, rfl⟩ (Nat.le_of_ble_eq_true rfl) (zr_100 _) (Nat.lt_of_lt_of_le (by decide) hq) (by rw [zm_100]; exact (Nat.le_of_ble_eq_true rfl)) ⟨zc_100, by decide⟩ zis_7_0 (ok_lX_often ⟨v960, e960, ?_⟩)
  refine E_aload_n (pc := 963) (zDk zD_331_8_ok 45 rfl) rfl ?_
  refine E_aload_n (pc := 964) (zDk zD_331_8_ok 46 rfl) rfl ?_
  refine E_iload_n (pc := 965) (zDk zD_331_8_ok 47 rfl) rfl ?_
  refine E_iconst (pc := 966) (zDk zD_331_8_ok 48 rfl) (by decide +kernel) ?_
  refine W_iadd (pc := 967) (zDk zD_331_8_ok 49 rfl) ?_
  obtain ⟨v968, e968, h⟩ := zS_bind h
  refine E_ialoadX (pc := 968) (zDk zD_331_8_ok 50 rfl) e968 ?_
  refine E_aload_n (pc := 969) (zDk zD_331_8_ok 51 rfl) rfl ?_
  refine E_iload_n (pc := 970) (zDk zD_331_8_ok 52 rfl) rfl ?_
  refine E_iconst (pc := 971) (zDk zD_331_8_ok 53 rfl) (by decide +kernel) ?_
  refine W_iadd (pc := 972) (zDk zD_331_8_ok 54 rfl) ?_
  obtain ⟨v973, e973, h⟩ := zS_bind h
  refine E_ialoadX (pc := 973) (zDk zD_331_8_ok 55 rfl) e973 ?_
  obtain ⟨r974_, e974, h⟩ := zS_bind h
  refine E_virI (pc := 974) (c := 252) (r := 106) (as := [.inl v968, .inl v973]) (rest := [.inl v960]) (zDk zD_331_8_ok 56 rfl) zc_331 (by decide +kernel) zk_252 ⟨(Nat.le_of_ble_eq_true rfl), rfl, rfl⟩ (Nat.le_of_ble_eq_true rfl) (zr_252 _) (Nat.lt_of_lt_of_le (by decide) hq) (by rw [zm_252]; exact (Nat.le_of_ble_eq_true rfl)) ⟨zc_252, by decide⟩ zis_8_106 (ok_lm_often ⟨r974_, e974, ?_⟩)
  refine E_icmp (pc := 977) (t := 2236) (zDk zD_331_8_ok 57 rfl) rfl (fun hz => ?_) (fun hz => ?_)
  · have h := zS_t h (T_eq hz)
    refine W_iinc (pc := 2236) (L' := [some (.inr (.inr 5001)), some (.inr (.inr 0)), some (.inr (.inr 106)), some (.inl (w32 (y3 + 6)))]) (zDk zD_331_25_ok 24 rfl) rfl zm_331 (by decide) rfl ?_
    refine E_goto (pc := 2239) (t := 18) (zDk zD_331_25_ok 25 rfl) rfl ?_
    exact H18 (w32 (y3 + 6)) r974_.2 h
  · have h := zS_f h (F_eq hz)
    refine E_iconst (pc := 980) (zDk zD_331_8_ok 58 rfl) (by decide +kernel) ?_
    have h := zS_some h
    exact E_ireturnZ (pc := 981) (zDk zD_331_8_ok 59 rfl) zt_331 (by decide) h
def lQ_law_c982 (sc : zSc) (h18 : Int → (Nat → Nat → Int) → Option (Int × (Nat → Nat → Int))) (y3 : Int) (M : Nat → Nat → Int) : Option (Int × (Nat → Nat → Int)) :=
    ((lX_pack M).bind (fun v983 =>
    ((lm_pack M).bind (fun r987_ =>
    (if v983 = r987_.1 then
    (h18 (w32 (y3 + 6)) r987_.2)
    else
    (some ((0 : Int), r987_.2)))))))
set_option maxRecDepth 100000 in
theorem ok_lQ_law_c982 {q : Nat} {P : Option zV → (Nat → Nat → Int) → Prop} (hq : 20 ≤ q) (sc : zSc) (h18 : Int → (Nat → Nat → Int) → Option (Int × (Nat → Nat → Int))) (H18 : ∀ (y3 : Int) (M : Nat → Nat → Int), zS (h18 y3 M) (fun r => P (some (.inl r.1)) r.2) → zWp sc q 331 18 [some (.inr (.inr 5001)), some (.inr (.inr 0)), some (.inr (.inr 106)), some (.inl y3)] [] M P) : ∀ (y3 : Int) (M : Nat → Nat → Int), zS (lQ_law_c982 sc h18 y3 M) (fun r => P (some (.inl r.1)) r.2) → zWp sc q 331 982 [some (.inr (.inr 5001)), some (.inr (.inr 0)), some (.inr (.inr 106)), some (.inl y3)] [] M P := by
  intro y3 M h
  unfold lQ_law_c982 at h
  refine E_aload_n (pc := 982) (zDk zD_331_9_ok 0 rfl) rfl ?_
  obtain ⟨v983, e983, h⟩ := zS_bind h
  refine E_virI (pc := 983) (c := 101) (r := 0) (as := []) (rest := []) (zDk zD_331_9_ok 1 rfl) zc_331 (by decide +kernel) zk_101 ⟨(Nat.le_of_ble_eq_true rfl), rfl, rfl⟩ (Nat.le_of_ble_eq_true rfl) (zr_101 _) (Nat.lt_of_lt_of_le (by decide) hq) (by rw [zm_101]; exact (Nat.le_of_ble_eq_true rfl)) ⟨zc_101, by decide⟩ zis_7_0 (ok_lX_pack ⟨v983, e983, ?_⟩)
  refine E_aload_n (pc := 986) (zDk zD_331_9_ok 2 rfl) rfl ?_
  obtain ⟨r987_, e987, h⟩ := zS_bind h
  refine E_virI (pc := 987) (c := 253) (r := 106) (as := []) (rest := [.inl v983]) (zDk zD_331_9_ok 3 rfl) zc_331 (by decide +kernel) zk_253 ⟨(Nat.le_of_ble_eq_true rfl), rfl, rfl⟩ (Nat.le_of_ble_eq_true rfl) (zr_253 _) (Nat.lt_of_lt_of_le (by decide) hq) (by rw [zm_253]; exact (Nat.le_of_ble_eq_true rfl)) ⟨zc_253, by decide⟩ zis_8_106 (ok_lm_pack ⟨r987_, e987, ?_⟩)
  refine E_icmp (pc := 990) (t := 2236) (zDk zD_331_9_ok 4 rfl) rfl (fun hz => ?_) (fun hz => ?_)
  · have h := zS_t h (T_eq hz)
    refine W_iinc (pc := 2236) (L' := [some (.inr (.inr 5001)), some (.inr (.inr 0)), some (.inr (.inr 106)), some (.inl (w32 (y3 + 6)))]) (zDk zD_331_25_ok 24 rfl) rfl zm_331 (by decide) rfl ?_
    refine E_goto (pc := 2239) (t := 18) (zDk zD_331_25_ok 25 rfl) rfl ?_
    exact H18 (w32 (y3 + 6)) r987_.2 h
  · have h := zS_f h (F_eq hz)
    refine E_iconst (pc := 993) (zDk zD_331_9_ok 5 rfl) (by decide +kernel) ?_
    have h := zS_some h
    exact E_ireturnZ (pc := 994) (zDk zD_331_9_ok 6 rfl) zt_331 (by decide) h
def lQ_law_c995 (sc : zSc) (h18 : Int → (Nat → Nat → Int) → Option (Int × (Nat → Nat → Int))) (y3 : Int) (M : Nat → Nat → Int) : Option (Int × (Nat → Nat → Int)) :=
    ((lX_busy M).bind (fun v996 =>
    ((lm_busy M).bind (fun r1000_ =>
    (if v996 = r1000_.1 then
    (h18 (w32 (y3 + 6)) r1000_.2)
    else
    (some ((0 : Int), r1000_.2)))))))
set_option maxRecDepth 100000 in
theorem ok_lQ_law_c995 {q : Nat} {P : Option zV → (Nat → Nat → Int) → Prop} (hq : 20 ≤ q) (sc : zSc) (h18 : Int → (Nat → Nat → Int) → Option (Int × (Nat → Nat → Int))) (H18 : ∀ (y3 : Int) (M : Nat → Nat → Int), zS (h18 y3 M) (fun r => P (some (.inl r.1)) r.2) → zWp sc q 331 18 [some (.inr (.inr 5001)), some (.inr (.inr 0)), some (.inr (.inr 106)), some (.inl y3)] [] M P) : ∀ (y3 : Int) (M : Nat → Nat → Int), zS (lQ_law_c995 sc h18 y3 M) (fun r => P (some (.inl r.1)) r.2) → zWp sc q 331 995 [some (.inr (.inr 5001)), some (.inr (.inr 0)), some (.inr (.inr 106)), some (.inl y3)] [] M P := by
  intro y3 M h
  unfold lQ_law_c995 at h
  refine E_aload_n (pc := 995) (zDk zD_331_9_ok 7 rfl) rfl ?_
  obtain ⟨v996, e996, h⟩ := zS_bind h
  refine E_virI (pc := 996) (c := 102) (r := 0) (as := []) (rest := []) (zDk zD_331_9_ok 8 rfl) zc_331 (by decide +kernel) zk_102 ⟨(Nat.le_of_ble_eq_true rfl), rfl, rfl⟩ (Nat.le_of_ble_eq_true rfl) (zr_102 _) (Nat.lt_of_lt_of_le (by decide) hq) (by rw [zm_102]; exact (Nat.le_of_ble_eq_true rfl)) ⟨zc_102, by decide⟩ zis_7_0 (ok_lX_busy ⟨v996, e996, ?_⟩)
  refine E_aload_n (pc := 999) (zDk zD_331_9_ok 9 rfl) rfl ?_
  obtain ⟨r1000_, e1000, h⟩ := zS_bind h
  refine E_virI (pc := 1000) (c := 254) (r := 106) (as := []) (rest := [.inl v996]) (zDk zD_331_9_ok 10 rfl) zc_331 (by decide +kernel) zk_254 ⟨(Nat.le_of_ble_eq_true rfl), rfl, rfl⟩ (Nat.le_of_ble_eq_true rfl) (zr_254 _) (Nat.lt_of_lt_of_le (by decide) hq) (by rw [zm_254]; exact (Nat.le_of_ble_eq_true rfl)) ⟨zc_254, by decide⟩ zis_8_106 (ok_lm_busy ⟨r1000_, e1000, ?_⟩)
  refine E_icmp (pc := 1003) (t := 2236) (zDk zD_331_9_ok 11 rfl) rfl (fun hz => ?_) (fun hz => ?_)
  · have h := zS_t h (T_eq hz)
    refine W_iinc (pc := 2236) (L' := [some (.inr (.inr 5001)), some (.inr (.inr 0)), some (.inr (.inr 106)), some (.inl (w32 (y3 + 6)))]) (zDk zD_331_25_ok 24 rfl) rfl zm_331 (by decide) rfl ?_
    refine E_goto (pc := 2239) (t := 18) (zDk zD_331_25_ok 25 rfl) rfl ?_
    exact H18 (w32 (y3 + 6)) r1000_.2 h
  · have h := zS_f h (F_eq hz)
    refine E_iconst (pc := 1006) (zDk zD_331_9_ok 12 rfl) (by decide +kernel) ?_
    have h := zS_some h
    exact E_ireturnZ (pc := 1007) (zDk zD_331_9_ok 13 rfl) zt_331 (by decide) h
def lQ_law_c1008 (sc : zSc) (h18 : Int → (Nat → Nat → Int) → Option (Int × (Nat → Nat → Int))) (y3 : Int) (M : Nat → Nat → Int) : Option (Int × (Nat → Nat → Int)) :=
    ((rdX sc (w32 (y3 + (1 : Int)))).bind (fun v1013 =>
    ((lX_lone v1013 M).bind (fun v1014 =>
    ((rdX sc (w32 (y3 + (1 : Int)))).bind (fun v1022 =>
    ((lm_lone v1022 M).bind (fun r1023_ =>
    (if v1014 = r1023_.1 then
    (h18 (w32 (y3 + 6)) r1023_.2)
    else
    (some ((0 : Int), r1023_.2)))))))))))
set_option maxRecDepth 100000 in
theorem ok_lQ_law_c1008 {q : Nat} {P : Option zV → (Nat → Nat → Int) → Prop} (hq : 20 ≤ q) (sc : zSc) (h18 : Int → (Nat → Nat → Int) → Option (Int × (Nat → Nat → Int))) (H18 : ∀ (y3 : Int) (M : Nat → Nat → Int), zS (h18 y3 M) (fun r => P (some (.inl r.1)) r.2) → zWp sc q 331 18 [some (.inr (.inr 5001)), some (.inr (.inr 0)), some (.inr (.inr 106)), some (.inl y3)] [] M P) : ∀ (y3 : Int) (M : Nat → Nat → Int), zS (lQ_law_c1008 sc h18 y3 M) (fun r => P (some (.inl r.1)) r.2) → zWp sc q 331 1008 [some (.inr (.inr 5001)), some (.inr (.inr 0)), some (.inr (.inr 106)), some (.inl y3)] [] M P := by
  intro y3 M h
  unfold lQ_law_c1008 at h
  refine E_aload_n (pc := 1008) (zDk zD_331_9_ok 14 rfl) rfl ?_
  refine E_aload_n (pc := 1009) (zDk zD_331_9_ok 15 rfl) rfl ?_
  refine E_iload_n (pc := 1010) (zDk zD_331_9_ok 16 rfl) rfl ?_
  refine E_iconst (pc := 1011) (zDk zD_331_9_ok 17 rfl) (by decide +kernel) ?_
  refine W_iadd (pc := 1012) (zDk zD_331_9_ok 18 rfl) ?_
  obtain ⟨v1013, e1013, h⟩ := zS_bind h
  refine E_ialoadX (pc := 1013) (zDk zD_331_9_ok 19 rfl) e1013 ?_
  obtain ⟨v1014, e1014, h⟩ := zS_bind h
  refine E_virI (pc := 1014) (c := 103) (r := 0) (as := [.inl v1013]) (rest := []) (zDk zD_331_9_ok 20 rfl) zc_331 (by decide +kernel) zk_103 ⟨(Nat.le_of_ble_eq_true rfl), rfl, rfl⟩ (Nat.le_of_ble_eq_true rfl) (zr_103 _) (Nat.lt_of_lt_of_le (by decide) hq) (by rw [zm_103]; exact (Nat.le_of_ble_eq_true rfl)) ⟨zc_103, by decide⟩ zis_7_0 (ok_lX_lone ⟨v1014, e1014, ?_⟩)
  refine E_aload_n (pc := 1017) (zDk zD_331_9_ok 21 rfl) rfl ?_
  refine E_aload_n (pc := 1018) (zDk zD_331_9_ok 22 rfl) rfl ?_
  refine E_iload_n (pc := 1019) (zDk zD_331_9_ok 23 rfl) rfl ?_
  refine E_iconst (pc := 1020) (zDk zD_331_9_ok 24 rfl) (by decide +kernel) ?_
  refine W_iadd (pc := 1021) (zDk zD_331_9_ok 25 rfl) ?_
  obtain ⟨v1022, e1022, h⟩ := zS_bind h
  refine E_ialoadX (pc := 1022) (zDk zD_331_9_ok 26 rfl) e1022 ?_
  obtain ⟨r1023_, e1023, h⟩ := zS_bind h
  refine E_virI (pc := 1023) (c := 255) (r := 106) (as := [.inl v1022]) (rest := [.inl v1014]) (zDk zD_331_9_ok 27 rfl) zc_331 (by decide +kernel) zk_255 ⟨(Nat.le_of_ble_eq_true rfl), rfl, rfl⟩ (Nat.le_of_ble_eq_true rfl) (zr_255 _) (Nat.lt_of_lt_of_le (by decide) hq) (by rw [zm_255]; exact (Nat.le_of_ble_eq_true rfl)) ⟨zc_255, by decide⟩ zis_8_106 (ok_lm_lone ⟨r1023_, e1023, ?_⟩)
  refine E_icmp (pc := 1026) (t := 2236) (zDk zD_331_9_ok 28 rfl) rfl (fun hz => ?_) (fun hz => ?_)
  · have h := zS_t h (T_eq hz)
    refine W_iinc (pc := 2236) (L' := [some (.inr (.inr 5001)), some (.inr (.inr 0)), some (.inr (.inr 106)), some (.inl (w32 (y3 + 6)))]) (zDk zD_331_25_ok 24 rfl) rfl zm_331 (by decide) rfl ?_
    refine E_goto (pc := 2239) (t := 18) (zDk zD_331_25_ok 25 rfl) rfl ?_
    exact H18 (w32 (y3 + 6)) r1023_.2 h
  · have h := zS_f h (F_eq hz)
    refine E_iconst (pc := 1029) (zDk zD_331_9_ok 29 rfl) (by decide +kernel) ?_
    have h := zS_some h
    exact E_ireturnZ (pc := 1030) (zDk zD_331_9_ok 30 rfl) zt_331 (by decide) h
def lQ_law_c1031 (sc : zSc) (h18 : Int → (Nat → Nat → Int) → Option (Int × (Nat → Nat → Int))) (y3 : Int) (M : Nat → Nat → Int) : Option (Int × (Nat → Nat → Int)) :=
    ((rdX sc (w32 (y3 + (1 : Int)))).bind (fun v1036 =>
    ((lX_total v1036 M).bind (fun v1037 =>
    ((rdX sc (w32 (y3 + (1 : Int)))).bind (fun v1045 =>
    ((lm_total v1045 M).bind (fun r1046_ =>
    (if v1037 = r1046_.1 then
    (h18 (w32 (y3 + 6)) r1046_.2)
    else
    (some ((0 : Int), r1046_.2)))))))))))
set_option maxRecDepth 100000 in
theorem ok_lQ_law_c1031 {q : Nat} {P : Option zV → (Nat → Nat → Int) → Prop} (hq : 20 ≤ q) (sc : zSc) (h18 : Int → (Nat → Nat → Int) → Option (Int × (Nat → Nat → Int))) (H18 : ∀ (y3 : Int) (M : Nat → Nat → Int), zS (h18 y3 M) (fun r => P (some (.inl r.1)) r.2) → zWp sc q 331 18 [some (.inr (.inr 5001)), some (.inr (.inr 0)), some (.inr (.inr 106)), some (.inl y3)] [] M P) : ∀ (y3 : Int) (M : Nat → Nat → Int), zS (lQ_law_c1031 sc h18 y3 M) (fun r => P (some (.inl r.1)) r.2) → zWp sc q 331 1031 [some (.inr (.inr 5001)), some (.inr (.inr 0)), some (.inr (.inr 106)), some (.inl y3)] [] M P := by
  intro y3 M h
  unfold lQ_law_c1031 at h
  refine E_aload_n (pc := 1031) (zDk zD_331_9_ok 31 rfl) rfl ?_
  refine E_aload_n (pc := 1032) (zDk zD_331_9_ok 32 rfl) rfl ?_
  refine E_iload_n (pc := 1033) (zDk zD_331_9_ok 33 rfl) rfl ?_
  refine E_iconst (pc := 1034) (zDk zD_331_9_ok 34 rfl) (by decide +kernel) ?_
  refine W_iadd (pc := 1035) (zDk zD_331_9_ok 35 rfl) ?_
  obtain ⟨v1036, e1036, h⟩ := zS_bind h
  refine E_ialoadX (pc := 1036) (zDk zD_331_9_ok 36 rfl) e1036 ?_
  obtain ⟨v1037, e1037, h⟩ := zS_bind h
  refine E_virI (pc := 1037) (c := 104) (r := 0) (as := [.inl v1036]) (rest := []) (zDk zD_331_9_ok 37 rfl) zc_331 (by decide +kernel) zk_104 ⟨(Nat.le_of_ble_eq_true rfl), rfl, rfl⟩ (Nat.le_of_ble_eq_true rfl) (zr_104 _) (Nat.lt_of_lt_of_le (by decide) hq) (by rw [zm_104]; exact (Nat.le_of_ble_eq_true rfl)) ⟨zc_104, by decide⟩ zis_7_0 (ok_lX_total ⟨v1037, e1037, ?_⟩)
  refine E_aload_n (pc := 1040) (zDk zD_331_9_ok 38 rfl) rfl ?_
  refine E_aload_n (pc := 1041) (zDk zD_331_9_ok 39 rfl) rfl ?_
  refine E_iload_n (pc := 1042) (zDk zD_331_9_ok 40 rfl) rfl ?_
  refine E_iconst (pc := 1043) (zDk zD_331_9_ok 41 rfl) (by decide +kernel) ?_
  refine W_iadd (pc := 1044) (zDk zD_331_9_ok 42 rfl) ?_
  obtain ⟨v1045, e1045, h⟩ := zS_bind h
  refine E_ialoadX (pc := 1045) (zDk zD_331_9_ok 43 rfl) e1045 ?_
  obtain ⟨r1046_, e1046, h⟩ := zS_bind h
  refine E_virI (pc := 1046) (c := 256) (r := 106) (as := [.inl v1045]) (rest := [.inl v1037]) (zDk zD_331_9_ok 44 rfl) zc_331 (by decide +kernel) zk_256 ⟨(Nat.le_of_ble_eq_true rfl), rfl, rfl⟩ (Nat.le_of_ble_eq_true rfl) (zr_256 _) (Nat.lt_of_lt_of_le (by decide) hq) (by rw [zm_256]; exact (Nat.le_of_ble_eq_true rfl)) ⟨zc_256, by decide⟩ zis_8_106 (ok_lm_total ⟨r1046_, e1046, ?_⟩)
  refine E_icmp (pc := 1049) (t := 2236) (zDk zD_331_9_ok 45 rfl) rfl (fun hz => ?_) (fun hz => ?_)
  · have h := zS_t h (T_eq hz)
    refine W_iinc (pc := 2236) (L' := [some (.inr (.inr 5001)), some (.inr (.inr 0)), some (.inr (.inr 106)), some (.inl (w32 (y3 + 6)))]) (zDk zD_331_25_ok 24 rfl) rfl zm_331 (by decide) rfl ?_
    refine E_goto (pc := 2239) (t := 18) (zDk zD_331_25_ok 25 rfl) rfl ?_
    exact H18 (w32 (y3 + 6)) r1046_.2 h
  · have h := zS_f h (F_eq hz)
    refine E_iconst (pc := 1052) (zDk zD_331_9_ok 46 rfl) (by decide +kernel) ?_
    have h := zS_some h
    exact E_ireturnZ (pc := 1053) (zDk zD_331_9_ok 47 rfl) zt_331 (by decide) h
def lQ_law_c1054 (sc : zSc) (h18 : Int → (Nat → Nat → Int) → Option (Int × (Nat → Nat → Int))) (y3 : Int) (M : Nat → Nat → Int) : Option (Int × (Nat → Nat → Int)) :=
    ((lX_first M).bind (fun v1055 =>
    ((lm_first M).bind (fun r1059_ =>
    (if v1055 = r1059_.1 then
    (h18 (w32 (y3 + 6)) r1059_.2)
    else
    (some ((0 : Int), r1059_.2)))))))
set_option maxRecDepth 100000 in
theorem ok_lQ_law_c1054 {q : Nat} {P : Option zV → (Nat → Nat → Int) → Prop} (hq : 20 ≤ q) (sc : zSc) (h18 : Int → (Nat → Nat → Int) → Option (Int × (Nat → Nat → Int))) (H18 : ∀ (y3 : Int) (M : Nat → Nat → Int), zS (h18 y3 M) (fun r => P (some (.inl r.1)) r.2) → zWp sc q 331 18 [some (.inr (.inr 5001)), some (.inr (.inr 0)), some (.inr (.inr 106)), some (.inl y3)] [] M P) : ∀ (y3 : Int) (M : Nat → Nat → Int), zS (lQ_law_c1054 sc h18 y3 M) (fun r => P (some (.inl r.1)) r.2) → zWp sc q 331 1054 [some (.inr (.inr 5001)), some (.inr (.inr 0)), some (.inr (.inr 106)), some (.inl y3)] [] M P := by
  intro y3 M h
  unfold lQ_law_c1054 at h
  refine E_aload_n (pc := 1054) (zDk zD_331_9_ok 48 rfl) rfl ?_
  obtain ⟨v1055, e1055, h⟩ := zS_bind h
  refine E_virI (pc := 1055) (c := 105) (r := 0) (as := []) (rest := []) (zDk zD_331_9_ok 49 rfl) zc_331 (by decide +kernel) zk_105 ⟨(Nat.le_of_ble_eq_true rfl), rfl, rfl⟩ (Nat.le_of_ble_eq_true rfl) (zr_105 _) (Nat.lt_of_lt_of_le (by decide) hq) (by rw [zm_105]; exact (Nat.le_of_ble_eq_true rfl)) ⟨zc_105, by decide⟩ zis_7_0 (ok_lX_first ⟨v1055, e1055, ?_⟩)
  refine E_aload_n (pc := 1058) (zDk zD_331_9_ok 50 rfl) rfl ?_
  obtain ⟨r1059_, e1059, h⟩ := zS_bind h
  refine E_virI (pc := 1059) (c := 257) (r := 106) (as := []) (rest := [.inl v1055]) (zDk zD_331_9_ok 51 rfl) zc_331 (by decide +kernel) zk_257 ⟨(Nat.le_of_ble_eq_true rfl), rfl, rfl⟩ (Nat.le_of_ble_eq_true rfl) (zr_257 _) (Nat.lt_of_lt_of_le (by decide) hq) (by rw [zm_257]; exact (Nat.le_of_ble_eq_true rfl)) ⟨zc_257, by decide⟩ zis_8_106 (ok_lm_first ⟨r1059_, e1059, ?_⟩)
  refine E_icmp (pc := 1062) (t := 2236) (zDk zD_331_9_ok 52 rfl) rfl (fun hz => ?_) (fun hz => ?_)
  · have h := zS_t h (T_eq hz)
    refine W_iinc (pc := 2236) (L' := [some (.inr (.inr 5001)), some (.inr (.inr 0)), some (.inr (.inr 106)), some (.inl (w32 (y3 + 6)))]) (zDk zD_331_25_ok 24 rfl) rfl zm_331 (by decide) rfl ?_
    refine E_goto (pc := 2239) (t := 18) (zDk zD_331_25_ok 25 rfl) rfl ?_
    exact H18 (w32 (y3 + 6)) r1059_.2 h
  · have h := zS_f h (F_eq hz)
    refine E_iconst (pc := 1065) (zDk zD_331_9_ok 53 rfl) (by decide +kernel) ?_
    have h := zS_some h
    exact E_ireturnZ (pc := 1066) (zDk zD_331_9_ok 54 rfl) zt_331 (by decide) h
def lQ_law_c1067 (sc : zSc) (h18 : Int → (Nat → Nat → Int) → Option (Int × (Nat → Nat → Int))) (y3 : Int) (M : Nat → Nat → Int) : Option (Int × (Nat → Nat → Int)) :=
    ((rdX sc (w32 (y3 + (1 : Int)))).bind (fun v1072 =>
    ((lX_lies v1072 M).bind (fun v1073 =>
    ((rdX sc (w32 (y3 + (1 : Int)))).bind (fun v1081 =>
    ((lm_lies v1081 M).bind (fun r1082_ =>
    (if v1073 = r1082_.1 then
    (h18 (w32 (y3 + 6)) r1082_.2)
    else
    (some ((0 : Int), r1082_.2)))))))))))
set_option maxRecDepth 100000 in
theorem ok_lQ_law_c1067 {q : Nat} {P : Option zV → (Nat → Nat → Int) → Prop} (hq : 20 ≤ q) (sc : zSc) (h18 : Int → (Nat → Nat → Int) → Option (Int × (Nat → Nat → Int))) (H18 : ∀ (y3 : Int) (M : Nat → Nat → Int), zS (h18 y3 M) (fun r => P (some (.inl r.1)) r.2) → zWp sc q 331 18 [some (.inr (.inr 5001)), some (.inr (.inr 0)), some (.inr (.inr 106)), some (.inl y3)] [] M P) : ∀ (y3 : Int) (M : Nat → Nat → Int), zS (lQ_law_c1067 sc h18 y3 M) (fun r => P (some (.inl r.1)) r.2) → zWp sc q 331 1067 [some (.inr (.inr 5001)), some (.inr (.inr 0)), some (.inr (.inr 106)), some (.inl y3)] [] M P := by
  intro y3 M h
  unfold lQ_law_c1067 at h
  refine E_aload_n (pc := 1067) (zDk zD_331_9_ok 55 rfl) rfl ?_
  refine E_aload_n (pc := 1068) (zDk zD_331_9_ok 56 rfl) rfl ?_
  refine E_iload_n (pc := 1069) (zDk zD_331_9_ok 57 rfl) rfl ?_
  refine E_iconst (pc := 1070) (zDk zD_331_9_ok 58 rfl) (by decide +kernel) ?_
  refine W_iadd (pc := 1071) (zDk zD_331_9_ok 59 rfl) ?_
  obtain ⟨v1072, e1072, h⟩ := zS_bind h
  refine E_ialoadX (pc := 1072) (zDk zD_331_10_ok 0 rfl) e1072 ?_
  obtain ⟨v1073, e1073, h⟩ := zS_bind h
  refine E_virI (pc := 1073) (c := 106) (r := 0) (as := [.inl v1072]) (rest := []) (zDk zD_331_10_ok 1 rfl) zc_331 (by decide +kernel) zk_106 ⟨(Nat.le_of_ble_eq_true rfl), rfl, rfl⟩ (Nat.le_of_ble_eq_true rfl) (zr_106 _) (Nat.lt_of_lt_of_le (by decide) hq) (by rw [zm_106]; exact (Nat.le_of_ble_eq_true rfl)) ⟨zc_106, by decide⟩ zis_7_0 (ok_lX_lies ⟨v1073, e1073, ?_⟩)
  refine E_aload_n (pc := 1076) (zDk zD_331_10_ok 2 rfl) rfl ?_
  refine E_aload_n (pc := 1077) (zDk zD_331_10_ok 3 rfl) rfl ?_
  refine E_iload_n (pc := 1078) (zDk zD_331_10_ok 4 rfl) rfl ?_
  refine E_iconst (pc := 1079) (zDk zD_331_10_ok 5 rfl) (by decide +kernel) ?_
  refine W_iadd (pc := 1080) (zDk zD_331_10_ok 6 rfl) ?_
  obtain ⟨v1081, e1081, h⟩ := zS_bind h
  refine E_ialoadX (pc := 1081) (zDk zD_331_10_ok 7 rfl) e1081 ?_
  obtain ⟨r1082_, e1082, h⟩ := zS_bind h
  refine E_virI (pc := 1082) (c := 258) (r := 106) (as := [.inl v1081]) (rest := [.inl v1073]) (zDk zD_331_10_ok 8 rfl) zc_331 (by decide +kernel) zk_258 ⟨(Nat.le_of_ble_eq_true rfl), rfl, rfl⟩ (Nat.le_of_ble_eq_true rfl) (zr_258 _) (Nat.lt_of_lt_of_le (by decide) hq) (by rw [zm_258]; exact (Nat.le_of_ble_eq_true rfl)) ⟨zc_258, by decide⟩ zis_8_106 (ok_lm_lies ⟨r1082_, e1082, ?_⟩)
  refine E_icmp (pc := 1085) (t := 2236) (zDk zD_331_10_ok 9 rfl) rfl (fun hz => ?_) (fun hz => ?_)
  · have h := zS_t h (T_eq hz)
    refine W_iinc (pc := 2236) (L' := [some (.inr (.inr 5001)), some (.inr (.inr 0)), some (.inr (.inr 106)), some (.inl (w32 (y3 + 6)))]) (zDk zD_331_25_ok 24 rfl) rfl zm_331 (by decide) rfl ?_
    refine E_goto (pc := 2239) (t := 18) (zDk zD_331_25_ok 25 rfl) rfl ?_
    exact H18 (w32 (y3 + 6)) r1082_.2 h
  · have h := zS_f h (F_eq hz)
    refine E_iconst (pc := 1088) (zDk zD_331_10_ok 10 rfl) (by decide +kernel) ?_
    have h := zS_some h
    exact E_ireturnZ (pc := 1089) (zDk zD_331_10_ok 11 rfl) zt_331 (by decide) h
def lQ_law_c1090 (sc : zSc) (h18 : Int → (Nat → Nat → Int) → Option (Int × (Nat → Nat → Int))) (y3 : Int) (M : Nat → Nat → Int) : Option (Int × (Nat → Nat → Int)) :=
    ((lX_thirst M).bind (fun v1091 =>
    ((lm_thirst M).bind (fun r1095_ =>
    (if v1091 = r1095_.1 then
    (h18 (w32 (y3 + 6)) r1095_.2)
    else
    (some ((0 : Int), r1095_.2)))))))
set_option maxRecDepth 100000 in
theorem ok_lQ_law_c1090 {q : Nat} {P : Option zV → (Nat → Nat → Int) → Prop} (hq : 20 ≤ q) (sc : zSc) (h18 : Int → (Nat → Nat → Int) → Option (Int × (Nat → Nat → Int))) (H18 : ∀ (y3 : Int) (M : Nat → Nat → Int), zS (h18 y3 M) (fun r => P (some (.inl r.1)) r.2) → zWp sc q 331 18 [some (.inr (.inr 5001)), some (.inr (.inr 0)), some (.inr (.inr 106)), some (.inl y3)] [] M P) : ∀ (y3 : Int) (M : Nat → Nat → Int), zS (lQ_law_c1090 sc h18 y3 M) (fun r => P (some (.inl r.1)) r.2) → zWp sc q 331 1090 [some (.inr (.inr 5001)), some (.inr (.inr 0)), some (.inr (.inr 106)), some (.inl y3)] [] M P := by
  intro y3 M h
  unfold lQ_law_c1090 at h
  refine E_aload_n (pc := 1090) (zDk zD_331_10_ok 12 rfl) rfl ?_
  obtain ⟨v1091, e1091, h⟩ := zS_bind h
  refine E_virI (pc := 1091) (c := 107) (r := 0) (as := []) (rest := []) (zDk zD_331_10_ok 13 rfl) zc_331 (by decide +kernel) zk_107 ⟨(Nat.le_of_ble_eq_true rfl), rfl, rfl⟩ (Nat.le_of_ble_eq_true rfl) (zr_107 _) (Nat.lt_of_lt_of_le (by decide) hq) (by rw [zm_107]; exact (Nat.le_of_ble_eq_true rfl)) ⟨zc_107, by decide⟩ zis_7_0 (ok_lX_thirst ⟨v1091, e1091, ?_⟩)
  refine E_aload_n (pc := 1094) (zDk zD_331_10_ok 14 rfl) rfl ?_
  obtain ⟨r1095_, e1095, h⟩ := zS_bind h
  refine E_virI (pc := 1095) (c := 259) (r := 106) (as := []) (rest := [.inl v1091]) (zDk zD_331_10_ok 15 rfl) zc_331 (by decide +kernel) zk_259 ⟨(Nat.le_of_ble_eq_true rfl), rfl, rfl⟩ (Nat.le_of_ble_eq_true rfl) (zr_259 _) (Nat.lt_of_lt_of_le (by decide) hq) (by rw [zm_259]; exact (Nat.le_of_ble_eq_true rfl)) ⟨zc_259, by decide⟩ zis_8_106 (ok_lm_thirst ⟨r1095_, e1095, ?_⟩)
  refine E_icmp (pc := 1098) (t := 2236) (zDk zD_331_10_ok 16 rfl) rfl (fun hz => ?_) (fun hz => ?_)
  · have h := zS_t h (T_eq hz)
    refine W_iinc (pc := 2236) (L' := [some (.inr (.inr 5001)), some (.inr (.inr 0)), some (.inr (.inr 106)), some (.inl (w32 (y3 + 6)))]) (zDk zD_331_25_ok 24 rfl) rfl zm_331 (by decide) rfl ?_
    refine E_goto (pc := 2239) (t := 18) (zDk zD_331_25_ok 25 rfl) rfl ?_
    exact H18 (w32 (y3 + 6)) r1095_.2 h
  · have h := zS_f h (F_eq hz)
    refine E_iconst (pc := 1101) (zDk zD_331_10_ok 17 rfl) (by decide +kernel) ?_
    have h := zS_some h
    exact E_ireturnZ (pc := 1102) (zDk zD_331_10_ok 18 rfl) zt_331 (by decide) h
def lQ_law_c1103 (sc : zSc) (h18 : Int → (Nat → Nat → Int) → Option (Int × (Nat → Nat → Int))) (y3 : Int) (M : Nat → Nat → Int) : Option (Int × (Nat → Nat → Int)) :=
    ((rdX sc (w32 (y3 + (1 : Int)))).bind (fun v1108 =>
    ((rdX sc (w32 (y3 + (2 : Int)))).bind (fun v1113 =>
    ((lX_way v1108 v1113 M).bind (fun v1114 =>
    ((rdX sc (w32 (y3 + (1 : Int)))).bind (fun v1122 =>
    ((rdX sc (w32 (y3 + (2 : Int)))).bind (fun v1127 =>
    ((lm_way v1122 v1127 M).bind (fun r1128_ =>
    (if v1114 = r1128_.1 then
    (h18 (w32 (y3 + 6)) r1128_.2)
    else
    (some ((0 : Int), r1128_.2)))))))))))))))
set_option maxRecDepth 100000 in
theorem ok_lQ_law_c1103 {q : Nat} {P : Option zV → (Nat → Nat → Int) → Prop} (hq : 20 ≤ q) (sc : zSc) (h18 : Int → (Nat → Nat → Int) → Option (Int × (Nat → Nat → Int))) (H18 : ∀ (y3 : Int) (M : Nat → Nat → Int), zS (h18 y3 M) (fun r => P (some (.inl r.1)) r.2) → zWp sc q 331 18 [some (.inr (.inr 5001)), some (.inr (.inr 0)), some (.inr (.inr 106)), some (.inl y3)] [] M P) : ∀ (y3 : Int) (M : Nat → Nat → Int), zS (lQ_law_c1103 sc h18 y3 M) (fun r => P (some (.inl r.1)) r.2) → zWp sc q 331 1103 [some (.inr (.inr 5001)), some (.inr (.inr 0)), some (.inr (.inr 106)), some (.inl y3)] [] M P := by
  intro y3 M h
  unfold lQ_law_c1103 at h
  refine E_aload_n (pc := 1103) (zDk zD_331_10_ok 19 rfl) rfl ?_
  refine E_aload_n (pc := 1104) (zDk zD_331_10_ok 20 rfl) rfl ?_
  refine E_iload_n (pc := 1105) (zDk zD_331_10_ok 21 rfl) rfl ?_
  refine E_iconst (pc := 1106) (zDk zD_331_10_ok 22 rfl) (by decide +kernel) ?_
  refine W_iadd (pc := 1107) (zDk zD_331_10_ok 23 rfl) ?_
  obtain ⟨v1108, e1108, h⟩ := zS_bind h
  refine E_ialoadX (pc := 1108) (zDk zD_331_10_ok 24 rfl) e1108 ?_
  refine E_aload_n (pc := 1109) (zDk zD_331_10_ok 25 rfl) rfl ?_
  refine E_iload_n (pc := 1110) (zDk zD_331_10_ok 26 rfl) rfl ?_
  refine E_iconst (pc := 1111) (zDk zD_331_10_ok 27 rfl) (by decide +kernel) ?_
  refine W_iadd (pc := 1112) (zDk zD_331_10_ok 28 rfl) ?_
  obtain ⟨v1113, e1113, h⟩ := zS_bind h
  refine E_ialoadX (pc := 1113) (zDk zD_331_10_ok 29 rfl) e1113 ?_
  obtain ⟨v1114, e1114, h⟩ := zS_bind h
  refine E_virI (pc := 1114) (c := 108) (r := 0) (as := [.inl v1108, .inl v1113]) (rest := []) (zDk zD_331_10_ok 30 rfl) zc_331 (by decide +kernel) zk_108 ⟨(Nat.le_of_ble_eq_true rfl), rfl, rfl⟩ (Nat.le_of_ble_eq_true rfl) (zr_108 _) (Nat.lt_of_lt_of_le (by decide) hq) (by rw [zm_108]; exact (Nat.le_of_ble_eq_true rfl)) ⟨zc_108, by decide⟩ zis_7_0 (ok_lX_way ⟨v1114, e1114, ?_⟩)
  refine E_aload_n (pc := 1117) (zDk zD_331_10_ok 31 rfl) rfl ?_
  refine E_aload_n (pc := 1118) (zDk zD_331_10_ok 32 rfl) rfl ?_
  refine E_iload_n (pc := 1119) (zDk zD_331_10_ok 33 rfl) rfl ?_
  refine E_iconst (pc := 1120) (zDk zD_331_10_ok 34 rfl) (by decide +kernel) ?_
  refine W_iadd (pc := 1121) (zDk zD_331_10_ok 35 rfl) ?_
  obtain ⟨v1122, e1122, h⟩ := zS_bind h
  refine E_ialoadX (pc := 1122) (zDk zD_331_10_ok 36 rfl) e1122 ?_
  refine E_aload_n (pc := 1123) (zDk zD_331_10_ok 37 rfl) rfl ?_
  refine E_iload_n (pc := 1124) (zDk zD_331_10_ok 38 rfl) rfl ?_
  refine E_iconst (pc := 1125) (zDk zD_331_10_ok 39 rfl) (by decide +kernel) ?_
  refine W_iadd (pc := 1126) (zDk zD_331_10_ok 40 rfl) ?_
  obtain ⟨v1127, e1127, h⟩ := zS_bind h
  refine E_ialoadX (pc := 1127) (zDk zD_331_10_ok 41 rfl) e1127 ?_
  obtain ⟨r1128_, e1128, h⟩ := zS_bind h
  refine E_virI (pc := 1128) (c := 263) (r := 106) (as := [.inl v1122, .inl v1127]) (rest := [.inl v1114]) (zDk zD_331_10_ok 42 rfl) zc_331 (by decide +kernel) zk_263 ⟨(Nat.le_of_ble_eq_true rfl), rfl, rfl⟩ (Nat.le_of_ble_eq_true rfl) (zr_263 _) (Nat.lt_of_lt_of_le (by decide) hq) (by rw [zm_263]; exact (Nat.le_of_ble_eq_true rfl)) ⟨zc_263, by decide⟩ zis_8_106 (ok_lm_way ⟨r1128_, e1128, ?_⟩)
  refine E_icmp (pc := 1131) (t := 2236) (zDk zD_331_10_ok 43 rfl) rfl (fun hz => ?_) (fun hz => ?_)
  · have h := zS_t h (T_eq hz)
    refine W_iinc (pc := 2236) (L' := [some (.inr (.inr 5001)), some (.inr (.inr 0)), some (.inr (.inr 106)), some (.inl (w32 (y3 + 6)))]) (zDk zD_331_25_ok 24 rfl) rfl zm_331 (by decide) rfl ?_
    refine E_goto (pc := 2239) (t := 18) (zDk zD_331_25_ok 25 rfl) rfl ?_
    exact H18 (w32 (y3 + 6)) r1128_.2 h
  · have h := zS_f h (F_eq hz)
    refine E_iconst (pc := 1134) (zDk zD_331_10_ok 44 rfl) (by decide +kernel) ?_
    have h := zS_some h
    exact E_ireturnZ (pc := 1135) (zDk zD_331_10_ok 45 rfl) zt_331 (by decide) h
def lQ_law_c1136 (sc : zSc) (h18 : Int → (Nat → Nat → Int) → Option (Int × (Nat → Nat → Int))) (y3 : Int) (M : Nat → Nat → Int) : Option (Int × (Nat → Nat → Int)) :=
    ((rdX sc (w32 (y3 + (1 : Int)))).bind (fun v1141 =>
    ((lX_reach v1141 M).bind (fun v1142 =>
    ((rdX sc (w32 (y3 + (1 : Int)))).bind (fun v1150 =>
    ((lm_reach v1150 M).bind (fun r1151_ =>
    (if v1142 = r1151_.1 then
    (h18 (w32 (y3 + 6)) r1151_.2)
    else
    (some ((0 : Int), r1151_.2)))))))))))
set_option maxRecDepth 100000 in
theorem ok_lQ_law_c1136 {q : Nat} {P : Option zV → (Nat → Nat → Int) → Prop} (hq : 20 ≤ q) (sc : zSc) (h18 : Int → (Nat → Nat → Int) → Option (Int × (Nat → Nat → Int))) (H18 : ∀ (y3 : Int) (M : Nat → Nat → Int), zS (h18 y3 M) (fun r => P (some (.inl r.1)) r.2) → zWp sc q 331 18 [some (.inr (.inr 5001)), some (.inr (.inr 0)), some (.inr (.inr 106)), some (.inl y3)] [] M P) : ∀ (y3 : Int) (M : Nat → Nat → Int), zS (lQ_law_c1136 sc h18 y3 M) (fun r => P (some (.inl r.1)) r.2) → zWp sc q 331 1136 [some (.inr (.inr 5001)), some (.inr (.inr 0)), some (.inr (.inr 106)), some (.inl y3)] [] M P := by
  intro y3 M h
  unfold lQ_law_c1136 at h
  refine E_aload_n (pc := 1136) (zDk zD_331_10_ok 46 rfl) rfl ?_
  refine E_aload_n (pc := 1137) (zDk zD_331_10_ok 47 rfl) rfl ?_
  refine E_iload_n (pc := 1138) (zDk zD_331_10_ok 48 rfl) rfl ?_
  refine E_iconst (pc := 1139) (zDk zD_331_10_ok 49 rfl) (by decide +kernel) ?_
  refine W_iadd (pc := 1140) (zDk zD_331_10_ok 50 rfl) ?_
  obtain ⟨v1141, e1141, h⟩ := zS_bind h
  refine E_ialoadX (pc := 1141) (zDk zD_331_10_ok 51 rfl) e1141 ?_
  obtain ⟨v1142, e1142, h⟩ := zS_bind h
  refine E_virI (pc := 1142) (c := 109) (r := 0) (as := [.inl v1141]) (rest := []) (zDk zD_331_10_ok 52 rfl) zc_331 (by decide +kernel) zk_109 ⟨(Nat.le_of_ble_eq_true rfl), rfl, rfl⟩ (Nat.le_of_ble_eq_true rfl) (zr_109 _) (Nat.lt_of_lt_of_le (by decide) hq) (by rw [zm_109]; exact (Nat.le_of_ble_eq_true rfl)) ⟨zc_109, by decide⟩ zis_7_0 (ok_lX_reach ⟨v1142, e1142, ?_⟩)
  refine E_aload_n (pc := 1145) (zDk zD_331_10_ok 53 rfl) rfl ?_
  refine E_aload_n (pc := 1146) (zDk zD_331_10_ok 54 rfl) rfl ?_
  refine E_iload_n (pc := 1147) (zDk zD_331_10_ok 55 rfl) rfl ?_
  refine E_iconst (pc := 1148) (zDk zD_331_10_ok 56 rfl) (by decide +kernel) ?_
  refine W_iadd (pc := 1149) (zDk zD_331_10_ok 57 rfl) ?_
  obtain ⟨v1150, e1150, h⟩ := zS_bind h
  refine E_ialoadX (pc := 1150) (zDk zD_331_10_ok 58 rfl) e1150 ?_
  obtain ⟨r1151_, e1151, h⟩ := zS_bind h
  refine E_virI (pc := 1151) (c := 264) (r := 106) (as := [.inl v1150]) (rest := [.inl v1142]) (zDk zD_331_10_ok 59 rfl) zc_331 (by decide +kernel) zk_264 ⟨(Nat.le_of_ble_eq_true rfl), rfl, rfl⟩ (Nat.le_of_ble_eq_true rfl) (zr_264 _) (Nat.lt_of_lt_of_le (by decide) hq) (by rw [zm_264]; exact (Nat.le_of_ble_eq_true rfl)) ⟨zc_264, by decide⟩ zis_8_106 (ok_lm_reach ⟨r1151_, e1151, ?_⟩)
  refine E_icmp (pc := 1154) (t := 2236) (zDk zD_331_11_ok 0 rfl) rfl (fun hz => ?_) (fun hz => ?_)
  · have h := zS_t h (T_eq hz)
    refine W_iinc (pc := 2236) (L' := [some (.inr (.inr 5001)), some (.inr (.inr 0)), some (.inr (.inr 106)), some (.inl (w32 (y3 + 6)))]) (zDk zD_331_25_ok 24 rfl) rfl zm_331 (by decide) rfl ?_
    refine E_goto (pc := 2239) (t := 18) (zDk zD_331_25_ok 25 rfl) rfl ?_
    exact H18 (w32 (y3 + 6)) r1151_.2 h
  · have h := zS_f h (F_eq hz)
    refine E_iconst (pc := 1157) (zDk zD_331_11_ok 1 rfl) (by decide +kernel) ?_
    have h := zS_some h
    exact E_ireturnZ (pc := 1158) (zDk zD_331_11_ok 2 rfl) zt_331 (by decide) h
def lQ_law_c1159 (sc : zSc) (h18 : Int → (Nat → Nat → Int) → Option (Int × (Nat → Nat → Int))) (y3 : Int) (M : Nat → Nat → Int) : Option (Int × (Nat → Nat → Int)) :=
    ((rdX sc (w32 (y3 + (1 : Int)))).bind (fun v1164 =>
    ((rdX sc (w32 (y3 + (2 : Int)))).bind (fun v1169 =>
    ((lX_soon v1164 v1169 M).bind (fun v1170 =>
    ((rdX sc (w32 (y3 + (1 : Int)))).bind (fun v1178 =>
    ((rdX sc (w32 (y3 + (2 : Int)))).bind (fun v1183 =>
    ((lm_soon v1178 v1183 M).bind (fun r1184_ =>
    (if v1170 = r1184_.1 then
    (h18 (w32 (y3 + 6)) r1184_.2)
    else
    (some ((0 : Int), r1184_.2)))))))))))))))
set_option maxRecDepth 100000 in
theorem ok_lQ_law_c1159 {q : Nat} {P : Option zV → (Nat → Nat → Int) → Prop} (hq : 20 ≤ q) (sc : zSc) (h18 : Int → (Nat → Nat → Int) → Option (Int × (Nat → Nat → Int))) (H18 : ∀ (y3 : Int) (M : Nat → Nat → Int), zS (h18 y3 M) (fun r => P (some (.inl r.1)) r.2) → zWp sc q 331 18 [some (.inr (.inr 5001)), some (.inr (.inr 0)), some (.inr (.inr 106)), some (.inl y3)] [] M P) : ∀ (y3 : Int) (M : Nat → Nat → Int), zS (lQ_law_c1159 sc h18 y3 M) (fun r => P (some (.inl r.1)) r.2) → zWp sc q 331 1159 [some (.inr (.inr 5001)), some (.inr (.inr 0)), some (.inr (.inr 106)), some (.inl y3)] [] M P := by
  intro y3 M h
  unfold lQ_law_c1159 at h
  refine E_aload_n (pc := 1159) (zDk zD_331_11_ok 3 rfl) rfl ?_
  refine E_aload_n (pc := 1160) (zDk zD_331_11_ok 4 rfl) rfl ?_
  refine E_iload_n (pc := 1161) (zDk zD_331_11_ok 5 rfl) rfl ?_
  refine E_iconst (pc := 1162) (zDk zD_331_11_ok 6 rfl) (by decide +kernel) ?_
  refine W_iadd (pc := 1163) (zDk zD_331_11_ok 7 rfl) ?_
  obtain ⟨v1164, e1164, h⟩ := zS_bind h
  refine E_ialoadX (pc := 1164) (zDk zD_331_11_ok 8 rfl) e1164 ?_
  refine E_aload_n (pc := 1165) (zDk zD_331_11_ok 9 rfl) rfl ?_
  refine E_iload_n (pc := 1166) (zDk zD_331_11_ok 10 rfl) rfl ?_
  refine E_iconst (pc := 1167) (zDk zD_331_11_ok 11 rfl) (by decide +kernel) ?_
  refine W_iadd (pc := 1168) (zDk zD_331_11_ok 12 rfl) ?_
  obtain ⟨v1169, e1169, h⟩ := zS_bind h
  refine E_ialoadX (pc := 1169) (zDk zD_331_11_ok 13 rfl) e1169 ?_
  obtain ⟨v1170, e1170, h⟩ := zS_bind h
  refine E_virI (pc := 1170) (c := 110) (r := 0) (as := [.inl v1164, .inl v1169]) (rest := []) (zDk zD_331_11_ok 14 rfl) zc_331 (by decide +kernel) zk_110 ⟨(Nat.le_of_ble_eq_true rfl), rfl, rfl⟩ (Nat.le_of_ble_eq_true rfl) (zr_110 _) (Nat.lt_of_lt_of_le (by decide) hq) (by rw [zm_110]; exact (Nat.le_of_ble_eq_true rfl)) ⟨zc_110, by decide⟩ zis_7_0 (ok_lX_soon ⟨v1170, e1170, ?_⟩)
  refine E_aload_n (pc := 1173) (zDk zD_331_11_ok 15 rfl) rfl ?_
  refine E_aload_n (pc := 1174) (zDk zD_331_11_ok 16 rfl) rfl ?_
  refine E_iload_n (pc := 1175) (zDk zD_331_11_ok 17 rfl) rfl ?_
  refine E_iconst (pc := 1176) (zDk zD_331_11_ok 18 rfl) (by decide +kernel) ?_
  refine W_iadd (pc := 1177) (zDk zD_331_11_ok 19 rfl) ?_
  obtain ⟨v1178, e1178, h⟩ := zS_bind h
  refine E_ialoadX (pc := 1178) (zDk zD_331_11_ok 20 rfl) e1178 ?_
  refine E_aload_n (pc := 1179) (zDk zD_331_11_ok 21 rfl) rfl ?_
  refine E_iload_n (pc := 1180) (zDk zD_331_11_ok 22 rfl) rfl ?_
  refine E_iconst (pc := 1181) (zDk zD_331_11_ok 23 rfl) (by decide +kernel) ?_
  refine W_iadd (pc := 1182) (zDk zD_331_11_ok 24 rfl) ?_
  obtain ⟨v1183, e1183, h⟩ := zS_bind h
  refine E_ialoadX (pc := 1183) (zDk zD_331_11_ok 25 rfl) e1183 ?_
  obtain ⟨r1184_, e1184, h⟩ := zS_bind h
  refine E_virI (pc := 1184) (c := 268) (r := 106) (as := [.inl v1178, .inl v1183]) (rest := [.inl v1170]) (zDk zD_331_11_ok 26 rfl) zc_331 (by decide +kernel) zk_268 ⟨(Nat.le_of_ble_eq_true rfl), rfl, rfl⟩ (Nat.le_of_ble_eq_true rfl) (zr_268 _) (Nat.lt_of_lt_of_le (by decide) hq) (by rw [zm_268]; exact (Nat.le_of_ble_eq_true rfl)) ⟨zc_268, by decide⟩ zis_8_106 (ok_lm_soon ⟨r1184_, e1184, ?_⟩)
  refine E_icmp (pc := 1187) (t := 2236) (zDk zD_331_11_ok 27 rfl) rfl (fun hz => ?_) (fun hz => ?_)
  · have h := zS_t h (T_eq hz)
    refine W_iinc (pc := 2236) (L' := [some (.inr (.inr 5001)), some (.inr (.inr 0)), some (.inr (.inr 106)), some (.inl (w32 (y3 + 6)))]) (zDk zD_331_25_ok 24 rfl) rfl zm_331 (by decide) rfl ?_
    refine E_goto (pc := 2239) (t := 18) (zDk zD_331_25_ok 25 rfl) rfl ?_
    exact H18 (w32 (y3 + 6)) r1184_.2 h
  · have h := zS_f h (F_eq hz)
    refine E_iconst (pc := 1190) (zDk zD_331_11_ok 28 rfl) (by decide +kernel) ?_
    have h := zS_some h
    exact E_ireturnZ (pc := 1191) (zDk zD_331_11_ok 29 rfl) zt_331 (by decide) h
def lQ_law_c1192 (sc : zSc) (h18 : Int → (Nat → Nat → Int) → Option (Int × (Nat → Nat → Int))) (y3 : Int) (M : Nat → Nat → Int) : Option (Int × (Nat → Nat → Int)) :=
    ((rdX sc (w32 (y3 + (1 : Int)))).bind (fun v1197 =>
    ((lX_gather v1197 M).bind (fun v1198 =>
    ((rdX sc (w32 (y3 + (1 : Int)))).bind (fun v1206 =>
    ((lm_gather v1206 M).bind (fun r1207_ =>
    (if v1198 = r1207_.1 then
    (h18 (w32 (y3 + 6)) r1207_.2)
    else
    (some ((0 : Int), r1207_.2)))))))))))
set_option maxRecDepth 100000 in
theorem ok_lQ_law_c1192 {q : Nat} {P : Option zV → (Nat → Nat → Int) → Prop} (hq : 20 ≤ q) (sc : zSc) (h18 : Int → (Nat → Nat → Int) → Option (Int × (Nat → Nat → Int))) (H18 : ∀ (y3 : Int) (M : Nat → Nat → Int), zS (h18 y3 M) (fun r => P (some (.inl r.1)) r.2) → zWp sc q 331 18 [some (.inr (.inr 5001)), some (.inr (.inr 0)), some (.inr (.inr 106)), some (.inl y3)] [] M P) : ∀ (y3 : Int) (M : Nat → Nat → Int), zS (lQ_law_c1192 sc h18 y3 M) (fun r => P (some (.inl r.1)) r.2) → zWp sc q 331 1192 [some (.inr (.inr 5001)), some (.inr (.inr 0)), some (.inr (.inr 106)), some (.inl y3)] [] M P := by
  intro y3 M h
  unfold lQ_law_c1192 at h
  refine E_aload_n (pc := 1192) (zDk zD_331_11_ok 30 rfl) rfl ?_
  refine E_aload_n (pc := 1193) (zDk zD_331_11_ok 31 rfl) rfl ?_
  refine E_iload_n (pc := 1194) (zDk zD_331_11_ok 32 rfl) rfl ?_
  refine E_iconst (pc := 1195) (zDk zD_331_11_ok 33 rfl) (by decide +kernel) ?_
  refine W_iadd (pc := 1196) (zDk zD_331_11_ok 34 rfl) ?_
  obtain ⟨v1197, e1197, h⟩ := zS_bind h
  refine E_ialoadX (pc := 1197) (zDk zD_331_11_ok 35 rfl) e1197 ?_
  obtain ⟨v1198, e1198, h⟩ := zS_bind h
  refine E_virI (pc := 1198) (c := 111) (r := 0) (as := [.inl v1197]) (rest := []) (zDk zD_331_11_ok 36 rfl) zc_331 (by decide +kernel) zk_111 ⟨(Nat.le_of_ble_eq_true rfl), rfl, rfl⟩ (Nat.le_of_ble_eq_true rfl) (zr_111 _) (Nat.lt_of_lt_of_le (by decide) hq) (by rw [zm_111]; exact (Nat.le_of_ble_eq_true rfl)) ⟨zc_111, by decide⟩ zis_7_0 (ok_lX_gather ⟨v1198, e1198, ?_⟩)
  refine E_aload_n (pc := 1201) (zDk zD_331_11_ok 37 rfl) rfl ?_
  refine E_aload_n (pc := 1202) (zDk zD_331_11_ok 38 rfl) rfl ?_
  refine E_iload_n (pc := 1203) (zDk zD_331_11_ok 39 rfl) rfl ?_
  refine E_iconst (pc := 1204) (zDk zD_331_11_ok 40 rfl) (by decide +kernel) ?_
  refine W_iadd (pc := 1205) (zDk zD_331_11_ok 41 rfl) ?_
  obtain ⟨v1206, e1206, h⟩ := zS_bind h
  refine E_ialoadX (pc := 1206) (zDk zD_331_11_ok 42 rfl) e1206 ?_
  obtain ⟨r1207_, e1207, h⟩ := zS_bind h
  refine E_virI (pc := 1207) (c := 269) (r := 106) (as := [.inl v1206]) (rest := [.inl v1198]) (zDk zD_331_11_ok 43 rfl) zc_331 (by decide +kernel) zk_269 ⟨(Nat.le_of_ble_eq_true rfl), rfl, rfl⟩ (Nat.le_of_ble_eq_true rfl) (zr_269 _) (Nat.lt_of_lt_of_le (by decide) hq) (by rw [zm_269]; exact (Nat.le_of_ble_eq_true rfl)) ⟨zc_269, by decide⟩ zis_8_106 (ok_lm_gather ⟨r1207_, e1207, ?_⟩)
  refine E_icmp (pc := 1210) (t := 2236) (zDk zD_331_11_ok 44 rfl) rfl (fun hz => ?_) (fun hz => ?_)
  · have h := zS_t h (T_eq hz)
    refine W_iinc (pc := 2236) (L' := [some (.inr (.inr 5001)), some (.inr (.inr 0)), some (.inr (.inr 106)), some (.inl (w32 (y3 + 6)))]) (zDk zD_331_25_ok 24 rfl) rfl zm_331 (by decide) rfl ?_
    refine E_goto (pc := 2239) (t := 18) (zDk zD_331_25_ok 25 rfl) rfl ?_
    exact H18 (w32 (y3 + 6)) r1207_.2 h
  · have h := zS_f h (F_eq hz)
    refine E_iconst (pc := 1213) (zDk zD_331_11_ok 45 rfl) (by decide +kernel) ?_
    have h := zS_some h
    exact E_ireturnZ (pc := 1214) (zDk zD_331_11_ok 46 rfl) zt_331 (by decide) h
def lQ_law_c1215 (sc : zSc) (h18 : Int → (Nat → Nat → Int) → Option (Int × (Nat → Nat → Int))) (y3 : Int) (M : Nat → Nat → Int) : Option (Int × (Nat → Nat → Int)) :=
    ((rdX sc (w32 (y3 + (1 : Int)))).bind (fun v1220 =>
    ((lX_hall v1220 M).bind (fun v1221 =>
    ((rdX sc (w32 (y3 + (1 : Int)))).bind (fun v1229 =>
    ((lm_hall v1229 M).bind (fun r1230_ =>
    (if v1221 = r1230_.1 then
    (h18 (w32 (y3 + 6)) r1230_.2)
    else
    (some ((0 : Int), r1230_.2)))))))))))
set_option maxRecDepth 100000 in
theorem ok_lQ_law_c1215 {q : Nat} {P : Option zV → (Nat → Nat → Int) → Prop} (hq : 20 ≤ q) (sc : zSc) (h18 : Int → (Nat → Nat → Int) → Option (Int × (Nat → Nat → Int))) (H18 : ∀ (y3 : Int) (M : Nat → Nat → Int), zS (h18 y3 M) (fun r => P (some (.inl r.1)) r.2) → zWp sc q 331 18 [some (.inr (.inr 5001)), some (.inr (.inr 0)), some (.inr (.inr 106)), some (.inl y3)] [] M P) : ∀ (y3 : Int) (M : Nat → Nat → Int), zS (lQ_law_c1215 sc h18 y3 M) (fun r => P (some (.inl r.1)) r.2) → zWp sc q 331 1215 [some (.inr (.inr 5001)), some (.inr (.inr 0)), some (.inr (.inr 106)), some (.inl y3)] [] M P := by
  intro y3 M h
  unfold lQ_law_c1215 at h
  refine E_aload_n (pc := 1215) (zDk zD_331_11_ok 47 rfl) rfl ?_
  refine E_aload_n (pc := 1216) (zDk zD_331_11_ok 48 rfl) rfl ?_
  refine E_iload_n (pc := 1217) (zDk zD_331_11_ok 49 rfl) rfl ?_
  refine E_iconst (pc := 1218) (zDk zD_331_11_ok 50 rfl) (by decide +kernel) ?_
  refine W_iadd (pc := 1219) (zDk zD_331_11_ok 51 rfl) ?_
  obtain ⟨v1220, e1220, h⟩ := zS_bind h
  refine E_ialoadX (pc := 1220) (zDk zD_331_11_ok 52 rfl) e1220 ?_
  obtain ⟨v1221, e1221, h⟩ := zS_bind h
  refine E_virI (pc := 1221) (c := 112) (r := 0) (as := [.inl v1220]) (rest := []) (zDk zD_331_11_ok 53 rfl) zc_331 (by decide +kernel) zk_112 ⟨(Nat.le_of_ble_eq_true rfl), rfl, rfl⟩ (Nat.le_of_ble_eq_true rfl) (zr_112 _) (Nat.lt_of_lt_of_le (by decide) hq) (by rw [zm_112]; exact (Nat.le_of_ble_eq_true rfl)) ⟨zc_112, by decide⟩ zis_7_0 (ok_lX_hall ⟨v1221, e1221, ?_⟩)
  refine E_aload_n (pc := 1224) (zDk zD_331_11_ok 54 rfl) rfl ?_
  refine E_aload_n (pc := 1225) (zDk zD_331_11_ok 55 rfl) rfl ?_
  refine E_iload_n (pc := 1226) (zDk zD_331_11_ok 56 rfl) rfl ?_
  refine E_iconst (pc := 1227) (zDk zD_331_11_ok 57 rfl) (by decide +kernel) ?_
  refine W_iadd (pc := 1228) (zDk zD_331_11_ok 58 rfl) ?_
  obtain ⟨v1229, e1229, h⟩ := zS_bind h
  refine E_ialoadX (pc := 1229) (zDk zD_331_11_ok 59 rfl) e1229 ?_
  obtain ⟨r1230_, e1230, h⟩ := zS_bind h
  refine E_virI (pc := 1230) (c := 270) (r := 106) (as := [.inl v1229]) (rest := [.inl v1221]) (zDk zD_331_12_ok 0 rfl) zc_331 (by decide +kernel) zk_270 ⟨(Nat.le_of_ble_eq_true rfl), rfl, rfl⟩ (Nat.le_of_ble_eq_true rfl) (zr_270 _) (Nat.lt_of_lt_of_le (by decide) hq) (by rw [zm_270]; exact (Nat.le_of_ble_eq_true rfl)) ⟨zc_270, by decide⟩ zis_8_106 (ok_lm_hall ⟨r1230_, e1230, ?_⟩)
  refine E_icmp (pc := 1233) (t := 2236) (zDk zD_331_12_ok 1 rfl) rfl (fun hz => ?_) (fun hz => ?_)
  · have h := zS_t h (T_eq hz)
    refine W_iinc (pc := 2236) (L' := [some (.inr (.inr 5001)), some (.inr (.inr 0)), some (.inr (.inr 106)), some (.inl (w32 (y3 + 6)))]) (zDk zD_331_25_ok 24 rfl) rfl zm_331 (by decide) rfl ?_
    refine E_goto (pc := 2239) (t := 18) (zDk zD_331_25_ok 25 rfl) rfl ?_
    exact H18 (w32 (y3 + 6)) r1230_.2 h
  · have h := zS_f h (F_eq hz)
    refine E_iconst (pc := 1236) (zDk zD_331_12_ok 2 rfl) (by decide +kernel) ?_
    have h := zS_some h
    exact E_ireturnZ (pc := 1237) (zDk zD_331_12_ok 3 rfl) zt_331 (by decide) h
def lQ_law_c1238 (sc : zSc) (h18 : Int → (Nat → Nat → Int) → Option (Int × (Nat → Nat → Int))) (y3 : Int) (M : Nat → Nat → Int) : Option (Int × (Nat → Nat → Int)) :=
    ((rdX sc (w32 (y3 + (1 : Int)))).bind (fun v1243 =>
    ((rdX sc (w32 (y3 + (2 : Int)))).bind (fun v1248 =>
    ((lX_cut v1243 v1248 M).bind (fun r1249_ =>
    ((rdX sc (w32 (y3 + (1 : Int)))).bind (fun v1257 =>
    ((rdX sc (w32 (y3 + (2 : Int)))).bind (fun v1262 =>
    ((lm_cut v1257 v1262 r1249_.2).bind (fun r1263_ =>
    (if r1249_.1 = r1263_.1 then
    (h18 (w32 (y3 + 6)) r1263_.2)
    else
    (some ((0 : Int), r1263_.2)))))))))))))))
set_option maxRecDepth 100000 in
theorem ok_lQ_law_c1238 {q : Nat} {P : Option zV → (Nat → Nat → Int) → Prop} (hq : 20 ≤ q) (sc : zSc) (h18 : Int → (Nat → Nat → Int) → Option (Int × (Nat → Nat → Int))) (H18 : ∀ (y3 : Int) (M : Nat → Nat → Int), zS (h18 y3 M) (fun r => P (some (.inl r.1)) r.2) → zWp sc q 331 18 [some (.inr (.inr 5001)), some (.inr (.inr 0)), some (.inr (.inr 106)), some (.inl y3)] [] M P) : ∀ (y3 : Int) (M : Nat → Nat → Int), zS (lQ_law_c1238 sc h18 y3 M) (fun r => P (some (.inl r.1)) r.2) → zWp sc q 331 1238 [some (.inr (.inr 5001)), some (.inr (.inr 0)), some (.inr (.inr 106)), some (.inl y3)] [] M P := by
  intro y3 M h
  unfold lQ_law_c1238 at h
  refine E_aload_n (pc := 1238) (zDk zD_331_12_ok 4 rfl) rfl ?_
  refine E_aload_n (pc := 1239) (zDk zD_331_12_ok 5 rfl) rfl ?_
  refine E_iload_n (pc := 1240) (zDk zD_331_12_ok 6 rfl) rfl ?_
  refine E_iconst (pc := 1241) (zDk zD_331_12_ok 7 rfl) (by decide +kernel) ?_
  refine W_iadd (pc := 1242) (zDk zD_331_12_ok 8 rfl) ?_
  obtain ⟨v1243, e1243, h⟩ := zS_bind h
  refine E_ialoadX (pc := 1243) (zDk zD_331_12_ok 9 rfl) e1243 ?_
  refine E_aload_n (pc := 1244) (zDk zD_331_12_ok 10 rfl) rfl ?_
  refine E_iload_n (pc := 1245) (zDk zD_331_12_ok 11 rfl) rfl ?_
  refine E_iconst (pc := 1246) (zDk zD_331_12_ok 12 rfl) (by decide +kernel) ?_
  refine W_iadd (pc := 1247) (zDk zD_331_12_ok 13 rfl) ?_
  obtain ⟨v1248, e1248, h⟩ := zS_bind h
  refine E_ialoadX (pc := 1248) (zDk zD_331_12_ok 14 rfl) e1248 ?_
  obtain ⟨r1249_, e1249, h⟩ := zS_bind h
  refine E_virI (pc := 1249) (c := 113) (r := 0) (as := [.inl v1243, .inl v1248]) (rest := []) (zDk zD_331_12_ok 15 rfl) zc_331 (by decide +kernel) zk_113 ⟨(Nat.le_of_ble_eq_true rfl), rfl, rfl⟩ (Nat.le_of_ble_eq_true rfl) (zr_113 _) (Nat.lt_of_lt_of_le (by decide) hq) (by rw [zm_113]; exact (Nat.le_of_ble_eq_true rfl)) ⟨zc_113, by decide⟩ zis_7_0 (ok_lX_cut ⟨r1249_, e1249, ?_⟩)
  refine E_aload_n (pc := 1252) (zDk zD_331_12_ok 16 rfl) rfl ?_
  refine E_aload_n (pc := 1253) (zDk zD_331_12_ok 17 rfl) rfl ?_
  refine E_iload_n (pc := 1254) (zDk zD_331_12_ok 18 rfl) rfl ?_
  refine E_iconst (pc := 1255) (zDk zD_331_12_ok 19 rfl) (by decide +kernel) ?_
  refine W_iadd (pc := 1256) (zDk zD_331_12_ok 20 rfl) ?_
  obtain ⟨v1257, e1257, h⟩ := zS_bind h
  refine E_ialoadX (pc := 1257) (zDk zD_331_12_ok 21 rfl) e1257 ?_
  refine E_aload_n (pc := 1258) (zDk zD_331_12_ok 22 rfl) rfl ?_
  refine E_iload_n (pc := 1259) (zDk zD_331_12_ok 23 rfl) rfl ?_
  refine E_iconst (pc := 1260) (zDk zD_331_12_ok 24 rfl) (by decide +kernel) ?_
  refine W_iadd (pc := 1261) (zDk zD_331_12_ok 25 rfl) ?_
  obtain ⟨v1262, e1262, h⟩ := zS_bind h
  refine E_ialoadX (pc := 1262) (zDk zD_331_12_ok 26 rfl) e1262 ?_
  obtain ⟨r1263_, e1263, h⟩ := zS_bind h
  refine E_virI (pc := 1263) (c := 273) (r := 106) (as := [.inl v1257, .inl v1262]) (rest := [.inl r1249_.1]) (zDk zD_331_12_ok 27 rfl) zc_331 (by decide +kernel) zk_273 ⟨(Nat.le_of_ble_eq_true rfl), rfl, rfl⟩ (Nat.le_of_ble_eq_true rfl) (zr_273 _) (Nat.lt_of_lt_of_le (by decide) hq) (by rw [zm_273]; exact (Nat.le_of_ble_eq_true rfl)) ⟨zc_273, by decide⟩ zis_8_106 (ok_lm_cut ⟨r1263_, e1263, ?_⟩)
  refine E_icmp (pc := 1266) (t := 2236) (zDk zD_331_12_ok 28 rfl) rfl (fun hz => ?_) (fun hz => ?_)
  · have h := zS_t h (T_eq hz)
    refine W_iinc (pc := 2236) (L' := [some (.inr (.inr 5001)), some (.inr (.inr 0)), some (.inr (.inr 106)), some (.inl (w32 (y3 + 6)))]) (zDk zD_331_25_ok 24 rfl) rfl zm_331 (by decide) rfl ?_
    refine E_goto (pc := 2239) (t := 18) (zDk zD_331_25_ok 25 rfl) rfl ?_
    exact H18 (w32 (y3 + 6)) r1263_.2 h
  · have h := zS_f h (F_eq hz)
    refine E_iconst (pc := 1269) (zDk zD_331_12_ok 29 rfl) (by decide +kernel) ?_
    have h := zS_some h
    exact E_ireturnZ (pc := 1270) (zDk zD_331_12_ok 30 rfl) zt_331 (by decide) h
def lQ_law_c1271 (sc : zSc) (h18 : Int → (Nat → Nat → Int) → Option (Int × (Nat → Nat → Int))) (y3 : Int) (M : Nat → Nat → Int) : Option (Int × (Nat → Nat → Int)) :=
    ((rdX sc (w32 (y3 + (1 : Int)))).bind (fun v1276 =>
    ((rdX sc (w32 (y3 + (2 : Int)))).bind (fun v1281 =>
    ((lX_cuts v1276 v1281 M).bind (fun r1282_ =>
    ((rdX sc (w32 (y3 + (1 : Int)))).bind (fun v1290 =>
    ((rdX sc (w32 (y3 + (2 : Int)))).bind (fun v1295 =>
    ((lm_cuts v1290 v1295 r1282_.2).bind (fun r1296_ =>
    (if r1282_.1 = r1296_.1 then
    (h18 (w32 (y3 + 6)) r1296_.2)
    else
    (some ((0 : Int), r1296_.2)))))))))))))))
set_option maxRecDepth 100000 in
theorem ok_lQ_law_c1271 {q : Nat} {P : Option zV → (Nat → Nat → Int) → Prop} (hq : 20 ≤ q) (sc : zSc) (h18 : Int → (Nat → Nat → Int) → Option (Int × (Nat → Nat → Int))) (H18 : ∀ (y3 : Int) (M : Nat → Nat → Int), zS (h18 y3 M) (fun r => P (some (.inl r.1)) r.2) → zWp sc q 331 18 [some (.inr (.inr 5001)), some (.inr (.inr 0)), some (.inr (.inr 106)), some (.inl y3)] [] M P) : ∀ (y3 : Int) (M : Nat → Nat → Int), zS (lQ_law_c1271 sc h18 y3 M) (fun r => P (some (.inl r.1)) r.2) → zWp sc q 331 1271 [some (.inr (.inr 5001)), some (.inr (.inr 0)), some (.inr (.inr 106)), some (.inl y3)] [] M P := by
  intro y3 M h
  unfold lQ_law_c1271 at h
  refine E_aload_n (pc := 1271) (zDk zD_331_12_ok 31 rfl) rfl ?_
  refine E_aload_n (pc := 1272) (zDk zD_331_12_ok 32 rfl) rfl ?_
  refine E_iload_n (pc := 1273) (zDk zD_331_12_ok 33 rfl) rfl ?_
  refine E_iconst (pc := 1274) (zDk zD_331_12_ok 34 rfl) (by decide +kernel) ?_
  refine W_iadd (pc := 1275) (zDk zD_331_12_ok 35 rfl) ?_
  obtain ⟨v1276, e1276, h⟩ := zS_bind h
  refine E_ialoadX (pc := 1276) (zDk zD_331_12_ok 36 rfl) e1276 ?_
  refine E_aload_n (pc := 1277) (zDk zD_331_12_ok 37 rfl) rfl ?_
  refine E_iload_n (pc := 1278) (zDk zD_331_12_ok 38 rfl) rfl ?_
  refine E_iconst (pc := 1279) (zDk zD_331_12_ok 39 rfl) (by decide +kernel) ?_
  refine W_iadd (pc := 1280) (zDk zD_331_12_ok 40 rfl) ?_
  obtain ⟨v1281, e1281, h⟩ := zS_bind h
  refine E_ialoadX (pc := 1281) (zDk zD_331_12_ok 41 rfl) e1281 ?_
  obtain ⟨r1282_, e1282, h⟩ := zS_bind h
  refine E_virI (pc := 1282) (c := 114) (r := 0) (as := [.inl v1276, .inl v1281]) (rest := []) (zDk zD_331_12_ok 42 rfl) zc_331 (by decide +kernel) zk_114 ⟨(Nat.le_of_ble_eq_true rfl), rfl, rfl⟩ (Nat.le_of_ble_eq_true rfl) (zr_114 _) (Nat.lt_of_lt_of_le (by decide) hq) (by rw [zm_114]; exact (Nat.le_of_ble_eq_true rfl)) ⟨zc_114, by decide⟩ zis_7_0 (ok_lX_cuts ⟨r1282_, e1282, ?_⟩)
  refine E_aload_n (pc := 1285) (zDk zD_331_12_ok 43 rfl) rfl ?_
  refine E_aload_n (pc := 1286) (zDk zD_331_12_ok 44 rfl) rfl ?_
  refine E_iload_n (pc := 1287) (zDk zD_331_12_ok 45 rfl) rfl ?_
  refine E_iconst (pc := 1288) (zDk zD_331_12_ok 46 rfl) (by decide +kernel) ?_
  refine W_iadd (pc := 1289) (zDk zD_331_12_ok 47 rfl) ?_
  obtain ⟨v1290, e1290, h⟩ := zS_bind h
  refine E_ialoadX (pc := 1290) (zDk zD_331_12_ok 48 rfl) e1290 ?_
  refine E_aload_n (pc := 1291) (zDk zD_331_12_ok 49 rfl) rfl ?_
  refine E_iload_n (pc := 1292) (zDk zD_331_12_ok 50 rfl) rfl ?_
  refine E_iconst (pc := 1293) (zDk zD_331_12_ok 51 rfl) (by decide +kernel) ?_
  refine W_iadd (pc := 1294) (zDk zD_331_12_ok 52 rfl) ?_
  obtain ⟨v1295, e1295, h⟩ := zS_bind h
  refine E_ialoadX (pc := 1295) (zDk zD_331_12_ok 53 rfl) e1295 ?_
  obtain ⟨r1296_, e1296, h⟩ := zS_bind h
  refine E_virI (pc := 1296) (c := 274) (r := 106) (as := [.inl v1290, .inl v1295]) (rest := [.inl r1282_.1]) (zDk zD_331_12_ok 54 rfl) zc_331 (by decide +kernel) zk_274 ⟨(Nat.le_of_ble_eq_true rfl), rfl, rfl⟩ (Nat.le_of_ble_eq_true rfl) (zr_274 _) (Nat.lt_of_lt_of_le (by decide) hq) (by rw [zm_274]; exact (Nat.le_of_ble_eq_true rfl)) ⟨zc_274, by decide⟩ zis_8_106 (ok_lm_cuts ⟨r1296_, e1296, ?_⟩)
  refine E_icmp (pc := 1299) (t := 2236) (zDk zD_331_12_ok 55 rfl) rfl (fun hz => ?_) (fun hz => ?_)
  · have h := zS_t h (T_eq hz)
    refine W_iinc (pc := 2236) (L' := [some (.inr (.inr 5001)), some (.inr (.inr 0)), some (.inr (.inr 106)), some (.inl (w32 (y3 + 6)))]) (zDk zD_331_25_ok 24 rfl) rfl zm_331 (by decide) rfl ?_
    refine E_goto (pc := 2239) (t := 18) (zDk zD_331_25_ok 25 rfl) rfl ?_
    exact H18 (w32 (y3 + 6)) r1296_.2 h
  · have h := zS_f h (F_eq hz)
    refine E_iconst (pc := 1302) (zDk zD_331_12_ok 56 rfl) (by decide +kernel) ?_
    have h := zS_some h
    exact E_ireturnZ (pc := 1303) (zDk zD_331_12_ok 57 rfl) zt_331 (by decide) h
def lQ_law_c1304 (sc : zSc) (h18 : Int → (Nat → Nat → Int) → Option (Int × (Nat → Nat → Int))) (y3 : Int) (M : Nat → Nat → Int) : Option (Int × (Nat → Nat → Int)) :=
    ((rdX sc (w32 (y3 + (1 : Int)))).bind (fun v1309 =>
    ((lX_by v1309 M).bind (fun r1310_ =>
    ((rdX sc (w32 (y3 + (1 : Int)))).bind (fun v1318 =>
    ((lm_by v1318 r1310_.2).bind (fun r1319_ =>
    (if r1310_.1 = r1319_.1 then
    (h18 (w32 (y3 + 6)) r1319_.2)
    else
    (some ((0 : Int), r1319_.2)))))))))))
set_option maxRecDepth 100000 in
theorem ok_lQ_law_c1304 {q : Nat} {P : Option zV → (Nat → Nat → Int) → Prop} (hq : 20 ≤ q) (sc : zSc) (h18 : Int → (Nat → Nat → Int) → Option (Int × (Nat → Nat → Int))) (H18 : ∀ (y3 : Int) (M : Nat → Nat → Int), zS (h18 y3 M) (fun r => P (some (.inl r.1)) r.2) → zWp sc q 331 18 [some (.inr (.inr 5001)), some (.inr (.inr 0)), some (.inr (.inr 106)), some (.inl y3)] [] M P) : ∀ (y3 : Int) (M : Nat → Nat → Int), zS (lQ_law_c1304 sc h18 y3 M) (fun r => P (some (.inl r.1)) r.2) → zWp sc q 331 1304 [some (.inr (.inr 5001)), some (.inr (.inr 0)), some (.inr (.inr 106)), some (.inl y3)] [] M P := by
  intro y3 M h
  unfold lQ_law_c1304 at h
  refine E_aload_n (pc := 1304) (zDk zD_331_12_ok 58 rfl) rfl ?_
  refine E_aload_n (pc := 1305) (zDk zD_331_12_ok 59 rfl) rfl ?_
  refine E_iload_n (pc := 1306) (zDk zD_331_13_ok 0 rfl) rfl ?_
  refine E_iconst (pc := 1307) (zDk zD_331_13_ok 1 rfl) (by decide +kernel) ?_
  refine W_iadd (pc := 1308) (zDk zD_331_13_ok 2 rfl) ?_
  obtain ⟨v1309, e1309, h⟩ := zS_bind h
  refine E_ialoadX (pc := 1309) (zDk zD_331_13_ok 3 rfl) e1309 ?_
  obtain ⟨r1310_, e1310, h⟩ := zS_bind h
  refine E_virI (pc := 1310) (c := 115) (r := 0) (as := [.inl v1309]) (rest := []) (zDk zD_331_13_ok 4 rfl) zc_331 (by decide +kernel) zk_115 ⟨(Nat.le_of_ble_eq_true rfl), rfl, rfl⟩ (Nat.le_of_ble_eq_true rfl) (zr_115 _) (Nat.lt_of_lt_of_le (by decide) hq) (by rw [zm_115]; exact (Nat.le_of_ble_eq_true rfl)) ⟨zc_115, by decide⟩ zis_7_0 (ok_lX_by ⟨r1310_, e1310, ?_⟩)
  refine E_aload_n (pc := 1313) (zDk zD_331_13_ok 5 rfl) rfl ?_
  refine E_aload_n (pc := 1314) (zDk zD_331_13_ok 6 rfl) rfl ?_
  refine E_iload_n (pc := 1315) (zDk zD_331_13_ok 7 rfl) rfl ?_
  refine E_iconst (pc := 1316) (zDk zD_331_13_ok 8 rfl) (by decide +kernel) ?_
  refine W_iadd (pc := 1317) (zDk zD_331_13_ok 9 rfl) ?_
  obtain ⟨v1318, e1318, h⟩ := zS_bind h
  refine E_ialoadX (pc := 1318) (zDk zD_331_13_ok 10 rfl) e1318 ?_
  obtain ⟨r1319_, e1319, h⟩ := zS_bind h
  refine E_virI (pc := 1319) (c := 277) (r := 106) (as := [.inl v1318]) (rest := [.inl r1310_.1]) (zDk zD_331_13_ok 11 rfl) zc_331 (by decide +kernel) zk_277 ⟨(Nat.le_of_ble_eq_true rfl), rfl, rfl⟩ (Nat.le_of_ble_eq_true rfl) (zr_277 _) (Nat.lt_of_lt_of_le (by decide) hq) (by rw [zm_277]; exact (Nat.le_of_ble_eq_true rfl)) ⟨zc_277, by decide⟩ zis_8_106 (ok_lm_by ⟨r1319_, e1319, ?_⟩)
  refine E_icmp (pc := 1322) (t := 2236) (zDk zD_331_13_ok 12 rfl) rfl (fun hz => ?_) (fun hz => ?_)
  · have h := zS_t h (T_eq hz)
    refine W_iinc (pc := 2236) (L' := [some (.inr (.inr 5001)), some (.inr (.inr 0)), some (.inr (.inr 106)), some (.inl (w32 (y3 + 6)))]) (zDk zD_331_25_ok 24 rfl) rfl zm_331 (by decide) rfl ?_
    refine E_goto (pc := 2239) (t := 18) (zDk zD_331_25_ok 25 rfl) rfl ?_
    exact H18 (w32 (y3 + 6)) r1319_.2 h
  · have h := zS_f h (F_eq hz)
    refine E_iconst (pc := 1325) (zDk zD_331_13_ok 13 rfl) (by decide +kernel) ?_
    have h := zS_some h
    exact E_ireturnZ (pc := 1326) (zDk zD_331_13_ok 14 rfl) zt_331 (by decide) h
def lQ_law_c1327 (sc : zSc) (h18 : Int → (Nat → Nat → Int) → Option (Int × (Nat → Nat → Int))) (y3 : Int) (M : Nat → Nat → Int) : Option (Int × (Nat → Nat → Int)) :=
    ((lX_law M).bind (fun r1328_ =>
    ((lm_law r1328_.2).bind (fun r1332_ =>
    (if r1328_.1 = r1332_.1 then
    (h18 (w32 (y3 + 6)) r1332_.2)
    else
    (some ((0 : Int), r1332_.2)))))))
set_option maxRecDepth 100000 in
theorem ok_lQ_law_c1327 {q : Nat} {P : Option zV → (Nat → Nat → Int) → Prop} (hq : 20 ≤ q) (sc : zSc) (h18 : Int → (Nat → Nat → Int) → Option (Int × (Nat → Nat → Int))) (H18 : ∀ (y3 : Int) (M : Nat → Nat → Int), zS (h18 y3 M) (fun r => P (some (.inl r.1)) r.2) → zWp sc q 331 18 [some (.inr (.inr 5001)), some (.inr (.inr 0)), some (.inr (.inr 106)), some (.inl y3)] [] M P) : ∀ (y3 : Int) (M : Nat → Nat → Int), zS (lQ_law_c1327 sc h18 y3 M) (fun r => P (some (.inl r.1)) r.2) → zWp sc q 331 1327 [some (.inr (.inr 5001)), some (.inr (.inr 0)), some (.inr (.inr 106)), some (.inl y3)] [] M P := by
  intro y3 M h
  unfold lQ_law_c1327 at h
  refine E_aload_n (pc := 1327) (zDk zD_331_13_ok 15 rfl) rfl ?_
  obtain ⟨r1328_, e1328, h⟩ := zS_bind h
  refine E_virI (pc := 1328) (c := 116) (r := 0) (as := []) (rest := []) (zDk zD_331_13_ok 16 rfl) zc_331 (by decide +kernel) zk_116 ⟨(Nat.le_of_ble_eq_true rfl), rfl, rfl⟩ (Nat.le_of_ble_eq_true rfl) (zr_116 _) (Nat.lt_of_lt_of_le (by decide) hq) (by rw [zm_116]; exact (Nat.le_of_ble_eq_true rfl)) ⟨zc_116, by decide⟩ zis_7_0 (ok_lX_law ⟨r1328_, e1328, ?_⟩)
  refine E_aload_n (pc := 1331) (zDk zD_331_13_ok 17 rfl) rfl ?_
  obtain ⟨r1332_, e1332, h⟩ := zS_bind h
  refine E_virI (pc := 1332) (c := 278) (r := 106) (as := []) (rest := [.inl r1328_.1]) (zDk zD_331_13_ok 18 rfl) zc_331 (by decide +kernel) zk_278 ⟨(Nat.le_of_ble_eq_true rfl), rfl, rfl⟩ (Nat.le_of_ble_eq_true rfl) (zr_278 _) (Nat.lt_of_lt_of_le (by decide) hq) (by rw [zm_278]; exact (Nat.le_of_ble_eq_true rfl)) ⟨zc_278, by decide⟩ zis_8_106 (ok_lm_law ⟨r1332_, e1332, ?_⟩)
  refine E_icmp (pc := 1335) (t := 2236) (zDk zD_331_13_ok 19 rfl) rfl (fun hz => ?_) (fun hz => ?_)
  · have h := zS_t h (T_eq hz)
    refine W_iinc (pc := 2236) (L' := [some (.inr (.inr 5001)), some (.inr (.inr 0)), some (.inr (.inr 106)), some (.inl (w32 (y3 + 6)))]) (zDk zD_331_25_ok 24 rfl) rfl zm_331 (by decide) rfl ?_
    refine E_goto (pc := 2239) (t := 18) (zDk zD_331_25_ok 25 rfl) rfl ?_
    exact H18 (w32 (y3 + 6)) r1332_.2 h
  · have h := zS_f h (F_eq hz)
    refine E_iconst (pc := 1338) (zDk zD_331_13_ok 20 rfl) (by decide +kernel) ?_
    have h := zS_some h
    exact E_ireturnZ (pc := 1339) (zDk zD_331_13_ok 21 rfl) zt_331 (by decide) h
def lQ_law_c1340 (sc : zSc) (h18 : Int → (Nat → Nat → Int) → Option (Int × (Nat → Nat → Int))) (y3 : Int) (M : Nat → Nat → Int) : Option (Int × (Nat → Nat → Int)) :=
    ((rdX sc (w32 (y3 + (1 : Int)))).bind (fun v1345 =>
    ((lX_needs v1345 M).bind (fun r1346_ =>
    ((rdX sc (w32 (y3 + (1 : Int)))).bind (fun v1354 =>
    ((lm_needs_279 v1354 r1346_.2).bind (fun r1355_ =>
    (if r1346_.1 = r1355_.1 then
    (h18 (w32 (y3 + 6)) r1355_.2)
    else
    (some ((0 : Int), r1355_.2)))))))))))
set_option maxRecDepth 100000 in
theorem ok_lQ_law_c1340 {q : Nat} {P : Option zV → (Nat → Nat → Int) → Prop} (hq : 20 ≤ q) (sc : zSc) (h18 : Int → (Nat → Nat → Int) → Option (Int × (Nat → Nat → Int))) (H18 : ∀ (y3 : Int) (M : Nat → Nat → Int), zS (h18 y3 M) (fun r => P (some (.inl r.1)) r.2) → zWp sc q 331 18 [some (.inr (.inr 5001)), some (.inr (.inr 0)), some (.inr (.inr 106)), some (.inl y3)] [] M P) : ∀ (y3 : Int) (M : Nat → Nat → Int), zS (lQ_law_c1340 sc h18 y3 M) (fun r => P (some (.inl r.1)) r.2) → zWp sc q 331 1340 [some (.inr (.inr 5001)), some (.inr (.inr 0)), some (.inr (.inr 106)), some (.inl y3)] [] M P := by
  intro y3 M h
  unfold lQ_law_c1340 at h
  refine E_aload_n (pc := 1340) (zDk zD_331_13_ok 22 rfl) rfl ?_
  refine E_aload_n (pc := 1341) (zDk zD_331_13_ok 23 rfl) rfl ?_
  refine E_iload_n (pc := 1342) (zDk zD_331_13_ok 24 rfl) rfl ?_
  refine E_iconst (pc := 1343) (zDk zD_331_13_ok 25 rfl) (by decide +kernel) ?_
  refine W_iadd (pc := 1344) (zDk zD_331_13_ok 26 rfl) ?_
  obtain ⟨v1345, e1345, h⟩ := zS_bind h
  refine E_ialoadX (pc := 1345) (zDk zD_331_13_ok 27 rfl) e1345 ?_
  obtain ⟨r1346_, e1346, h⟩ := zS_bind h
  refine E_virI (pc := 1346) (c := 117) (r := 0) (as := [.inl v1345]) (rest := []) (zDk zD_331_13_ok 28 rfl) zc_331 (by decide +kernel) zk_117 ⟨(Nat.le_of_ble_eq_true rfl), rfl, rfl⟩ (Nat.le_of_ble_eq_true rfl) (zr_117 _) (Nat.lt_of_lt_of_le (by decide) hq) (by rw [zm_117]; exact (Nat.le_of_ble_eq_true rfl)) ⟨zc_117, by decide⟩ zis_7_0 (ok_lX_needs ⟨r1346_, e1346, ?_⟩)
  refine E_aload_n (pc := 1349) (zDk zD_331_13_ok 29 rfl) rfl ?_
  refine E_aload_n (pc := 1350) (zDk zD_331_13_ok 30 rfl) rfl ?_
  refine E_iload_n (pc := 1351) (zDk zD_331_13_ok 31 rfl) rfl ?_
  refine E_iconst (pc := 1352) (zDk zD_331_13_ok 32 rfl) (by decide +kernel) ?_
  refine W_iadd (pc := 1353) (zDk zD_331_13_ok 33 rfl) ?_
  obtain ⟨v1354, e1354, h⟩ := zS_bind h
  refine E_ialoadX (pc := 1354) (zDk zD_331_13_ok 34 rfl) e1354 ?_
  obtain ⟨r1355_, e1355, h⟩ := zS_bind h
  refine E_virI (pc := 1355) (c := 279) (r := 106) (as := [.inl v1354]) (rest := [.inl r1346_.1]) (zDk zD_331_13_ok 35 rfl) zc_331 (by decide +kernel) zk_279 ⟨(Nat.le_of_ble_eq_true rfl), rfl, rfl⟩ (Nat.le_of_ble_eq_true rfl) (zr_279 _) (Nat.lt_of_lt_of_le (by decide) hq) (by rw [zm_279]; exact (Nat.le_of_ble_eq_true rfl)) ⟨zc_279, by decide⟩ zis_8_106 (ok_lm_needs_279 ⟨r1355_, e1355, ?_⟩)
  refine E_icmp (pc := 1358) (t := 2236) (zDk zD_331_13_ok 36 rfl) rfl (fun hz => ?_) (fun hz => ?_)
  · have h := zS_t h (T_eq hz)
    refine W_iinc (pc := 2236) (L' := [some (.inr (.inr 5001)), some (.inr (.inr 0)), some (.inr (.inr 106)), some (.inl (w32 (y3 + 6)))]) (zDk zD_331_25_ok 24 rfl) rfl zm_331 (by decide) rfl ?_
    refine E_goto (pc := 2239) (t := 18) (zDk zD_331_25_ok 25 rfl) rfl ?_
    exact H18 (w32 (y3 + 6)) r1355_.2 h
  · have h := zS_f h (F_eq hz)
    refine E_iconst (pc := 1361) (zDk zD_331_13_ok 37 rfl) (by decide +kernel) ?_
    have h := zS_some h
    exact E_ireturnZ (pc := 1362) (zDk zD_331_13_ok 38 rfl) zt_331 (by decide) h
def lQ_law_c1363 (sc : zSc) (h18 : Int → (Nat → Nat → Int) → Option (Int × (Nat → Nat → Int))) (y3 : Int) (M : Nat → Nat → Int) : Option (Int × (Nat → Nat → Int)) :=
    ((rdX sc (w32 (y3 + (1 : Int)))).bind (fun v1368 =>
    ((lX_lives v1368 M).bind (fun r1369_ =>
    ((rdX sc (w32 (y3 + (1 : Int)))).bind (fun v1377 =>
    ((lm_lives v1377 r1369_.2).bind (fun r1378_ =>
    (if r1369_.1 = r1378_.1 then
    (h18 (w32 (y3 + 6)) r1378_.2)
    else
    (some ((0 : Int), r1378_.2)))))))))))
set_option maxRecDepth 100000 in
theorem ok_lQ_law_c1363 {q : Nat} {P : Option zV → (Nat → Nat → Int) → Prop} (hq : 20 ≤ q) (sc : zSc) (h18 : Int → (Nat → Nat → Int) → Option (Int × (Nat → Nat → Int))) (H18 : ∀ (y3 : Int) (M : Nat → Nat → Int), zS (h18 y3 M) (fun r => P (some (.inl r.1)) r.2) → zWp sc q 331 18 [some (.inr (.inr 5001)), some (.inr (.inr 0)), some (.inr (.inr 106)), some (.inl y3)] [] M P) : ∀ (y3 : Int) (M : Nat → Nat → Int), zS (lQ_law_c1363 sc h18 y3 M) (fun r => P (some (.inl r.1)) r.2) → zWp sc q 331 1363 [some (.inr (.inr 5001)), some (.inr (.inr 0)), some (.inr (.inr 106)), some (.inl y3)] [] M P := by
  intro y3 M h
  unfold lQ_law_c1363 at h
  refine E_aload_n (pc := 1363) (zDk zD_331_13_ok 39 rfl) rfl ?_
  refine E_aload_n (pc := 1364) (zDk zD_331_13_ok 40 rfl) rfl ?_
  refine E_iload_n (pc := 1365) (zDk zD_331_13_ok 41 rfl) rfl ?_
  refine E_iconst (pc := 1366) (zDk zD_331_13_ok 42 rfl) (by decide +kernel) ?_
  refine W_iadd (pc := 1367) (zDk zD_331_13_ok 43 rfl) ?_
  obtain ⟨v1368, e1368, h⟩ := zS_bind h
  refine E_ialoadX (pc := 1368) (zDk zD_331_13_ok 44 rfl) e1368 ?_
  obtain ⟨r1369_, e1369, h⟩ := zS_bind h
  refine E_virI (pc := 1369) (c := 118) (r := 0) (as := [.inl v1368]) (rest := []) (zDk zD_331_13_ok 45 rfl) zc_331 (by decide +kernel) zk_118 ⟨(Nat.le_of_ble_eq_true rfl), rfl, rfl⟩ (Nat.le_of_ble_eq_true rfl) (zr_118 _) (Nat.lt_of_lt_of_le (by decide) hq) (by rw [zm_118]; exact (Nat.le_of_ble_eq_true rfl)) ⟨zc_118, by decide⟩ zis_7_0 (ok_lX_lives ⟨r1369_, e1369, ?_⟩)
  refine E_aload_n (pc := 1372) (zDk zD_331_13_ok 46 rfl) rfl ?_
  refine E_aload_n (pc := 1373) (zDk zD_331_13_ok 47 rfl) rfl ?_
  refine E_iload_n (pc := 1374) (zDk zD_331_13_ok 48 rfl) rfl ?_
  refine E_iconst (pc := 1375) (zDk zD_331_13_ok 49 rfl) (by decide +kernel) ?_
  refine W_iadd (pc := 1376) (zDk zD_331_13_ok 50 rfl) ?_
  obtain ⟨v1377, e1377, h⟩ := zS_bind h
  refine E_ialoadX (pc := 1377) (zDk zD_331_13_ok 51 rfl) e1377 ?_
  obtain ⟨r1378_, e1378, h⟩ := zS_bind h
  refine E_virI (pc := 1378) (c := 280) (r := 106) (as := [.inl v1377]) (rest := [.inl r1369_.1]) (zDk zD_331_13_ok 52 rfl) zc_331 (by decide +kernel) zk_280 ⟨(Nat.le_of_ble_eq_true rfl), rfl, rfl⟩ (Nat.le_of_ble_eq_true rfl) (zr_280 _) (Nat.lt_of_lt_of_le (by decide) hq) (by rw [zm_280]; exact (Nat.le_of_ble_eq_true rfl)) ⟨zc_280, by decide⟩ zis_8_106 (ok_lm_lives ⟨r1378_, e1378, ?_⟩)
  refine E_icmp (pc := 1381) (t := 2236) (zDk zD_331_13_ok 53 rfl) rfl (fun hz => ?_) (fun hz => ?_)
  · have h := zS_t h (T_eq hz)
    refine W_iinc (pc := 2236) (L' := [some (.inr (.inr 5001)), some (.inr (.inr 0)), some (.inr (.inr 106)), some (.inl (w32 (y3 + 6)))]) (zDk zD_331_25_ok 24 rfl) rfl zm_331 (by decide) rfl ?_
    refine E_goto (pc := 2239) (t := 18) (zDk zD_331_25_ok 25 rfl) rfl ?_
    exact H18 (w32 (y3 + 6)) r1378_.2 h
  · have h := zS_f h (F_eq hz)
    refine E_iconst (pc := 1384) (zDk zD_331_13_ok 54 rfl) (by decide +kernel) ?_
    have h := zS_some h
    exact E_ireturnZ (pc := 1385) (zDk zD_331_13_ok 55 rfl) zt_331 (by decide) h
def lQ_law_c1386 (sc : zSc) (h18 : Int → (Nat → Nat → Int) → Option (Int × (Nat → Nat → Int))) (y3 : Int) (M : Nat → Nat → Int) : Option (Int × (Nat → Nat → Int)) :=
    ((lX_dig M).bind (fun r1387_ =>
    ((lm_dig r1387_.2).bind (fun r1391_ =>
    (if r1387_.1 = r1391_.1 then
    (h18 (w32 (y3 + 6)) r1391_.2)
    else
    (some ((0 : Int), r1391_.2)))))))
set_option maxRecDepth 100000 in
theorem ok_lQ_law_c1386 {q : Nat} {P : Option zV → (Nat → Nat → Int) → Prop} (hq : 20 ≤ q) (sc : zSc) (h18 : Int → (Nat → Nat → Int) → Option (Int × (Nat → Nat → Int))) (H18 : ∀ (y3 : Int) (M : Nat → Nat → Int), zS (h18 y3 M) (fun r => P (some (.inl r.1)) r.2) → zWp sc q 331 18 [some (.inr (.inr 5001)), some (.inr (.inr 0)), some (.inr (.inr 106)), some (.inl y3)] [] M P) : ∀ (y3 : Int) (M : Nat → Nat → Int), zS (lQ_law_c1386 sc h18 y3 M) (fun r => P (some (.inl r.1)) r.2) → zWp sc q 331 1386 [some (.inr (.inr 5001)), some (.inr (.inr 0)), some (.inr (.inr 106)), some (.inl y3)] [] M P := by
  intro y3 M h
  unfold lQ_law_c1386 at h
  refine E_aload_n (pc := 1386) (zDk zD_331_13_ok 56 rfl) rfl ?_
  obtain ⟨r1387_, e1387, h⟩ := zS_bind h
  refine E_virI (pc := 1387) (c := 119) (r := 0) (as := []) (rest := []) (zDk zD_331_13_ok 57 rfl) zc_331 (by decide +kernel) zk_119 ⟨(Nat.le_of_ble_eq_true rfl), rfl, rfl⟩ (Nat.le_of_ble_eq_true rfl) (zr_119 _) (Nat.lt_of_lt_of_le (by decide) hq) (by rw [zm_119]; exact (Nat.le_of_ble_eq_true rfl)) ⟨zc_119, by decide⟩ zis_7_0 (ok_lX_dig ⟨r1387_, e1387, ?_⟩)
  refine E_aload_n (pc := 1390) (zDk zD_331_13_ok 58 rfl) rfl ?_
  obtain ⟨r1391_, e1391, h⟩ := zS_bind h
  refine E_virI (pc := 1391) (c := 281) (r := 106) (as := []) (rest := [.inl r1387_.1]) (zDk zD_331_13_ok 59 rfl) zc_331 (by decide +kernel) zk_281 ⟨(Nat.le_of_ble_eq_true rfl), rfl, rfl⟩ (Nat.le_of_ble_eq_true rfl) (zr_281 _) (Nat.lt_of_lt_of_le (by decide) hq) (by rw [zm_281]; exact (Nat.le_of_ble_eq_true rfl)) ⟨zc_281, by decide⟩ zis_8_106 (ok_lm_dig ⟨r1391_, e1391, ?_⟩)
  refine E_icmp (pc := 1394) (t := 2236) (zDk zD_331_14_ok 0 rfl) rfl (fun hz => ?_) (fun hz => ?_)
  · have h := zS_t h (T_eq hz)
    refine W_iinc (pc := 2236) (L' := [some (.inr (.inr 5001)), some (.inr (.inr 0)), some (.inr (.inr 106)), some (.inl (w32 (y3 + 6)))]) (zDk zD_331_25_ok 24 rfl) rfl zm_331 (by decide) rfl ?_
    refine E_goto (pc := 2239) (t := 18) (zDk zD_331_25_ok 25 rfl) rfl ?_
    exact H18 (w32 (y3 + 6)) r1391_.2 h
  · have h := zS_f h (F_eq hz)
    refine E_iconst (pc := 1397) (zDk zD_331_14_ok 1 rfl) (by decide +kernel) ?_
    have h := zS_some h
    exact E_ireturnZ (pc := 1398) (zDk zD_331_14_ok 2 rfl) zt_331 (by decide) h
def lQ_law_c1399 (sc : zSc) (h18 : Int → (Nat → Nat → Int) → Option (Int × (Nat → Nat → Int))) (y3 : Int) (M : Nat → Nat → Int) : Option (Int × (Nat → Nat → Int)) :=
    ((lX_shut M).bind (fun r1400_ =>
    ((lm_shut r1400_.2).bind (fun r1404_ =>
    (if r1400_.1 = r1404_.1 then
    (h18 (w32 (y3 + 6)) r1404_.2)
    else
    (some ((0 : Int), r1404_.2)))))))
set_option maxRecDepth 100000 in
theorem ok_lQ_law_c1399 {q : Nat} {P : Option zV → (Nat → Nat → Int) → Prop} (hq : 20 ≤ q) (sc : zSc) (h18 : Int → (Nat → Nat → Int) → Option (Int × (Nat → Nat → Int))) (H18 : ∀ (y3 : Int) (M : Nat → Nat → Int), zS (h18 y3 M) (fun r => P (some (.inl r.1)) r.2) → zWp sc q 331 18 [some (.inr (.inr 5001)), some (.inr (.inr 0)), some (.inr (.inr 106)), some (.inl y3)] [] M P) : ∀ (y3 : Int) (M : Nat → Nat → Int), zS (lQ_law_c1399 sc h18 y3 M) (fun r => P (some (.inl r.1)) r.2) → zWp sc q 331 1399 [some (.inr (.inr 5001)), some (.inr (.inr 0)), some (.inr (.inr 106)), some (.inl y3)] [] M P := by
  intro y3 M h
  unfold lQ_law_c1399 at h
  refine E_aload_n (pc := 1399) (zDk zD_331_14_ok 3 rfl) rfl ?_
  obtain ⟨r1400_, e1400, h⟩ := zS_bind h
  refine E_virI (pc := 1400) (c := 120) (r := 0) (as := []) (rest := []) (zDk zD_331_14_ok 4 rfl) zc_331 (by decide +kernel) zk_120 ⟨(Nat.le_of_ble_eq_true rfl), rfl, rfl⟩ (Nat.le_of_ble_eq_true rfl) (zr_120 _) (Nat.lt_of_lt_of_le (by decide) hq) (by rw [zm_120]; exact (Nat.le_of_ble_eq_true rfl)) ⟨zc_120, by decide⟩ zis_7_0 (ok_lX_shut ⟨r1400_, e1400, ?_⟩)
  refine E_aload_n (pc := 1403) (zDk zD_331_14_ok 5 rfl) rfl ?_
  obtain ⟨r1404_, e1404, h⟩ := zS_bind h
  refine E_virI (pc := 1404) (c := 282) (r := 106) (as := []) (rest := [.inl r1400_.1]) (zDk zD_331_14_ok 6 rfl) zc_331 (by decide +kernel) zk_282 ⟨(Nat.le_of_ble_eq_true rfl), rfl, rfl⟩ (Nat.le_of_ble_eq_true rfl) (zr_282 _) (Nat.lt_of_lt_of_le (by decide) hq) (by rw [zm_282]; exact (Nat.le_of_ble_eq_true rfl)) ⟨zc_282, by decide⟩ zis_8_106 (ok_lm_shut ⟨r1404_, e1404, ?_⟩)
  refine E_icmp (pc := 1407) (t := 2236) (zDk zD_331_14_ok 7 rfl) rfl (fun hz => ?_) (fun hz => ?_)
  · have h := zS_t h (T_eq hz)
    refine W_iinc (pc := 2236) (L' := [some (.inr (.inr 5001)), some (.inr (.inr 0)), some (.inr (.inr 106)), some (.inl (w32 (y3 + 6)))]) (zDk zD_331_25_ok 24 rfl) rfl zm_331 (by decide) rfl ?_
    refine E_goto (pc := 2239) (t := 18) (zDk zD_331_25_ok 25 rfl) rfl ?_
    exact H18 (w32 (y3 + 6)) r1404_.2 h
  · have h := zS_f h (F_eq hz)
    refine E_iconst (pc := 1410) (zDk zD_331_14_ok 8 rfl) (by decide +kernel) ?_
    have h := zS_some h
    exact E_ireturnZ (pc := 1411) (zDk zD_331_14_ok 9 rfl) zt_331 (by decide) h
def lQ_law_c1412 (sc : zSc) (h18 : Int → (Nat → Nat → Int) → Option (Int × (Nat → Nat → Int))) (y3 : Int) (M : Nat → Nat → Int) : Option (Int × (Nat → Nat → Int)) :=
    ((rdX sc (w32 (y3 + (1 : Int)))).bind (fun v1417 =>
    ((rdX sc (w32 (y3 + (2 : Int)))).bind (fun v1422 =>
    ((lX_homes v1417 v1422 M).bind (fun r1423_ =>
    ((rdX sc (w32 (y3 + (1 : Int)))).bind (fun v1431 =>
    ((rdX sc (w32 (y3 + (2 : Int)))).bind (fun v1436 =>
    ((lm_homes v1431 v1436 r1423_.2).bind (fun r1437_ =>
    (if r1423_.1 = r1437_.1 then
    (h18 (w32 (y3 + 6)) r1437_.2)
    else
    (some ((0 : Int), r1437_.2)))))))))))))))
set_option maxRecDepth 100000 in
theorem ok_lQ_law_c1412 {q : Nat} {P : Option zV → (Nat → Nat → Int) → Prop} (hq : 20 ≤ q) (sc : zSc) (h18 : Int → (Nat → Nat → Int) → Option (Int × (Nat → Nat → Int))) (H18 : ∀ (y3 : Int) (M : Nat → Nat → Int), zS (h18 y3 M) (fun r => P (some (.inl r.1)) r.2) → zWp sc q 331 18 [some (.inr (.inr 5001)), some (.inr (.inr 0)), some (.inr (.inr 106)), some (.inl y3)] [] M P) : ∀ (y3 : Int) (M : Nat → Nat → Int), zS (lQ_law_c1412 sc h18 y3 M) (fun r => P (some (.inl r.1)) r.2) → zWp sc q 331 1412 [some (.inr (.inr 5001)), some (.inr (.inr 0)), some (.inr (.inr 106)), some (.inl y3)] [] M P := by
  intro y3 M h
  unfold lQ_law_c1412 at h
  refine E_aload_n (pc := 1412) (zDk zD_331_14_ok 10 rfl) rfl ?_
  refine E_aload_n (pc := 1413) (zDk zD_331_14_ok 11 rfl) rfl ?_
  refine E_iload_n (pc := 1414) (zDk zD_331_14_ok 12 rfl) rfl ?_
  refine E_iconst (pc := 1415) (zDk zD_331_14_ok 13 rfl) (by decide +kernel) ?_
  refine W_iadd (pc := 1416) (zDk zD_331_14_ok 14 rfl) ?_
  obtain ⟨v1417, e1417, h⟩ := zS_bind h
  refine E_ialoadX (pc := 1417) (zDk zD_331_14_ok 15 rfl) e1417 ?_
  refine E_aload_n (pc := 1418) (zDk zD_331_14_ok 16 rfl) rfl ?_
  refine E_iload_n (pc := 1419) (zDk zD_331_14_ok 17 rfl) rfl ?_
  refine E_iconst (pc := 1420) (zDk zD_331_14_ok 18 rfl) (by decide +kernel) ?_
  refine W_iadd (pc := 1421) (zDk zD_331_14_ok 19 rfl) ?_
  obtain ⟨v1422, e1422, h⟩ := zS_bind h
  refine E_ialoadX (pc := 1422) (zDk zD_331_14_ok 20 rfl) e1422 ?_
  obtain ⟨r1423_, e1423, h⟩ := zS_bind h
  refine E_virI (pc := 1423) (c := 121) (r := 0) (as := [.inl v1417, .inl v1422]) (rest := []) (zDk zD_331_14_ok 21 rfl) zc_331 (by decide +kernel) zk_121 ⟨(Nat.le_of_ble_eq_true rfl), rfl, rfl⟩ (Nat.le_of_ble_eq_true rfl) (zr_121 _) (Nat.lt_of_lt_of_le (by decide) hq) (by rw [zm_121]; exact (Nat.le_of_ble_eq_true rfl)) ⟨zc_121, by decide⟩ zis_7_0 (ok_lX_homes ⟨r1423_, e1423, ?_⟩)
  refine E_aload_n (pc := 1426) (zDk zD_331_14_ok 22 rfl) rfl ?_
  refine E_aload_n (pc := 1427) (zDk zD_331_14_ok 23 rfl) rfl ?_
  refine E_iload_n (pc := 1428) (zDk zD_331_14_ok 24 rfl) rfl ?_
  refine E_iconst (pc := 1429) (zDk zD_331_14_ok 25 rfl) (by decide +kernel) ?_
  refine W_iadd (pc := 1430) (zDk zD_331_14_ok 26 rfl) ?_
  obtain ⟨v1431, e1431, h⟩ := zS_bind h
  refine E_ialoadX (pc := 1431) (zDk zD_331_14_ok 27 rfl) e1431 ?_
  refine E_aload_n (pc := 1432) (zDk zD_331_14_ok 28 rfl) rfl ?_
  refine E_iload_n (pc := 1433) (zDk zD_331_14_ok 29 rfl) rfl ?_
  refine E_iconst (pc := 1434) (zDk zD_331_14_ok 30 rfl) (by decide +kernel) ?_
  refine W_iadd (pc := 1435) (zDk zD_331_14_ok 31 rfl) ?_
  obtain ⟨v1436, e1436, h⟩ := zS_bind h
  refine E_ialoadX (pc := 1436) (zDk zD_331_14_ok 32 rfl) e1436 ?_
  obtain ⟨r1437_, e1437, h⟩ := zS_bind h
  refine E_virI (pc := 1437) (c := 285) (r := 106) (as := [.inl v1431, .inl v1436]) (rest := [.inl r1423_.1]) (zDk zD_331_14_ok 33 rfl) zc_331 (by decide +kernel) zk_285 ⟨(Nat.le_of_ble_eq_true rfl), rfl, rfl⟩ (Nat.le_of_ble_eq_true rfl) (zr_285 _) (Nat.lt_of_lt_of_le (by decide) hq) (by rw [zm_285]; exact (Nat.le_of_ble_eq_true rfl)) ⟨zc_285, by decide⟩ zis_8_106 (ok_lm_homes ⟨r1437_, e1437, ?_⟩)
  refine E_icmp (pc := 1440) (t := 2236) (zDk zD_331_14_ok 34 rfl) rfl (fun hz => ?_) (fun hz => ?_)
  · have h := zS_t h (T_eq hz)
    refine W_iinc (pc := 2236) (L' := [some (.inr (.inr 5001)), some (.inr (.inr 0)), some (.inr (.inr 106)), some (.inl (w32 (y3 + 6)))]) (zDk zD_331_25_ok 24 rfl) rfl zm_331 (by decide) rfl ?_
    refine E_goto (pc := 2239) (t := 18) (zDk zD_331_25_ok 25 rfl) rfl ?_
    exact H18 (w32 (y3 + 6)) r1437_.2 h
  · have h := zS_f h (F_eq hz)
    refine E_iconst (pc := 1443) (zDk zD_331_14_ok 35 rfl) (by decide +kernel) ?_
    have h := zS_some h
    exact E_ireturnZ (pc := 1444) (zDk zD_331_14_ok 36 rfl) zt_331 (by decide) h
def lQ_law_c1445 (sc : zSc) (h18 : Int → (Nat → Nat → Int) → Option (Int × (Nat → Nat → Int))) (y3 : Int) (M : Nat → Nat → Int) : Option (Int × (Nat → Nat → Int)) :=
    ((rdX sc (w32 (y3 + (1 : Int)))).bind (fun v1450 =>
    ((rdX sc (w32 (y3 + (2 : Int)))).bind (fun v1455 =>
    ((lX_ask v1450 v1455 M).bind (fun r1456_ =>
    ((rdX sc (w32 (y3 + (1 : Int)))).bind (fun v1464 =>
    ((rdX sc (w32 (y3 + (2 : Int)))).bind (fun v1469 =>
    ((lm_ask v1464 v1469 r1456_.2).bind (fun r1470_ =>
    (if r1456_.1 = r1470_.1 then
    (h18 (w32 (y3 + 6)) r1470_.2)
    else
    (some ((0 : Int), r1470_.2)))))))))))))))
set_option maxRecDepth 100000 in
theorem ok_lQ_law_c1445 {q : Nat} {P : Option zV → (Nat → Nat → Int) → Prop} (hq : 20 ≤ q) (sc : zSc) (h18 : Int → (Nat → Nat → Int) → Option (Int × (Nat → Nat → Int))) (H18 : ∀ (y3 : Int) (M : Nat → Nat → Int), zS (h18 y3 M) (fun r => P (some (.inl r.1)) r.2) → zWp sc q 331 18 [some (.inr (.inr 5001)), some (.inr (.inr 0)), some (.inr (.inr 106)), some (.inl y3)] [] M P) : ∀ (y3 : Int) (M : Nat → Nat → Int), zS (lQ_law_c1445 sc h18 y3 M) (fun r => P (some (.inl r.1)) r.2) → zWp sc q 331 1445 [some (.inr (.inr 5001)), some (.inr (.inr 0)), some (.inr (.inr 106)), some (.inl y3)] [] M P := by
  intro y3 M h
  unfold lQ_law_c1445 at h
  refine E_aload_n (pc := 1445) (zDk zD_331_14_ok 37 rfl) rfl ?_
  refine E_aload_n (pc := 1446) (zDk zD_331_14_ok 38 rfl) rfl ?_
  refine E_iload_n (pc := 1447) (zDk zD_331_14_ok 39 rfl) rfl ?_
  refine E_iconst (pc := 1448) (zDk zD_331_14_ok 40 rfl) (by decide +kernel) ?_
  refine W_iadd (pc := 1449) (zDk zD_331_14_ok 41 rfl) ?_
  obtain ⟨v1450, e1450, h⟩ := zS_bind h
  refine E_ialoadX (pc := 1450) (zDk zD_331_14_ok 42 rfl) e1450 ?_
  refine E_aload_n (pc := 1451) (zDk zD_331_14_ok 43 rfl) rfl ?_
  refine E_iload_n (pc := 1452) (zDk zD_331_14_ok 44 rfl) rfl ?_
  refine E_iconst (pc := 1453) (zDk zD_331_14_ok 45 rfl) (by decide +kernel) ?_
  refine W_iadd (pc := 1454) (zDk zD_331_14_ok 46 rfl) ?_
  obtain ⟨v1455, e1455, h⟩ := zS_bind h
  refine E_ialoadX (pc := 1455) (zDk zD_331_14_ok 47 rfl) e1455 ?_
  obtain ⟨r1456_, e1456, h⟩ := zS_bind h
  refine E_virI (pc := 1456) (c := 122) (r := 0) (as := [.inl v1450, .inl v1455]) (rest := []) (zDk zD_331_14_ok 48 rfl) zc_331 (by decide +kernel) zk_122 ⟨(Nat.le_of_ble_eq_true rfl), rfl, rfl⟩ (Nat.le_of_ble_eq_true rfl) (zr_122 _) (Nat.lt_of_lt_of_le (by decide) hq) (by rw [zm_122]; exact (Nat.le_of_ble_eq_true rfl)) ⟨zc_122, by decide⟩ zis_7_0 (ok_lX_ask ⟨r1456_, e1456, ?_⟩)
  refine E_aload_n (pc := 1459) (zDk zD_331_14_ok 49 rfl) rfl ?_
  refine E_aload_n (pc := 1460) (zDk zD_331_14_ok 50 rfl) rfl ?_
  refine E_iload_n (pc := 1461) (zDk zD_331_14_ok 51 rfl) rfl ?_
  refine E_iconst (pc := 1462) (zDk zD_331_14_ok 52 rfl) (by decide +kernel) ?_
  refine W_iadd (pc := 1463) (zDk zD_331_14_ok 53 rfl) ?_
  obtain ⟨v1464, e1464, h⟩ := zS_bind h
  refine E_ialoadX (pc := 1464) (zDk zD_331_14_ok 54 rfl) e1464 ?_
  refine E_aload_n (pc := 1465) (zDk zD_331_14_ok 55 rfl) rfl ?_
  refine E_iload_n (pc := 1466) (zDk zD_331_14_ok 56 rfl) rfl ?_
  refine E_iconst (pc := 1467) (zDk zD_331_14_ok 57 rfl) (by decide +kernel) ?_
  refine W_iadd (pc := 1468) (zDk zD_331_14_ok 58 rfl) ?_
  obtain ⟨v1469, e1469, h⟩ := zS_bind h
  refine E_ialoadX (pc := 1469) (zDk zD_331_14_ok 59 rfl) e1469 ?_
  obtain ⟨r1470_, e1470, h⟩ := zS_bind h
  refine E_virI (pc := 1470) (c := 287) (r := 106) (as := [.inl v1464, .inl v1469]) (rest := [.inl r1456_.1]) (zDk zD_331_15_ok 0 rfl) zc_331 (by decide +kernel) zk_287 ⟨(Nat.le_of_ble_eq_true rfl), rfl, rfl⟩ (Nat.le_of_ble_eq_true rfl) (zr_287 _) (Nat.lt_of_lt_of_le (by decide) hq) (by rw [zm_287]; exact (Nat.le_of_ble_eq_true rfl)) ⟨zc_287, by decide⟩ zis_8_106 (ok_lm_ask ⟨r1470_, e1470, ?_⟩)
  refine E_icmp (pc := 1473) (t := 2236) (zDk zD_331_15_ok 1 rfl) rfl (fun hz => ?_) (fun hz => ?_)
  · have h := zS_t h (T_eq hz)
    refine W_iinc (pc := 2236) (L' := [some (.inr (.inr 5001)), some (.inr (.inr 0)), some (.inr (.inr 106)), some (.inl (w32 (y3 + 6)))]) (zDk zD_331_25_ok 24 rfl) rfl zm_331 (by decide) rfl ?_
    refine E_goto (pc := 2239) (t := 18) (zDk zD_331_25_ok 25 rfl) rfl ?_
    exact H18 (w32 (y3 + 6)) r1470_.2 h
  · have h := zS_f h (F_eq hz)
    refine E_iconst (pc := 1476) (zDk zD_331_15_ok 2 rfl) (by decide +kernel) ?_
    have h := zS_some h
    exact E_ireturnZ (pc := 1477) (zDk zD_331_15_ok 3 rfl) zt_331 (by decide) h
def lQ_law_c1478 (sc : zSc) (h18 : Int → (Nat → Nat → Int) → Option (Int × (Nat → Nat → Int))) (y3 : Int) (M : Nat → Nat → Int) : Option (Int × (Nat → Nat → Int)) :=
    ((rdX sc (w32 (y3 + (1 : Int)))).bind (fun v1483 =>
    ((rdX sc (w32 (y3 + (2 : Int)))).bind (fun v1488 =>
    ((lX_leaves v1483 v1488 M).bind (fun r1489_ =>
    ((rdX sc (w32 (y3 + (1 : Int)))).bind (fun v1497 =>
    ((rdX sc (w32 (y3 + (2 : Int)))).bind (fun v1502 =>
    ((lm_leaves v1497 v1502 r1489_.2).bind (fun r1503_ =>
    (if r1489_.1 = r1503_.1 then
    (h18 (w32 (y3 + 6)) r1503_.2)
    else
    (some ((0 : Int), r1503_.2)))))))))))))))
set_option maxRecDepth 100000 in
theorem ok_lQ_law_c1478 {q : Nat} {P : Option zV → (Nat → Nat → Int) → Prop} (hq : 20 ≤ q) (sc : zSc) (h18 : Int → (Nat → Nat → Int) → Option (Int × (Nat → Nat → Int))) (H18 : ∀ (y3 : Int) (M : Nat → Nat → Int), zS (h18 y3 M) (fun r => P (some (.inl r.1)) r.2) → zWp sc q 331 18 [some (.inr (.inr 5001)), some (.inr (.inr 0)), some (.inr (.inr 106)), some (.inl y3)] [] M P) : ∀ (y3 : Int) (M : Nat → Nat → Int), zS (lQ_law_c1478 sc h18 y3 M) (fun r => P (some (.inl r.1)) r.2) → zWp sc q 331 1478 [some (.inr (.inr 5001)), some (.inr (.inr 0)), some (.inr (.inr 106)), some (.inl y3)] [] M P := by
  intro y3 M h
  unfold lQ_law_c1478 at h
  refine E_aload_n (pc := 1478) (zDk zD_331_15_ok 4 rfl) rfl ?_
  refine E_aload_n (pc := 1479) (zDk zD_331_15_ok 5 rfl) rfl ?_
  refine E_iload_n (pc := 1480) (zDk zD_331_15_ok 6 rfl) rfl ?_
  refine E_iconst (pc := 1481) (zDk zD_331_15_ok 7 rfl) (by decide +kernel) ?_
  refine W_iadd (pc := 1482) (zDk zD_331_15_ok 8 rfl) ?_
  obtain ⟨v1483, e1483, h⟩ := zS_bind h
  refine E_ialoadX (pc := 1483) (zDk zD_331_15_ok 9 rfl) e1483 ?_
  refine E_aload_n (pc := 1484) (zDk zD_331_15_ok 10 rfl) rfl ?_
  refine E_iload_n (pc := 1485) (zDk zD_331_15_ok 11 rfl) rfl ?_
  refine E_iconst (pc := 1486) (zDk zD_331_15_ok 12 rfl) (by decide +kernel) ?_
  refine W_iadd (pc := 1487) (zDk zD_331_15_ok 13 rfl) ?_
  obtain ⟨v1488, e1488, h⟩ := zS_bind h
  refine E_ialoadX (pc := 1488) (zDk zD_331_15_ok 14 rfl) e1488 ?_
  obtain ⟨r1489_, e1489, h⟩ := zS_bind h
  refine E_virI (pc := 1489) (c := 123) (r := 0) (as := [.inl v1483, .inl v1488]) (rest := []) (zDk zD_331_15_ok 15 rfl) zc_331 (by decide +kernel) zk_123 ⟨(Nat.le_of_ble_eq_true rfl), rfl, rfl⟩ (Nat.le_of_ble_eq_true rfl) (zr_123 _) (Nat.lt_of_lt_of_le (by decide) hq) (by rw [zm_123]; exact (Nat.le_of_ble_eq_true rfl)) ⟨zc_123, by decide⟩ zis_7_0 (ok_lX_leaves ⟨r1489_, e1489, ?_⟩)
  refine E_aload_n (pc := 1492) (zDk zD_331_15_ok 16 rfl) rfl ?_
  refine E_aload_n (pc := 1493) (zDk zD_331_15_ok 17 rfl) rfl ?_
  refine E_iload_n (pc := 1494) (zDk zD_331_15_ok 18 rfl) rfl ?_
  refine E_iconst (pc := 1495) (zDk zD_331_15_ok 19 rfl) (by decide +kernel) ?_
  refine W_iadd (pc := 1496) (zDk zD_331_15_ok 20 rfl) ?_
  obtain ⟨v1497, e1497, h⟩ := zS_bind h
  refine E_ialoadX (pc := 1497) (zDk zD_331_15_ok 21 rfl) e1497 ?_
  refine E_aload_n (pc := 1498) (zDk zD_331_15_ok 22 rfl) rfl ?_
  refine E_iload_n (pc := 1499) (zDk zD_331_15_ok 23 rfl) rfl ?_
  refine E_iconst (pc := 1500) (zDk zD_331_15_ok 24 rfl) (by decide +kernel) ?_
  refine W_iadd (pc := 1501) (zDk zD_331_15_ok 25 rfl) ?_
  obtain ⟨v1502, e1502, h⟩ := zS_bind h
  refine E_ialoadX (pc := 1502) (zDk zD_331_15_ok 26 rfl) e1502 ?_
  obtain ⟨r1503_, e1503, h⟩ := zS_bind h
  refine E_virI (pc := 1503) (c := 288) (r := 106) (as := [.inl v1497, .inl v1502]) (rest := [.inl r1489_.1]) (zDk zD_331_15_ok 27 rfl) zc_331 (by decide +kernel) zk_288 ⟨(Nat.le_of_ble_eq_true rfl), rfl, rfl⟩ (Nat.le_of_ble_eq_true rfl) (zr_288 _) (Nat.lt_of_lt_of_le (by decide) hq) (by rw [zm_288]; exact (Nat.le_of_ble_eq_true rfl)) ⟨zc_288, by decide⟩ zis_8_106 (ok_lm_leaves ⟨r1503_, e1503, ?_⟩)
  refine E_icmp (pc := 1506) (t := 2236) (zDk zD_331_15_ok 28 rfl) rfl (fun hz => ?_) (fun hz => ?_)
  · have h := zS_t h (T_eq hz)
    refine W_iinc (pc := 2236) (L' := [some (.inr (.inr 5001)), some (.inr (.inr 0)), some (.inr (.inr 106)), some (.inl (w32 (y3 + 6)))]) (zDk zD_331_25_ok 24 rfl) rfl zm_331 (by decide) rfl ?_
    refine E_goto (pc := 2239) (t := 18) (zDk zD_331_25_ok 25 rfl) rfl ?_
    exact H18 (w32 (y3 + 6)) r1503_.2 h
  · have h := zS_f h (F_eq hz)
    refine E_iconst (pc := 1509) (zDk zD_331_15_ok 29 rfl) (by decide +kernel) ?_
    have h := zS_some h
    exact E_ireturnZ (pc := 1510) (zDk zD_331_15_ok 30 rfl) zt_331 (by decide) h
def lQ_law_c1511 (sc : zSc) (h18 : Int → (Nat → Nat → Int) → Option (Int × (Nat → Nat → Int))) (y3 : Int) (M : Nat → Nat → Int) : Option (Int × (Nat → Nat → Int)) :=
    ((rdX sc (w32 (y3 + (1 : Int)))).bind (fun v1516 =>
    ((lX_sniffs v1516 M).bind (fun v1517 =>
    ((rdX sc (w32 (y3 + (1 : Int)))).bind (fun v1525 =>
    ((lm_sniffs v1525 M).bind (fun v1526 =>
    (if v1517 = v1526 then
    (h18 (w32 (y3 + 6)) M)
    else
    (some ((0 : Int), M)))))))))))
set_option maxRecDepth 100000 in
theorem ok_lQ_law_c1511 {q : Nat} {P : Option zV → (Nat → Nat → Int) → Prop} (hq : 20 ≤ q) (sc : zSc) (h18 : Int → (Nat → Nat → Int) → Option (Int × (Nat → Nat → Int))) (H18 : ∀ (y3 : Int) (M : Nat → Nat → Int), zS (h18 y3 M) (fun r => P (some (.inl r.1)) r.2) → zWp sc q 331 18 [some (.inr (.inr 5001)), some (.inr (.inr 0)), some (.inr (.inr 106)), some (.inl y3)] [] M P) : ∀ (y3 : Int) (M : Nat → Nat → Int), zS (lQ_law_c1511 sc h18 y3 M) (fun r => P (some (.inl r.1)) r.2) → zWp sc q 331 1511 [some (.inr (.inr 5001)), some (.inr (.inr 0)), some (.inr (.inr 106)), some (.inl y3)] [] M P := by
  intro y3 M h
  unfold lQ_law_c1511 at h
  refine E_aload_n (pc := 1511) (zDk zD_331_15_ok 31 rfl) rfl ?_
  refine E_aload_n (pc := 1512) (zDk zD_331_15_ok 32 rfl) rfl ?_
  refine E_iload_n (pc := 1513) (zDk zD_331_15_ok 33 rfl) rfl ?_
  refine E_iconst (pc := 1514) (zDk zD_331_15_ok 34 rfl) (by decide +kernel) ?_
  refine W_iadd (pc := 1515) (zDk zD_331_15_ok 35 rfl) ?_
  obtain ⟨v1516, e1516, h⟩ := zS_bind h
  refine E_ialoadX (pc := 1516) (zDk zD_331_15_ok 36 rfl) e1516 ?_
  obtain ⟨v1517, e1517, h⟩ := zS_bind h
  refine E_virI (pc := 1517) (c := 124) (r := 0) (as := [.inl v1516]) (rest := []) (zDk zD_331_15_ok 37 rfl) zc_331 (by decide +kernel) zk_124 ⟨(Nat.le_of_ble_eq_true rfl), rfl, rfl⟩ (Nat.le_of_ble_eq_true rfl) (zr_124 _) (Nat.lt_of_lt_of_le (by decide) hq) (by rw [zm_124]; exact (Nat.le_of_ble_eq_true rfl)) ⟨zc_124, by decide⟩ zis_7_0 (ok_lX_sniffs ⟨v1517, e1517, ?_⟩)
  refine E_aload_n (pc := 1520) (zDk zD_331_15_ok 38 rfl) rfl ?_
  refine E_aload_n (pc := 1521) (zDk zD_331_15_ok 39 rfl) rfl ?_
  refine E_iload_n (pc := 1522) (zDk zD_331_15_ok 40 rfl) rfl ?_
  refine E_iconst (pc := 1523) (zDk zD_331_15_ok 41 rfl) (by decide +kernel) ?_
  refine W_iadd (pc := 1524) (zDk zD_331_15_ok 42 rfl) ?_
  obtain ⟨v1525, e1525, h⟩ := zS_bind h
  refine E_ialoadX (pc := 1525) (zDk zD_331_15_ok 43 rfl) e1525 ?_
  obtain ⟨v1526, e1526, h⟩ := zS_bind h
  refine E_virI (pc := 1526) (c := 289) (r := 106) (as := [.inl v1525]) (rest := [.inl v1517]) (zDk zD_331_15_ok 44 rfl) zc_331 (by decide +kernel) zk_289 ⟨(Nat.le_of_ble_eq_true rfl), rfl, rfl⟩ (Nat.le_of_ble_eq_true rfl) (zr_289 _) (Nat.lt_of_lt_of_le (by decide) hq) (by rw [zm_289]; exact (Nat.le_of_ble_eq_true rfl)) ⟨zc_289, by decide⟩ zis_8_106 (ok_lm_sniffs ⟨v1526, e1526, ?_⟩)
  refine E_icmp (pc := 1529) (t := 2236) (zDk zD_331_15_ok 45 rfl) rfl (fun hz => ?_) (fun hz => ?_)
  · have h := zS_t h (T_eq hz)
    refine W_iinc (pc := 2236) (L' := [some (.inr (.inr 5001)), some (.inr (.inr 0)), some (.inr (.inr 106)), some (.inl (w32 (y3 + 6)))]) (zDk zD_331_25_ok 24 rfl) rfl zm_331 (by decide) rfl ?_
    refine E_goto (pc := 2239) (t := 18) (zDk zD_331_25_ok 25 rfl) rfl ?_
    exact H18 (w32 (y3 + 6)) M h
  · have h := zS_f h (F_eq hz)
    refine E_iconst (pc := 1532) (zDk zD_331_15_ok 46 rfl) (by decide +kernel) ?_
    have h := zS_some h
    exact E_ireturnZ (pc := 1533) (zDk zD_331_15_ok 47 rfl) zt_331 (by decide) h
def lQ_law_c1534 (sc : zSc) (h18 : Int → (Nat → Nat → Int) → Option (Int × (Nat → Nat → Int))) (y3 : Int) (M : Nat → Nat → Int) : Option (Int × (Nat → Nat → Int)) :=
    ((rdX sc (w32 (y3 + (1 : Int)))).bind (fun v1539 =>
    ((lX_next v1539 M).bind (fun v1540 =>
    ((rdX sc (w32 (y3 + (1 : Int)))).bind (fun v1548 =>
    ((lm_next v1548 M).bind (fun v1549 =>
    (if v1540 = v1549 then
    (h18 (w32 (y3 + 6)) M)
    else
    (some ((0 : Int), M)))))))))))
set_option maxRecDepth 100000 in
theorem ok_lQ_law_c1534 {q : Nat} {P : Option zV → (Nat → Nat → Int) → Prop} (hq : 20 ≤ q) (sc : zSc) (h18 : Int → (Nat → Nat → Int) → Option (Int × (Nat → Nat → Int))) (H18 : ∀ (y3 : Int) (M : Nat → Nat → Int), zS (h18 y3 M) (fun r => P (some (.inl r.1)) r.2) → zWp sc q 331 18 [some (.inr (.inr 5001)), some (.inr (.inr 0)), some (.inr (.inr 106)), some (.inl y3)] [] M P) : ∀ (y3 : Int) (M : Nat → Nat → Int), zS (lQ_law_c1534 sc h18 y3 M) (fun r => P (some (.inl r.1)) r.2) → zWp sc q 331 1534 [some (.inr (.inr 5001)), some (.inr (.inr 0)), some (.inr (.inr 106)), some (.inl y3)] [] M P := by
  intro y3 M h
  unfold lQ_law_c1534 at h
  refine E_aload_n (pc := 1534) (zDk zD_331_15_ok 48 rfl) rfl ?_
  refine E_aload_n (pc := 1535) (zDk zD_331_15_ok 49 rfl) rfl ?_
  refine E_iload_n (pc := 1536) (zDk zD_331_15_ok 50 rfl) rfl ?_
  refine E_iconst (pc := 1537) (zDk zD_331_15_ok 51 rfl) (by decide +kernel) ?_
  refine W_iadd (pc := 1538) (zDk zD_331_15_ok 52 rfl) ?_
  obtain ⟨v1539, e1539, h⟩ := zS_bind h
  refine E_ialoadX (pc := 1539) (zDk zD_331_15_ok 53 rfl) e1539 ?_
  obtain ⟨v1540, e1540, h⟩ := zS_bind h
  refine E_virI (pc := 1540) (c := 125) (r := 0) (as := [.inl v1539]) (rest := []) (zDk zD_331_15_ok 54 rfl) zc_331 (by decide +kernel) zk_125 ⟨(Nat.le_of_ble_eq_true rfl), rfl, rfl⟩ (Nat.le_of_ble_eq_true rfl) (zr_125 _) (Nat.lt_of_lt_of_le (by decide) hq) (by rw [zm_125]; exact (Nat.le_of_ble_eq_true rfl)) ⟨zc_125, by decide⟩ zis_7_0 (ok_lX_next ⟨v1540, e1540, ?_⟩)
  refine E_aload_n (pc := 1543) (zDk zD_331_15_ok 55 rfl) rfl ?_
  refine E_aload_n (pc := 1544) (zDk zD_331_15_ok 56 rfl) rfl ?_
  refine E_iload_n (pc := 1545) (zDk zD_331_15_ok 57 rfl) rfl ?_
  refine E_iconst (pc := 1546) (zDk zD_331_15_ok 58 rfl) (by decide +kernel) ?_
  refine W_iadd (pc := 1547) (zDk zD_331_15_ok 59 rfl) ?_
  obtain ⟨v1548, e1548, h⟩ := zS_bind h
  refine E_ialoadX (pc := 1548) (zDk zD_331_16_ok 0 rfl) e1548 ?_
  obtain ⟨v1549, e1549, h⟩ := zS_bind h
  refine E_virI (pc := 1549) (c := 290) (r := 106) (as := [.inl v1548]) (rest := [.inl v1540]) (zDk zD_331_16_ok 1 rfl) zc_331 (by decide +kernel) zk_290 ⟨(Nat.le_of_ble_eq_true rfl), rfl, rfl⟩ (Nat.le_of_ble_eq_true rfl) (zr_290 _) (Nat.lt_of_lt_of_le (by decide) hq) (by rw [zm_290]; exact (Nat.le_of_ble_eq_true rfl)) ⟨zc_290, by decide⟩ zis_8_106 (ok_lm_next ⟨v1549, e1549, ?_⟩)
  refine E_icmp (pc := 1552) (t := 2236) (zDk zD_331_16_ok 2 rfl) rfl (fun hz => ?_) (fun hz => ?_)
  · have h := zS_t h (T_eq hz)
    refine W_iinc (pc := 2236) (L' := [some (.inr (.inr 5001)), some (.inr (.inr 0)), some (.inr (.inr 106)), some (.inl (w32 (y3 + 6)))]) (zDk zD_331_25_ok 24 rfl) rfl zm_331 (by decide) rfl ?_
    refine E_goto (pc := 2239) (t := 18) (zDk zD_331_25_ok 25 rfl) rfl ?_
    exact H18 (w32 (y3 + 6)) M h
  · have h := zS_f h (F_eq hz)
    refine E_iconst (pc := 1555) (zDk zD_331_16_ok 3 rfl) (by decide +kernel) ?_
    have h := zS_some h
    exact E_ireturnZ (pc := 1556) (zDk zD_331_16_ok 4 rfl) zt_331 (by decide) h
def lQ_law_c1557 (sc : zSc) (h18 : Int → (Nat → Nat → Int) → Option (Int × (Nat → Nat → Int))) (y3 : Int) (M : Nat → Nat → Int) : Option (Int × (Nat → Nat → Int)) :=
    ((rdX sc (w32 (y3 + (1 : Int)))).bind (fun v1562 =>
    ((lX_worth v1562 M).bind (fun v1563 =>
    ((rdX sc (w32 (y3 + (1 : Int)))).bind (fun v1571 =>
    ((lm_worth v1571 M).bind (fun v1572 =>
    (if v1563 = v1572 then
    (h18 (w32 (y3 + 6)) M)
    else
    (some ((0 : Int), M)))))))))))
set_option maxRecDepth 100000 in
theorem ok_lQ_law_c1557 {q : Nat} {P : Option zV → (Nat → Nat → Int) → Prop} (hq : 20 ≤ q) (sc : zSc) (h18 : Int → (Nat → Nat → Int) → Option (Int × (Nat → Nat → Int))) (H18 : ∀ (y3 : Int) (M : Nat → Nat → Int), zS (h18 y3 M) (fun r => P (some (.inl r.1)) r.2) → zWp sc q 331 18 [some (.inr (.inr 5001)), some (.inr (.inr 0)), some (.inr (.inr 106)), some (.inl y3)] [] M P) : ∀ (y3 : Int) (M : Nat → Nat → Int), zS (lQ_law_c1557 sc h18 y3 M) (fun r => P (some (.inl r.1)) r.2) → zWp sc q 331 1557 [some (.inr (.inr 5001)), some (.inr (.inr 0)), some (.inr (.inr 106)), some (.inl y3)] [] M P := by
  intro y3 M h
  unfold lQ_law_c1557 at h
  refine E_aload_n (pc := 1557) (zDk zD_331_16_ok 5 rfl) rfl ?_
  refine E_aload_n (pc := 1558) (zDk zD_331_16_ok 6 rfl) rfl ?_
  refine E_iload_n (pc := 1559) (zDk zD_331_16_ok 7 rfl) rfl ?_
  refine E_iconst (pc := 1560) (zDk zD_331_16_ok 8 rfl) (by decide +kernel) ?_
  refine W_iadd (pc := 1561) (zDk zD_331_16_ok 9 rfl) ?_
  obtain ⟨v1562, e1562, h⟩ := zS_bind h
  refine E_ialoadX (pc := 1562) (zDk zD_331_16_ok 10 rfl) e1562 ?_
  obtain ⟨v1563, e1563, h⟩ := zS_bind h
  refine E_virI (pc := 1563) (c := 126) (r := 0) (as := [.inl v1562]) (rest := []) (zDk zD_331_16_ok 11 rfl) zc_331 (by decide +kernel) zk_126 ⟨(Nat.le_of_ble_eq_true rfl), rfl, rfl⟩ (Nat.le_of_ble_eq_true rfl) (zr_126 _) (Nat.lt_of_lt_of_le (by decide) hq) (by rw [zm_126]; exact (Nat.le_of_ble_eq_true rfl)) ⟨zc_126, by decide⟩ zis_7_0 (ok_lX_worth ⟨v1563, e1563, ?_⟩)
  refine E_aload_n (pc := 1566) (zDk zD_331_16_ok 12 rfl) rfl ?_
  refine E_aload_n (pc := 1567) (zDk zD_331_16_ok 13 rfl) rfl ?_
  refine E_iload_n (pc := 1568) (zDk zD_331_16_ok 14 rfl) rfl ?_
  refine E_iconst (pc := 1569) (zDk zD_331_16_ok 15 rfl) (by decide +kernel) ?_
  refine W_iadd (pc := 1570) (zDk zD_331_16_ok 16 rfl) ?_
  obtain ⟨v1571, e1571, h⟩ := zS_bind h
  refine E_ialoadX (pc := 1571) (zDk zD_331_16_ok 17 rfl) e1571 ?_
  obtain ⟨v1572, e1572, h⟩ := zS_bind h
  refine E_virI (pc := 1572) (c := 293) (r := 106) (as := [.inl v1571]) (rest := [.inl v1563]) (zDk zD_331_16_ok 18 rfl) zc_331 (by decide +kernel) zk_293 ⟨(Nat.le_of_ble_eq_true rfl), rfl, rfl⟩ (Nat.le_of_ble_eq_true rfl) (zr_293 _) (Nat.lt_of_lt_of_le (by decide) hq) (by rw [zm_293]; exact (Nat.le_of_ble_eq_true rfl)) ⟨zc_293, by decide⟩ zis_8_106 (ok_lm_worth ⟨v1572, e1572, ?_⟩)
  refine E_icmp (pc := 1575) (t := 2236) (zDk zD_331_16_ok 19 rfl) rfl (fun hz => ?_) (fun hz => ?_)
  · have h := zS_t h (T_eq hz)
    refine W_iinc (pc := 2236) (L' := [some (.inr (.inr 5001)), some (.inr (.inr 0)), some (.inr (.inr 106)), some (.inl (w32 (y3 + 6)))]) (zDk zD_331_25_ok 24 rfl) rfl zm_331 (by decide) rfl ?_
    refine E_goto (pc := 2239) (t := 18) (zDk zD_331_25_ok 25 rfl) rfl ?_
    exact H18 (w32 (y3 + 6)) M h
  · have h := zS_f h (F_eq hz)
    refine E_iconst (pc := 1578) (zDk zD_331_16_ok 20 rfl) (by decide +kernel) ?_
    have h := zS_some h
    exact E_ireturnZ (pc := 1579) (zDk zD_331_16_ok 21 rfl) zt_331 (by decide) h
def lQ_law_c1580 (sc : zSc) (h18 : Int → (Nat → Nat → Int) → Option (Int × (Nat → Nat → Int))) (y3 : Int) (M : Nat → Nat → Int) : Option (Int × (Nat → Nat → Int)) :=
    ((rdX sc (w32 (y3 + (1 : Int)))).bind (fun v1585 =>
    ((rdX sc (w32 (y3 + (2 : Int)))).bind (fun v1590 =>
    ((lX_share v1585 v1590 M).bind (fun v1591 =>
    ((rdX sc (w32 (y3 + (1 : Int)))).bind (fun v1599 =>
    ((rdX sc (w32 (y3 + (2 : Int)))).bind (fun v1604 =>
    ((lm_share v1599 v1604 M).bind (fun v1605 =>
    (if v1591 = v1605 then
    (h18 (w32 (y3 + 6)) M)
    else
    (some ((0 : Int), M)))))))))))))))
set_option maxRecDepth 100000 in
theorem ok_lQ_law_c1580 {q : Nat} {P : Option zV → (Nat → Nat → Int) → Prop} (hq : 20 ≤ q) (sc : zSc) (h18 : Int → (Nat → Nat → Int) → Option (Int × (Nat → Nat → Int))) (H18 : ∀ (y3 : Int) (M : Nat → Nat → Int), zS (h18 y3 M) (fun r => P (some (.inl r.1)) r.2) → zWp sc q 331 18 [some (.inr (.inr 5001)), some (.inr (.inr 0)), some (.inr (.inr 106)), some (.inl y3)] [] M P) : ∀ (y3 : Int) (M : Nat → Nat → Int), zS (lQ_law_c1580 sc h18 y3 M) (fun r => P (some (.inl r.1)) r.2) → zWp sc q 331 1580 [some (.inr (.inr 5001)), some (.inr (.inr 0)), some (.inr (.inr 106)), some (.inl y3)] [] M P := by
  intro y3 M h
  unfold lQ_law_c1580 at h
  refine E_aload_n (pc := 1580) (zDk zD_331_16_ok 22 rfl) rfl ?_
  refine E_aload_n (pc := 1581) (zDk zD_331_16_ok 23 rfl) rfl ?_
  refine E_iload_n (pc := 1582) (zDk zD_331_16_ok 24 rfl) rfl ?_
  refine E_iconst (pc := 1583) (zDk zD_331_16_ok 25 rfl) (by decide +kernel) ?_
  refine W_iadd (pc := 1584) (zDk zD_331_16_ok 26 rfl) ?_
  obtain ⟨v1585, e1585, h⟩ := zS_bind h
  refine E_ialoadX (pc := 1585) (zDk zD_331_16_ok 27 rfl) e1585 ?_
  refine E_aload_n (pc := 1586) (zDk zD_331_16_ok 28 rfl) rfl ?_
  refine E_iload_n (pc := 1587) (zDk zD_331_16_ok 29 rfl) rfl ?_
  refine E_iconst (pc := 1588) (zDk zD_331_16_ok 30 rfl) (by decide +kernel) ?_
  refine W_iadd (pc := 1589) (zDk zD_331_16_ok 31 rfl) ?_
  obtain ⟨v1590, e1590, h⟩ := zS_bind h
  refine E_ialoadX (pc := 1590) (zDk zD_331_16_ok 32 rfl) e1590 ?_
  obtain ⟨v1591, e1591, h⟩ := zS_bind h
  refine E_virI (pc := 1591) (c := 127) (r := 0) (as := [.inl v1585, .inl v1590]) (rest := []) (zDk zD_331_16_ok 33 rfl) zc_331 (by decide +kernel) zk_127 ⟨(Nat.le_of_ble_eq_true rfl), rfl, rfl⟩ (Nat.le_of_ble_eq_true rfl) (zr_127 _) (Nat.lt_of_lt_of_le (by decide) hq) (by rw [zm_127]; exact (Nat.le_of_ble_eq_true rfl)) ⟨zc_127, by decide⟩ zis_7_0 (ok_lX_share ⟨v1591, e1591, ?_⟩)
  refine E_aload_n (pc := 1594) (zDk zD_331_16_ok 34 rfl) rfl ?_
  refine E_aload_n (pc := 1595) (zDk zD_331_16_ok 35 rfl) rfl ?_
  refine E_iload_n (pc := 1596) (zDk zD_331_16_ok 36 rfl) rfl ?_
  refine E_iconst (pc := 1597) (zDk zD_331_16_ok 37 rfl) (by decide +kernel) ?_
  refine W_iadd (pc := 1598) (zDk zD_331_16_ok 38 rfl) ?_
  obtain ⟨v1599, e1599, h⟩ := zS_bind h
  refine E_ialoadX (pc := 1599) (zDk zD_331_16_ok 39 rfl) e1599 ?_
  refine E_aload_n (pc := 1600) (zDk zD_331_16_ok 40 rfl) rfl ?_
  refine E_iload_n (pc := 1601) (zDk zD_331_16_ok 41 rfl) rfl ?_
  refine E_iconst (pc := 1602) (zDk zD_331_16_ok 42 rfl) (by decide +kernel) ?_
  refine W_iadd (pc := 1603) (zDk zD_331_16_ok 43 rfl) ?_
  obtain ⟨v1604, e1604, h⟩ := zS_bind h
  refine E_ialoadX (pc := 1604) (zDk zD_331_16_ok 44 rfl) e1604 ?_
  obtain ⟨v1605, e1605, h⟩ := zS_bind h
  refine E_virI (pc := 1605) (c := 297) (r := 106) (as := [.inl v1599, .inl v1604]) (rest := [.inl v1591]) (zDk zD_331_16_ok 45 rfl) zc_331 (by decide +kernel) zk_297 ⟨(Nat.le_of_ble_eq_true rfl), rfl, rfl⟩ (Nat.le_of_ble_eq_true rfl) (zr_297 _) (Nat.lt_of_lt_of_le (by decide) hq) (by rw [zm_297]; exact (Nat.le_of_ble_eq_true rfl)) ⟨zc_297, by decide⟩ zis_8_106 (ok_lm_share ⟨v1605, e1605, ?_⟩)
  refine E_icmp (pc := 1608) (t := 2236) (zDk zD_331_16_ok 46 rfl) rfl (fun hz => ?_) (fun hz => ?_)
  · have h := zS_t h (T_eq hz)
    refine W_iinc (pc := 2236) (L' := [some (.inr (.inr 5001)), some (.inr (.inr 0)), some (.inr (.inr 106)), some (.inl (w32 (y3 + 6)))]) (zDk zD_331_25_ok 24 rfl) rfl zm_331 (by decide) rfl ?_
    refine E_goto (pc := 2239) (t := 18) (zDk zD_331_25_ok 25 rfl) rfl ?_
    exact H18 (w32 (y3 + 6)) M h
  · have h := zS_f h (F_eq hz)
    refine E_iconst (pc := 1611) (zDk zD_331_16_ok 47 rfl) (by decide +kernel) ?_
    have h := zS_some h
    exact E_ireturnZ (pc := 1612) (zDk zD_331_16_ok 48 rfl) zt_331 (by decide) h
def lQ_law_c1613 (sc : zSc) (h18 : Int → (Nat → Nat → Int) → Option (Int × (Nat → Nat → Int))) (y3 : Int) (M : Nat → Nat → Int) : Option (Int × (Nat → Nat → Int)) :=
    ((rdX sc (w32 (y3 + (1 : Int)))).bind (fun v1618 =>
    ((rdX sc (w32 (y3 + (2 : Int)))).bind (fun v1623 =>
    ((lX_rests v1618 v1623 M).bind (fun r1624_ =>
    ((rdX sc (w32 (y3 + (1 : Int)))).bind (fun v1632 =>
    ((rdX sc (w32 (y3 + (2 : Int)))).bind (fun v1637 =>
    ((lm_rests v1632 v1637 r1624_.2).bind (fun r1638_ =>
    (if r1624_.1 = r1638_.1 then
    (h18 (w32 (y3 + 6)) r1638_.2)
    else
    (some ((0 : Int), r1638_.2)))))))))))))))
set_option maxRecDepth 100000 in
theorem ok_lQ_law_c1613 {q : Nat} {P : Option zV → (Nat → Nat → Int) → Prop} (hq : 20 ≤ q) (sc : zSc) (h18 : Int → (Nat → Nat → Int) → Option (Int × (Nat → Nat → Int))) (H18 : ∀ (y3 : Int) (M : Nat → Nat → Int), zS (h18 y3 M) (fun r => P (some (.inl r.1)) r.2) → zWp sc q 331 18 [some (.inr (.inr 5001)), some (.inr (.inr 0)), some (.inr (.inr 106)), some (.inl y3)] [] M P) : ∀ (y3 : Int) (M : Nat → Nat → Int), zS (lQ_law_c1613 sc h18 y3 M) (fun r => P (some (.inl r.1)) r.2) → zWp sc q 331 1613 [some (.inr (.inr 5001)), some (.inr (.inr 0)), some (.inr (.inr 106)), some (.inl y3)] [] M P := by
  intro y3 M h
  unfold lQ_law_c1613 at h
  refine E_aload_n (pc := 1613) (zDk zD_331_16_ok 49 rfl) rfl ?_
  refine E_aload_n (pc := 1614) (zDk zD_331_16_ok 50 rfl) rfl ?_
  refine E_iload_n (pc := 1615) (zDk zD_331_16_ok 51 rfl) rfl ?_
  refine E_iconst (pc := 1616) (zDk zD_331_16_ok 52 rfl) (by decide +kernel) ?_
  refine W_iadd (pc := 1617) (zDk zD_331_16_ok 53 rfl) ?_
  obtain ⟨v1618, e1618, h⟩ := zS_bind h
  refine E_ialoadX (pc := 1618) (zDk zD_331_16_ok 54 rfl) e1618 ?_
  refine E_aload_n (pc := 1619) (zDk zD_331_16_ok 55 rfl) rfl ?_
  refine E_iload_n (pc := 1620) (zDk zD_331_16_ok 56 rfl) rfl ?_
  refine E_iconst (pc := 1621) (zDk zD_331_16_ok 57 rfl) (by decide +kernel) ?_
  refine W_iadd (pc := 1622) (zDk zD_331_16_ok 58 rfl) ?_
  obtain ⟨v1623, e1623, h⟩ := zS_bind h
  refine E_ialoadX (pc := 1623) (zDk zD_331_16_ok 59 rfl) e1623 ?_
  obtain ⟨r1624_, e1624, h⟩ := zS_bind h
  refine E_virI (pc := 1624) (c := 128) (r := 0) (as := [.inl v1618, .inl v1623]) (rest := []) (zDk zD_331_17_ok 0 rfl) zc_331 (by decide +kernel) zk_128 ⟨(Nat.le_of_ble_eq_true rfl), rfl, rfl⟩ (Nat.le_of_ble_eq_true rfl) (zr_128 _) (Nat.lt_of_lt_of_le (by decide) hq) (by rw [zm_128]; exact (Nat.le_of_ble_eq_true rfl)) ⟨zc_128, by decide⟩ zis_7_0 (ok_lX_rests ⟨r1624_, e1624, ?_⟩)
  refine E_aload_n (pc := 1627) (zDk zD_331_17_ok 1 rfl) rfl ?_
  refine E_aload_n (pc := 1628) (zDk zD_331_17_ok 2 rfl) rfl ?_
  refine E_iload_n (pc := 1629) (zDk zD_331_17_ok 3 rfl) rfl ?_
  refine E_iconst (pc := 1630) (zDk zD_331_17_ok 4 rfl) (by decide +kernel) ?_
  refine W_iadd (pc := 1631) (zDk zD_331_17_ok 5 rfl) ?_
  obtain ⟨v1632, e1632, h⟩ := zS_bind h
  refine E_ialoadX (pc := 1632) (zDk zD_331_17_ok 6 rfl) e1632 ?_
  refine E_aload_n (pc := 1633) (zDk zD_331_17_ok 7 rfl) rfl ?_
  refine E_iload_n (pc := 1634) (zDk zD_331_17_ok 8 rfl) rfl ?_
  refine E_iconst (pc := 1635) (zDk zD_331_17_ok 9 rfl) (by decide +kernel) ?_
  refine W_iadd (pc := 1636) (zDk zD_331_17_ok 10 rfl) ?_
  obtain ⟨v1637, e1637, h⟩ := zS_bind h
  refine E_ialoadX (pc := 1637) (zDk zD_331_17_ok 11 rfl) e1637 ?_
  obtain ⟨r1638_, e1638, h⟩ := zS_bind h
  refine E_virI (pc := 1638) (c := 299) (r := 106) (as := [.inl v1632, .inl v1637]) (rest := [.inl r1624_.1]) (zDk zD_331_17_ok 12 rfl) zc_331 (by decide +kernel) zk_299 ⟨(Nat.le_of_ble_eq_true rfl), rfl, rfl⟩ (Nat.le_of_ble_eq_true rfl) (zr_299 _) (Nat.lt_of_lt_of_le (by decide) hq) (by rw [zm_299]; exact (Nat.le_of_ble_eq_true rfl)) ⟨zc_299, by decide⟩ zis_8_106 (ok_lm_rests ⟨r1638_, e1638, ?_⟩)
  refine E_icmp (pc := 1641) (t := 2236) (zDk zD_331_17_ok 13 rfl) rfl (fun hz => ?_) (fun hz => ?_)
  · have h := zS_t h (T_eq hz)
    refine W_iinc (pc := 2236) (L' := [some (.inr (.inr 5001)), some (.inr (.inr 0)), some (.inr (.inr 106)), some (.inl (w32 (y3 + 6)))]) (zDk zD_331_25_ok 24 rfl) rfl zm_331 (by decide) rfl ?_
    refine E_goto (pc := 2239) (t := 18) (zDk zD_331_25_ok 25 rfl) rfl ?_
    exact H18 (w32 (y3 + 6)) r1638_.2 h
  · have h := zS_f h (F_eq hz)
    refine E_iconst (pc := 1644) (zDk zD_331_17_ok 14 rfl) (by decide +kernel) ?_
    have h := zS_some h
    exact E_ireturnZ (pc := 1645) (zDk zD_331_17_ok 15 rfl) zt_331 (by decide) h
def lQ_law_c1646 (sc : zSc) (h18 : Int → (Nat → Nat → Int) → Option (Int × (Nat → Nat → Int))) (y3 : Int) (M : Nat → Nat → Int) : Option (Int × (Nat → Nat → Int)) :=
    ((rdX sc (w32 (y3 + (1 : Int)))).bind (fun v1651 =>
    ((rdX sc (w32 (y3 + (2 : Int)))).bind (fun v1656 =>
    ((rdX sc (w32 (y3 + (3 : Int)))).bind (fun v1661 =>
    ((rdX sc (w32 (y3 + (4 : Int)))).bind (fun v1666 =>
    ((lX_gets v1651 v1656 v1661 v1666 M).bind (fun r1667_ =>
    ((rdX sc (w32 (y3 + (1 : Int)))).bind (fun v1675 =>
    ((rdX sc (w32 (y3 + (2 : Int)))).bind (fun v1680 =>
    ((rdX sc (w32 (y3 + (3 : Int)))).bind (fun v1685 =>
    ((rdX sc (w32 (y3 + (4 : Int)))).bind (fun v1690 =>
    ((lm_gets v1675 v1680 v1685 v1690 r1667_.2).bind (fun r1691_ =>
    (if r1667_.1 = r1691_.1 then
    (h18 (w32 (y3 + 6)) r1691_.2)
    else
    (some ((0 : Int), r1691_.2)))))))))))))))))))))))
set_option maxRecDepth 100000 in
theorem ok_lQ_law_c1646 {q : Nat} {P : Option zV → (Nat → Nat → Int) → Prop} (hq : 20 ≤ q) (sc : zSc) (h18 : Int → (Nat → Nat → Int) → Option (Int × (Nat → Nat → Int))) (H18 : ∀ (y3 : Int) (M : Nat → Nat → Int), zS (h18 y3 M) (fun r => P (some (.inl r.1)) r.2) → zWp sc q 331 18 [some (.inr (.inr 5001)), some (.inr (.inr 0)), some (.inr (.inr 106)), some (.inl y3)] [] M P) : ∀ (y3 : Int) (M : Nat → Nat → Int), zS (lQ_law_c1646 sc h18 y3 M) (fun r => P (some (.inl r.1)) r.2) → zWp sc q 331 1646 [some (.inr (.inr 5001)), some (.inr (.inr 0)), some (.inr (.inr 106)), some (.inl y3)] [] M P := by
  intro y3 M h
  unfold lQ_law_c1646 at h
  refine E_aload_n (pc := 1646) (zDk zD_331_17_ok 16 rfl) rfl ?_
  refine E_aload_n (pc := 1647) (zDk zD_331_17_ok 17 rfl) rfl ?_
  refine E_iload_n (pc := 1648) (zDk zD_331_17_ok 18 rfl) rfl ?_
  refine E_iconst (pc := 1649) (zDk zD_331_17_ok 19 rfl) (by decide +kernel) ?_
  refine W_iadd (pc := 1650) (zDk zD_331_17_ok 20 rfl) ?_
  obtain ⟨v1651, e1651, h⟩ := zS_bind h
  refine E_ialoadX (pc := 1651) (zDk zD_331_17_ok 21 rfl) e1651 ?_
  refine E_aload_n (pc := 1652) (zDk zD_331_17_ok 22 rfl) rfl ?_
  refine E_iload_n (pc := 1653) (zDk zD_331_17_ok 23 rfl) rfl ?_
  refine E_iconst (pc := 1654) (zDk zD_331_17_ok 24 rfl) (by decide +kernel) ?_
  refine W_iadd (pc := 1655) (zDk zD_331_17_ok 25 rfl) ?_
  obtain ⟨v1656, e1656, h⟩ := zS_bind h
  refine E_ialoadX (pc := 1656) (zDk zD_331_17_ok 26 rfl) e1656 ?_
  refine E_aload_n (pc := 1657) (zDk zD_331_17_ok 27 rfl) rfl ?_
  refine E_iload_n (pc := 1658) (zDk zD_331_17_ok 28 rfl) rfl ?_
  refine E_iconst (pc := 1659) (zDk zD_331_17_ok 29 rfl) (by decide +kernel) ?_
  refine W_iadd (pc := 1660) (zDk zD_331_17_ok 30 rfl) ?_
  obtain ⟨v1661, e1661, h⟩ := zS_bind h
  refine E_ialoadX (pc := 1661) (zDk zD_331_17_ok 31 rfl) e1661 ?_
  refine E_aload_n (pc := 1662) (zDk zD_331_17_ok 32 rfl) rfl ?_
  refine E_iload_n (pc := 1663) (zDk zD_331_17_ok 33 rfl) rfl ?_
  refine E_iconst (pc := 1664) (zDk zD_331_17_ok 34 rfl) (by decide +kernel) ?_
  refine W_iadd (pc := 1665) (zDk zD_331_17_ok 35 rfl) ?_
  obtain ⟨v1666, e1666, h⟩ := zS_bind h
  refine E_ialoadX (pc := 1666) (zDk zD_331_17_ok 36 rfl) e1666 ?_
  obtain ⟨r1667_, e1667, h⟩ := zS_bind h
  refine E_virI (pc := 1667) (c := 129) (r := 0) (as := [.inl v1651, .inl v1656, .inl v1661, .inl v1666]) (rest := []) (zDk zD_331_17_ok 37 rfl) zc_331 (by decide +kernel) zk_129 ⟨(Nat.le_of_ble_eq_true rfl), rfl, rfl⟩ (Nat.le_of_ble_eq_true rfl) (zr_129 _) (Nat.lt_of_lt_of_le (by decide) hq) (by rw [zm_129]; exact (Nat.le_of_ble_eq_true rfl)) ⟨zc_129, by decide⟩ zis_7_0 (ok_lX_gets ⟨r1667_, e1667, ?_⟩)
  refine E_aload_n (pc := 1670) (zDk zD_331_17_ok 38 rfl) rfl ?_
  refine E_aload_n (pc := 1671) (zDk zD_331_17_ok 39 rfl) rfl ?_
  refine E_iload_n (pc := 1672) (zDk zD_331_17_ok 40 rfl) rfl ?_
  refine E_iconst (pc := 1673) (zDk zD_331_17_ok 41 rfl) (by decide +kernel) ?_
  refine W_iadd (pc := 1674) (zDk zD_331_17_ok 42 rfl) ?_
  obtain ⟨v1675, e1675, h⟩ := zS_bind h
  refine E_ialoadX (pc := 1675) (zDk zD_331_17_ok 43 rfl) e1675 ?_
  refine E_aload_n (pc := 1676) (zDk zD_331_17_ok 44 rfl) rfl ?_
  refine E_iload_n (pc := 1677) (zDk zD_331_17_ok 45 rfl) rfl ?_
  refine E_iconst (pc := 1678) (zDk zD_331_17_ok 46 rfl) (by decide +kernel) ?_
  refine W_iadd (pc := 1679) (zDk zD_331_17_ok 47 rfl) ?_
  obtain ⟨v1680, e1680, h⟩ := zS_bind h
  refine E_ialoadX (pc := 1680) (zDk zD_331_17_ok 48 rfl) e1680 ?_
  refine E_aload_n (pc := 1681) (zDk zD_331_17_ok 49 rfl) rfl ?_
  refine E_iload_n (pc := 1682) (zDk zD_331_17_ok 50 rfl) rfl ?_
  refine E_iconst (pc := 1683) (zDk zD_331_17_ok 51 rfl) (by decide +kernel) ?_
  refine W_iadd (pc := 1684) (zDk zD_331_17_ok 52 rfl) ?_
  obtain ⟨v1685, e1685, h⟩ := zS_bind h
  refine E_ialoadX (pc := 1685) (zDk zD_331_17_ok 53 rfl) e1685 ?_
  refine E_aload_n (pc := 1686) (zDk zD_331_17_ok 54 rfl) rfl ?_
  refine E_iload_n (pc := 1687) (zDk zD_331_17_ok 55 rfl) rfl ?_
  refine E_iconst (pc := 1688) (zDk zD_331_17_ok 56 rfl) (by decide +kernel) ?_
  refine W_iadd (pc := 1689) (zDk zD_331_17_ok 57 rfl) ?_
  obtain ⟨v1690, e1690, h⟩ := zS_bind h
  refine E_ialoadX (pc := 1690) (zDk zD_331_17_ok 58 rfl) e1690 ?_
  obtain ⟨r1691_, e1691, h⟩ := zS_bind h
  refine E_virI (pc := 1691) (c := 300) (r := 106) (as := [.inl v1675, .inl v1680, .inl v1685, .inl v1690]) (rest := [.inl r1667_.1]) (zDk zD_331_17_ok 59 rfl) zc_331 (by decide +kernel) zk_300 ⟨(Nat.le_of_ble_eq_true rfl), rfl, rfl⟩ (Nat.le_of_ble_eq_true rfl) (zr_300 _) (Nat.lt_of_lt_of_le (by decide) hq) (by rw [zm_300]; exact (Nat.le_of_ble_eq_true rfl)) ⟨zc_300, by decide⟩ zis_8_106 (ok_lm_gets ⟨r1691_, e1691, ?_⟩)
  refine E_icmp (pc := 1694) (t := 2236) (zDk zD_331_18_ok 0 rfl) rfl (fun hz => ?_) (fun hz => ?_)
  · have h := zS_t h (T_eq hz)
    refine W_iinc (pc := 2236) (L' := [some (.inr (.inr 5001)), some (.inr (.inr 0)), some (.inr (.inr 106)), some (.inl (w32 (y3 + 6)))]) (zDk zD_331_25_ok 24 rfl) rfl zm_331 (by decide) rfl ?_
    refine E_goto (pc := 2239) (t := 18) (zDk zD_331_25_ok 25 rfl) rfl ?_
    exact H18 (w32 (y3 + 6)) r1691_.2 h
  · have h := zS_f h (F_eq hz)
    refine E_iconst (pc := 1697) (zDk zD_331_18_ok 1 rfl) (by decide +kernel) ?_
    have h := zS_some h
    exact E_ireturnZ (pc := 1698) (zDk zD_331_18_ok 2 rfl) zt_331 (by decide) h
def lQ_law_c1699 (sc : zSc) (h18 : Int → (Nat → Nat → Int) → Option (Int × (Nat → Nat → Int))) (y3 : Int) (M : Nat → Nat → Int) : Option (Int × (Nat → Nat → Int)) :=
    ((rdX sc (w32 (y3 + (1 : Int)))).bind (fun v1704 =>
    ((rdX sc (w32 (y3 + (2 : Int)))).bind (fun v1709 =>
    ((rdX sc (w32 (y3 + (3 : Int)))).bind (fun v1714 =>
    ((lX_chance v1704 v1709 v1714 M).bind (fun r1715_ =>
    ((rdX sc (w32 (y3 + (1 : Int)))).bind (fun v1723 =>
    ((rdX sc (w32 (y3 + (2 : Int)))).bind (fun v1728 =>
    ((rdX sc (w32 (y3 + (3 : Int)))).bind (fun v1733 =>
    ((lm_chance v1723 v1728 v1733 r1715_.2).bind (fun r1734_ =>
    (if r1715_.1 = r1734_.1 then
    (h18 (w32 (y3 + 6)) r1734_.2)
    else
    (some ((0 : Int), r1734_.2)))))))))))))))))))
set_option maxRecDepth 100000 in
theorem ok_lQ_law_c1699 {q : Nat} {P : Option zV → (Nat → Nat → Int) → Prop} (hq : 20 ≤ q) (sc : zSc) (h18 : Int → (Nat → Nat → Int) → Option (Int × (Nat → Nat → Int))) (H18 : ∀ (y3 : Int) (M : Nat → Nat → Int), zS (h18 y3 M) (fun r => P (some (.inl r.1)) r.2) → zWp sc q 331 18 [some (.inr (.inr 5001)), some (.inr (.inr 0)), some (.inr (.inr 106)), some (.inl y3)] [] M P) : ∀ (y3 : Int) (M : Nat → Nat → Int), zS (lQ_law_c1699 sc h18 y3 M) (fun r => P (some (.inl r.1)) r.2) → zWp sc q 331 1699 [some (.inr (.inr 5001)), some (.inr (.inr 0)), some (.inr (.inr 106)), some (.inl y3)] [] M P := by
  intro y3 M h
  unfold lQ_law_c1699 at h
  refine E_aload_n (pc := 1699) (zDk zD_331_18_ok 3 rfl) rfl ?_
  refine E_aload_n (pc := 1700) (zDk zD_331_18_ok 4 rfl) rfl ?_
  refine E_iload_n (pc := 1701) (zDk zD_331_18_ok 5 rfl) rfl ?_
  refine E_iconst (pc := 1702) (zDk zD_331_18_ok 6 rfl) (by decide +kernel) ?_
  refine W_iadd (pc := 1703) (zDk zD_331_18_ok 7 rfl) ?_
  obtain ⟨v1704, e1704, h⟩ := zS_bind h
  refine E_ialoadX (pc := 1704) (zDk zD_331_18_ok 8 rfl) e1704 ?_
  refine E_aload_n (pc := 1705) (zDk zD_331_18_ok 9 rfl) rfl ?_
  refine E_iload_n (pc := 1706) (zDk zD_331_18_ok 10 rfl) rfl ?_
  refine E_iconst (pc := 1707) (zDk zD_331_18_ok 11 rfl) (by decide +kernel) ?_
  refine W_iadd (pc := 1708) (zDk zD_331_18_ok 12 rfl) ?_
  obtain ⟨v1709, e1709, h⟩ := zS_bind h
  refine E_ialoadX (pc := 1709) (zDk zD_331_18_ok 13 rfl) e1709 ?_
  refine E_aload_n (pc := 1710) (zDk zD_331_18_ok 14 rfl) rfl ?_
  refine E_iload_n (pc := 1711) (zDk zD_331_18_ok 15 rfl) rfl ?_
  refine E_iconst (pc := 1712) (zDk zD_331_18_ok 16 rfl) (by decide +kernel) ?_
  refine W_iadd (pc := 1713) (zDk zD_331_18_ok 17 rfl) ?_
  obtain ⟨v1714, e1714, h⟩ := zS_bind h
  refine E_ialoadX (pc := 1714) (zDk zD_331_18_ok 18 rfl) e1714 ?_
  obtain ⟨r1715_, e1715, h⟩ := zS_bind h
  refine E_virL (pc := 1715) (c := 130) (r := 0) (as := [.inl v1704, .inl v1709, .inl v1714]) (rest := []) (zDk zD_331_18_ok 19 rfl) zc_331 (by decide +kernel) zk_130 ⟨(Nat.le_of_ble_eq_true rfl), rfl, rfl⟩ (Nat.le_of_ble_eq_true rfl) (zr_130 _) (Nat.lt_of_lt_of_le (by decide) hq) (by rw [zm_130]; exact (Nat.le_of_ble_eq_true rfl)) ⟨zc_130, by decide⟩ zis_7_0 (ok_lX_chance ⟨r1715_, e1715, ?_⟩)
  refine E_aload_n (pc := 1718) (zDk zD_331_18_ok 20 rfl) rfl ?_
  refine E_aload_n (pc := 1719) (zDk zD_331_18_ok 21 rfl) rfl ?_
  refine E_iload_n (pc := 1720) (zDk zD_331_18_ok 22 rfl) rfl ?_
  refine E_iconst (pc := 1721) (zDk zD_331_18_ok 23 rfl) (by decide +kernel) ?_
  refine W_iadd (pc := 1722) (zDk zD_331_18_ok 24 rfl) ?_
  obtain ⟨v1723, e1723, h⟩ := zS_bind h
  refine E_ialoadX (pc := 1723) (zDk zD_331_18_ok 25 rfl) e1723 ?_
  refine E_aload_n (pc := 1724) (zDk zD_331_18_ok 26 rfl) rfl ?_
  refine E_iload_n (pc := 1725) (zDk zD_331_18_ok 27 rfl) rfl ?_
  refine E_iconst (pc := 1726) (zDk zD_331_18_ok 28 rfl) (by decide +kernel) ?_
  refine W_iadd (pc := 1727) (zDk zD_331_18_ok 29 rfl) ?_
  obtain ⟨v1728, e1728, h⟩ := zS_bind h
  refine E_ialoadX (pc := 1728) (zDk zD_331_18_ok 30 rfl) e1728 ?_
  refine E_aload_n (pc := 1729) (zDk zD_331_18_ok 31 rfl) rfl ?_
  refine E_iload_n (pc := 1730) (zDk zD_331_18_ok 32 rfl) rfl ?_
  refine E_iconst (pc := 1731) (zDk zD_331_18_ok 33 rfl) (by decide +kernel) ?_
  refine W_iadd (pc := 1732) (zDk zD_331_18_ok 34 rfl) ?_
  obtain ⟨v1733, e1733, h⟩ := zS_bind h
  refine E_ialoadX (pc := 1733) (zDk zD_331_18_ok 35 rfl) e1733 ?_
  obtain ⟨r1734_, e1734, h⟩ := zS_bind h
  refine E_virL (pc := 1734) (c := 303) (r := 106) (as := [.inl v1723, .inl v1728, .inl v1733]) (rest := [.inr (.inl r1715_.1)]) (zDk zD_331_18_ok 36 rfl) zc_331 (by decide +kernel) zk_303 ⟨(Nat.le_of_ble_eq_true rfl), rfl, rfl⟩ (Nat.le_of_ble_eq_true rfl) (zr_303 _) (Nat.lt_of_lt_of_le (by decide) hq) (by rw [zm_303]; exact (Nat.le_of_ble_eq_true rfl)) ⟨zc_303, by decide⟩ zis_8_106 (ok_lm_chance ⟨r1734_, e1734, ?_⟩)
  refine W_lcmp (pc := 1737) (zDk zD_331_18_ok 37 rfl) ?_
  refine E_if (pc := 1738) (t := 2236) (zDk zD_331_18_ok 38 rfl) rfl (fun hz => ?_) (fun hz => ?_)
  · have h := zS_t h (zlc_eq (T_eq hz))
    refine W_iinc (pc := 2236) (L' := [some (.inr (.inr 5001)), some (.inr (.inr 0)), some (.inr (.inr 106)), some (.inl (w32 (y3 + 6)))]) (zDk zD_331_25_ok 24 rfl) rfl zm_331 (by decide) rfl ?_
    refine E_goto (pc := 2239) (t := 18) (zDk zD_331_25_ok 25 rfl) rfl ?_
    exact H18 (w32 (y3 + 6)) r1734_.2 h
  · have h := zS_f h (zlc_ne (F_eq hz))
    refine E_iconst (pc := 1741) (zDk zD_331_18_ok 39 rfl) (by decide +kernel) ?_
    have h := zS_some h
    exact E_ireturnZ (pc := 1742) (zDk zD_331_18_ok 40 rfl) zt_331 (by decide) h
def lQ_law_c1743 (sc : zSc) (h18 : Int → (Nat → Nat → Int) → Option (Int × (Nat → Nat → Int))) (y3 : Int) (M : Nat → Nat → Int) : Option (Int × (Nat → Nat → Int)) :=
    ((rdX sc (w32 (y3 + (1 : Int)))).bind (fun v1748 =>
    ((rdX sc (w32 (y3 + (2 : Int)))).bind (fun v1753 =>
    ((lX_mean v1748 v1753 M).bind (fun r1754_ =>
    ((rdX sc (w32 (y3 + (1 : Int)))).bind (fun v1762 =>
    ((rdX sc (w32 (y3 + (2 : Int)))).bind (fun v1767 =>
    ((lm_mean v1762 v1767 r1754_.2).bind (fun r1768_ =>
    (if r1754_.1 = r1768_.1 then
    (h18 (w32 (y3 + 6)) r1768_.2)
    else
    (some ((0 : Int), r1768_.2)))))))))))))))
set_option maxRecDepth 100000 in
theorem ok_lQ_law_c1743 {q : Nat} {P : Option zV → (Nat → Nat → Int) → Prop} (hq : 20 ≤ q) (sc : zSc) (h18 : Int → (Nat → Nat → Int) → Option (Int × (Nat → Nat → Int))) (H18 : ∀ (y3 : Int) (M : Nat → Nat → Int), zS (h18 y3 M) (fun r => P (some (.inl r.1)) r.2) → zWp sc q 331 18 [some (.inr (.inr 5001)), some (.inr (.inr 0)), some (.inr (.inr 106)), some (.inl y3)] [] M P) : ∀ (y3 : Int) (M : Nat → Nat → Int), zS (lQ_law_c1743 sc h18 y3 M) (fun r => P (some (.inl r.1)) r.2) → zWp sc q 331 1743 [some (.inr (.inr 5001)), some (.inr (.inr 0)), some (.inr (.inr 106)), some (.inl y3)] [] M P := by
  intro y3 M h
  unfold lQ_law_c1743 at h
  refine E_aload_n (pc := 1743) (zDk zD_331_18_ok 41 rfl) rfl ?_
  refine E_aload_n (pc := 1744) (zDk zD_331_18_ok 42 rfl) rfl ?_
  refine E_iload_n (pc := 1745) (zDk zD_331_18_ok 43 rfl) rfl ?_
  refine E_iconst (pc := 1746) (zDk zD_331_18_ok 44 rfl) (by decide +kernel) ?_
  refine W_iadd (pc := 1747) (zDk zD_331_18_ok 45 rfl) ?_
  obtain ⟨v1748, e1748, h⟩ := zS_bind h
  refine E_ialoadX (pc := 1748) (zDk zD_331_18_ok 46 rfl) e1748 ?_
  refine E_aload_n (pc := 1749) (zDk zD_331_18_ok 47 rfl) rfl ?_
  refine E_iload_n (pc := 1750) (zDk zD_331_18_ok 48 rfl) rfl ?_
  refine E_iconst (pc := 1751) (zDk zD_331_18_ok 49 rfl) (by decide +kernel) ?_
  refine W_iadd (pc := 1752) (zDk zD_331_18_ok 50 rfl) ?_
  obtain ⟨v1753, e1753, h⟩ := zS_bind h
  refine E_ialoadX (pc := 1753) (zDk zD_331_18_ok 51 rfl) e1753 ?_
  obtain ⟨r1754_, e1754, h⟩ := zS_bind h
  refine E_virL (pc := 1754) (c := 131) (r := 0) (as := [.inl v1748, .inl v1753]) (rest := []) (zDk zD_331_18_ok 52 rfl) zc_331 (by decide +kernel) zk_131 ⟨(Nat.le_of_ble_eq_true rfl), rfl, rfl⟩ (Nat.le_of_ble_eq_true rfl) (zr_131 _) (Nat.lt_of_lt_of_le (by decide) hq) (by rw [zm_131]; exact (Nat.le_of_ble_eq_true rfl)) ⟨zc_131, by decide⟩ zis_7_0 (ok_lX_mean ⟨r1754_, e1754, ?_⟩)
  refine E_aload_n (pc := 1757) (zDk zD_331_18_ok 53 rfl) rfl ?_
  refine E_aload_n (pc := 1758) (zDk zD_331_18_ok 54 rfl) rfl ?_
  refine E_iload_n (pc := 1759) (zDk zD_331_18_ok 55 rfl) rfl ?_
  refine E_iconst (pc := 1760) (zDk zD_331_18_ok 56 rfl) (by decide +kernel) ?_
  refine W_iadd (pc := 1761) (zDk zD_331_18_ok 57 rfl) ?_
  obtain ⟨v1762, e1762, h⟩ := zS_bind h
  refine E_ialoadX (pc := 1762) (zDk zD_331_18_ok 58 rfl) e1762 ?_
  refine E_aload_n (pc := 1763) (zDk zD_331_18_ok 59 rfl) rfl ?_
  refine E_iload_n (pc := 1764) (zDk zD_331_19_ok 0 rfl) rfl ?_
  refine E_iconst (pc := 1765) (zDk zD_331_19_ok 1 rfl) (by decide +kernel) ?_
  refine W_iadd (pc := 1766) (zDk zD_331_19_ok 2 rfl) ?_
  obtain ⟨v1767, e1767, h⟩ := zS_bind h
  refine E_ialoadX (pc := 1767) (zDk zD_331_19_ok 3 rfl) e1767 ?_
  obtain ⟨r1768_, e1768, h⟩ := zS_bind h
  refine E_virL (pc := 1768) (c := 304) (r := 106) (as := [.inl v1762, .inl v1767]) (rest := [.inr (.inl r1754_.1)]) (zDk zD_331_19_ok 4 rfl) zc_331 (by decide +kernel) zk_304 ⟨(Nat.le_of_ble_eq_true rfl), rfl, rfl⟩ (Nat.le_of_ble_eq_true rfl) (zr_304 _) (Nat.lt_of_lt_of_le (by decide) hq) (by rw [zm_304]; exact (Nat.le_of_ble_eq_true rfl)) ⟨zc_304, by decide⟩ zis_8_106 (ok_lm_mean ⟨r1768_, e1768, ?_⟩)
  refine W_lcmp (pc := 1771) (zDk zD_331_19_ok 5 rfl) ?_
  refine E_if (pc := 1772) (t := 2236) (zDk zD_331_19_ok 6 rfl) rfl (fun hz => ?_) (fun hz => ?_)
  · have h := zS_t h (zlc_eq (T_eq hz))
    refine W_iinc (pc := 2236) (L' := [some (.inr (.inr 5001)), some (.inr (.inr 0)), some (.inr (.inr 106)), some (.inl (w32 (y3 + 6)))]) (zDk zD_331_25_ok 24 rfl) rfl zm_331 (by decide) rfl ?_
    refine E_goto (pc := 2239) (t := 18) (zDk zD_331_25_ok 25 rfl) rfl ?_
    exact H18 (w32 (y3 + 6)) r1768_.2 h
  · have h := zS_f h (zlc_ne (F_eq hz))
    refine E_iconst (pc := 1775) (zDk zD_331_19_ok 7 rfl) (by decide +kernel) ?_
    have h := zS_some h
    exact E_ireturnZ (pc := 1776) (zDk zD_331_19_ok 8 rfl) zt_331 (by decide) h
def lQ_law_c1777 (sc : zSc) (h18 : Int → (Nat → Nat → Int) → Option (Int × (Nat → Nat → Int))) (y3 : Int) (M : Nat → Nat → Int) : Option (Int × (Nat → Nat → Int)) :=
    ((rdX sc (w32 (y3 + (1 : Int)))).bind (fun v1782 =>
    ((rdX sc (w32 (y3 + (2 : Int)))).bind (fun v1787 =>
    ((rdX sc (w32 (y3 + (3 : Int)))).bind (fun v1792 =>
    ((lX_send v1782 v1787 v1792 M).bind (fun r1793_ =>
    ((rdX sc (w32 (y3 + (1 : Int)))).bind (fun v1801 =>
    ((rdX sc (w32 (y3 + (2 : Int)))).bind (fun v1806 =>
    ((rdX sc (w32 (y3 + (3 : Int)))).bind (fun v1811 =>
    ((lm_send v1801 v1806 v1811 r1793_.2).bind (fun r1812_ =>
    (if r1793_.1 = r1812_.1 then
    (h18 (w32 (y3 + 6)) r1812_.2)
    else
    (some ((0 : Int), r1812_.2)))))))))))))))))))
set_option maxRecDepth 100000 in
theorem ok_lQ_law_c1777 {q : Nat} {P : Option zV → (Nat → Nat → Int) → Prop} (hq : 20 ≤ q) (sc : zSc) (h18 : Int → (Nat → Nat → Int) → Option (Int × (Nat → Nat → Int))) (H18 : ∀ (y3 : Int) (M : Nat → Nat → Int), zS (h18 y3 M) (fun r => P (some (.inl r.1)) r.2) → zWp sc q 331 18 [some (.inr (.inr 5001)), some (.inr (.inr 0)), some (.inr (.inr 106)), some (.inl y3)] [] M P) : ∀ (y3 : Int) (M : Nat → Nat → Int), zS (lQ_law_c1777 sc h18 y3 M) (fun r => P (some (.inl r.1)) r.2) → zWp sc q 331 1777 [some (.inr (.inr 5001)), some (.inr (.inr 0)), some (.inr (.inr 106)), some (.inl y3)] [] M P := by
  intro y3 M h
  unfold lQ_law_c1777 at h
  refine E_aload_n (pc := 1777) (zDk zD_331_19_ok 9 rfl) rfl ?_
  refine E_aload_n (pc := 1778) (zDk zD_331_19_ok 10 rfl) rfl ?_
  refine E_iload_n (pc := 1779) (zDk zD_331_19_ok 11 rfl) rfl ?_
  refine E_iconst (pc := 1780) (zDk zD_331_19_ok 12 rfl) (by decide +kernel) ?_
  refine W_iadd (pc := 1781) (zDk zD_331_19_ok 13 rfl) ?_
  obtain ⟨v1782, e1782, h⟩ := zS_bind h
  refine E_ialoadX (pc := 1782) (zDk zD_331_19_ok 14 rfl) e1782 ?_
  refine E_aload_n (pc := 1783) (zDk zD_331_19_ok 15 rfl) rfl ?_
  refine E_iload_n (pc := 1784) (zDk zD_331_19_ok 16 rfl) rfl ?_
  refine E_iconst (pc := 1785) (zDk zD_331_19_ok 17 rfl) (by decide +kernel) ?_
  refine W_iadd (pc := 1786) (zDk zD_331_19_ok 18 rfl) ?_
  obtain ⟨v1787, e1787, h⟩ := zS_bind h
  refine E_ialoadX (pc := 1787) (zDk zD_331_19_ok 19 rfl) e1787 ?_
  refine E_aload_n (pc := 1788) (zDk zD_331_19_ok 20 rfl) rfl ?_
  refine E_iload_n (pc := 1789) (zDk zD_331_19_ok 21 rfl) rfl ?_
  refine E_iconst (pc := 1790) (zDk zD_331_19_ok 22 rfl) (by decide +kernel) ?_
  refine W_iadd (pc := 1791) (zDk zD_331_19_ok 23 rfl) ?_
  obtain ⟨v1792, e1792, h⟩ := zS_bind h
  refine E_ialoadX (pc := 1792) (zDk zD_331_19_ok 24 rfl) e1792 ?_
  obtain ⟨r1793_, e1793, h⟩ := zS_bind h
  refine E_virI (pc := 1793) (c := 132) (r := 0) (as := [.inl v1782, .inl v1787, .inl v1792]) (rest := []) (zDk zD_331_19_ok 25 rfl) zc_331 (by decide +kernel) zk_132 ⟨(Nat.le_of_ble_eq_true rfl), rfl, rfl⟩ (Nat.le_of_ble_eq_true rfl) (zr_132 _) (Nat.lt_of_lt_of_le (by decide) hq) (by rw [zm_132]; exact (Nat.le_of_ble_eq_true rfl)) ⟨zc_132, by decide⟩ zis_7_0 (ok_lX_send ⟨r1793_, e1793, ?_⟩)
  refine E_aload_n (pc := 1796) (zDk zD_331_19_ok 26 rfl) rfl ?_
  refine E_aload_n (pc := 1797) (zDk zD_331_19_ok 27 rfl) rfl ?_
  refine E_iload_n (pc := 1798) (zDk zD_331_19_ok 28 rfl) rfl ?_
  refine E_iconst (pc := 1799) (zDk zD_331_19_ok 29 rfl) (by decide +kernel) ?_
  refine W_iadd (pc := 1800) (zDk zD_331_19_ok 30 rfl) ?_
  obtain ⟨v1801, e1801, h⟩ := zS_bind h
  refine E_ialoadX (pc := 1801) (zDk zD_331_19_ok 31 rfl) e1801 ?_
  refine E_aload_n (pc := 1802) (zDk zD_331_19_ok 32 rfl) rfl ?_
  refine E_iload_n (pc := 1803) (zDk zD_331_19_ok 33 rfl) rfl ?_
  refine E_iconst (pc := 1804) (zDk zD_331_19_ok 34 rfl) (by decide +kernel) ?_
  refine W_iadd (pc := 1805) (zDk zD_331_19_ok 35 rfl) ?_
  obtain ⟨v1806, e1806, h⟩ := zS_bind h
  refine E_ialoadX (pc := 1806) (zDk zD_331_19_ok 36 rfl) e1806 ?_
  refine E_aload_n (pc := 1807) (zDk zD_331_19_ok 37 rfl) rfl ?_
  refine E_iload_n (pc := 1808) (zDk zD_331_19_ok 38 rfl) rfl ?_
  refine E_iconst (pc := 1809) (zDk zD_331_19_ok 39 rfl) (by decide +kernel) ?_
  refine W_iadd (pc := 1810) (zDk zD_331_19_ok 40 rfl) ?_
  obtain ⟨v1811, e1811, h⟩ := zS_bind h
  refine E_ialoadX (pc := 1811) (zDk zD_331_19_ok 41 rfl) e1811 ?_
  obtain ⟨r1812_, e1812, h⟩ := zS_bind h
  refine E_virI (pc := 1812) (c := 306) (r := 106) (as := [.inl v1801, .inl v1806, .inl v1811]) (rest := [.inl r1793_.1]) (zDk zD_331_19_ok 42 rfl) zc_331 (by decide +kernel) zk_306 ⟨(Nat.le_of_ble_eq_true rfl), rfl, rfl⟩ (Nat.le_of_ble_eq_true rfl) (zr_306 _) (Nat.lt_of_lt_of_le (by decide) hq) (by rw [zm_306]; exact (Nat.le_of_ble_eq_true rfl)) ⟨zc_306, by decide⟩ zis_8_106 (ok_lm_send ⟨r1812_, e1812, ?_⟩)
  refine E_icmp (pc := 1815) (t := 2236) (zDk zD_331_19_ok 43 rfl) rfl (fun hz => ?_) (fun hz => ?_)
  · have h := zS_t h (T_eq hz)
    refine W_iinc (pc := 2236) (L' := [some (.inr (.inr 5001)), some (.inr (.inr 0)), some (.inr (.inr 106)), some (.inl (w32 (y3 + 6)))]) (zDk zD_331_25_ok 24 rfl) rfl zm_331 (by decide) rfl ?_
    refine E_goto (pc := 2239) (t := 18) (zDk zD_331_25_ok 25 rfl) rfl ?_
    exact H18 (w32 (y3 + 6)) r1812_.2 h
  · have h := zS_f h (F_eq hz)
    refine E_iconst (pc := 1818) (zDk zD_331_19_ok 44 rfl) (by decide +kernel) ?_
    have h := zS_some h
    exact E_ireturnZ (pc := 1819) (zDk zD_331_19_ok 45 rfl) zt_331 (by decide) h
def lQ_law_c1820 (sc : zSc) (h18 : Int → (Nat → Nat → Int) → Option (Int × (Nat → Nat → Int))) (y3 : Int) (M : Nat → Nat → Int) : Option (Int × (Nat → Nat → Int)) :=
    ((rdX sc (w32 (y3 + (1 : Int)))).bind (fun v1825 =>
    ((rdX sc (w32 (y3 + (2 : Int)))).bind (fun v1830 =>
    ((lX_close v1825 v1830 M).bind (fun r1831_ =>
    ((rdX sc (w32 (y3 + (1 : Int)))).bind (fun v1839 =>
    ((rdX sc (w32 (y3 + (2 : Int)))).bind (fun v1844 =>
    ((lm_close v1839 v1844 r1831_.2).bind (fun r1845_ =>
    (if r1831_.1 = r1845_.1 then
    (h18 (w32 (y3 + 6)) r1845_.2)
    else
    (some ((0 : Int), r1845_.2)))))))))))))))
set_option maxRecDepth 100000 in
theorem ok_lQ_law_c1820 {q : Nat} {P : Option zV → (Nat → Nat → Int) → Prop} (hq : 20 ≤ q) (sc : zSc) (h18 : Int → (Nat → Nat → Int) → Option (Int × (Nat → Nat → Int))) (H18 : ∀ (y3 : Int) (M : Nat → Nat → Int), zS (h18 y3 M) (fun r => P (some (.inl r.1)) r.2) → zWp sc q 331 18 [some (.inr (.inr 5001)), some (.inr (.inr 0)), some (.inr (.inr 106)), some (.inl y3)] [] M P) : ∀ (y3 : Int) (M : Nat → Nat → Int), zS (lQ_law_c1820 sc h18 y3 M) (fun r => P (some (.inl r.1)) r.2) → zWp sc q 331 1820 [some (.inr (.inr 5001)), some (.inr (.inr 0)), some (.inr (.inr 106)), some (.inl y3)] [] M P := by
  intro y3 M h
  unfold lQ_law_c1820 at h
  refine E_aload_n (pc := 1820) (zDk zD_331_19_ok 46 rfl) rfl ?_
  refine E_aload_n (pc := 1821) (zDk zD_331_19_ok 47 rfl) rfl ?_
  refine E_iload_n (pc := 1822) (zDk zD_331_19_ok 48 rfl) rfl ?_
  refine E_iconst (pc := 1823) (zDk zD_331_19_ok 49 rfl) (by decide +kernel) ?_
  refine W_iadd (pc := 1824) (zDk zD_331_19_ok 50 rfl) ?_
  obtain ⟨v1825, e1825, h⟩ := zS_bind h
  refine E_ialoadX (pc := 1825) (zDk zD_331_19_ok 51 rfl) e1825 ?_
  refine E_aload_n (pc := 1826) (zDk zD_331_19_ok 52 rfl) rfl ?_
  refine E_iload_n (pc := 1827) (zDk zD_331_19_ok 53 rfl) rfl ?_
  refine E_iconst (pc := 1828) (zDk zD_331_19_ok 54 rfl) (by decide +kernel) ?_
  refine W_iadd (pc := 1829) (zDk zD_331_19_ok 55 rfl) ?_
  obtain ⟨v1830, e1830, h⟩ := zS_bind h
  refine E_ialoadX (pc := 1830) (zDk zD_331_19_ok 56 rfl) e1830 ?_
  obtain ⟨r1831_, e1831, h⟩ := zS_bind h
  refine E_virI (pc := 1831) (c := 133) (r := 0) (as := [.inl v1825, .inl v1830]) (rest := []) (zDk zD_331_19_ok 57 rfl) zc_331 (by decide +kernel) zk_133 ⟨(Nat.le_of_ble_eq_true rfl), rfl, rfl⟩ (Nat.le_of_ble_eq_true rfl) (zr_133 _) (Nat.lt_of_lt_of_le (by decide) hq) (by rw [zm_133]; exact (Nat.le_of_ble_eq_true rfl)) ⟨zc_133, by decide⟩ zis_7_0 (ok_lX_close ⟨r1831_, e1831, ?_⟩)
  refine E_aload_n (pc := 1834) (zDk zD_331_19_ok 58 rfl) rfl ?_
  refine E_aload_n (pc := 1835) (zDk zD_331_19_ok 59 rfl) rfl ?_
  refine E_iload_n (pc := 1836) (zDk zD_331_20_ok 0 rfl) rfl ?_
  refine E_iconst (pc := 1837) (zDk zD_331_20_ok 1 rfl) (by decide +kernel) ?_
  refine W_iadd (pc := 1838) (zDk zD_331_20_ok 2 rfl) ?_
  obtain ⟨v1839, e1839, h⟩ := zS_bind h
  refine E_ialoadX (pc := 1839) (zDk zD_331_20_ok 3 rfl) e1839 ?_
  refine E_aload_n (pc := 1840) (zDk zD_331_20_ok 4 rfl) rfl ?_
  refine E_iload_n (pc := 1841) (zDk zD_331_20_ok 5 rfl) rfl ?_
  refine E_iconst (pc := 1842) (zDk zD_331_20_ok 6 rfl) (by decide +kernel) ?_
  refine W_iadd (pc := 1843) (zDk zD_331_20_ok 7 rfl) ?_
  obtain ⟨v1844, e1844, h⟩ := zS_bind h
  refine E_ialoadX (pc := 1844) (zDk zD_331_20_ok 8 rfl) e1844 ?_
  obtain ⟨r1845_, e1845, h⟩ := zS_bind h
  refine E_virI (pc := 1845) (c := 307) (r := 106) (as := [.inl v1839, .inl v1844]) (rest := [.inl r1831_.1]) (zDk zD_331_20_ok 9 rfl) zc_331 (by decide +kernel) zk_307 ⟨(Nat.le_of_ble_eq_true rfl), rfl, rfl⟩ (Nat.le_of_ble_eq_true rfl) (zr_307 _) (Nat.lt_of_lt_of_le (by decide) hq) (by rw [zm_307]; exact (Nat.le_of_ble_eq_true rfl)) ⟨zc_307, by decide⟩ zis_8_106 (ok_lm_close ⟨r1845_, e1845, ?_⟩)
  refine E_icmp (pc := 1848) (t := 2236) (zDk zD_331_20_ok 10 rfl) rfl (fun hz => ?_) (fun hz => ?_)
  · have h := zS_t h (T_eq hz)
    refine W_iinc (pc := 2236) (L' := [some (.inr (.inr 5001)), some (.inr (.inr 0)), some (.inr (.inr 106)), some (.inl (w32 (y3 + 6)))]) (zDk zD_331_25_ok 24 rfl) rfl zm_331 (by decide) rfl ?_
    refine E_goto (pc := 2239) (t := 18) (zDk zD_331_25_ok 25 rfl) rfl ?_
    exact H18 (w32 (y3 + 6)) r1845_.2 h
  · have h := zS_f h (F_eq hz)
    refine E_iconst (pc := 1851) (zDk zD_331_20_ok 11 rfl) (by decide +kernel) ?_
    have h := zS_some h
    exact E_ireturnZ (pc := 1852) (zDk zD_331_20_ok 12 rfl) zt_331 (by decide) h
def lQ_law_c1853 (sc : zSc) (h18 : Int → (Nat → Nat → Int) → Option (Int × (Nat → Nat → Int))) (y3 : Int) (M : Nat → Nat → Int) : Option (Int × (Nat → Nat → Int)) :=
    ((lX_undo M).bind (fun r1854_ =>
    ((lm_undo r1854_.2).bind (fun r1858_ =>
    (if r1854_.1 = r1858_.1 then
    (h18 (w32 (y3 + 6)) r1858_.2)
    else
    (some ((0 : Int), r1858_.2)))))))
set_option maxRecDepth 100000 in
theorem ok_lQ_law_c1853 {q : Nat} {P : Option zV → (Nat → Nat → Int) → Prop} (hq : 20 ≤ q) (sc : zSc) (h18 : Int → (Nat → Nat → Int) → Option (Int × (Nat → Nat → Int))) (H18 : ∀ (y3 : Int) (M : Nat → Nat → Int), zS (h18 y3 M) (fun r => P (some (.inl r.1)) r.2) → zWp sc q 331 18 [some (.inr (.inr 5001)), some (.inr (.inr 0)), some (.inr (.inr 106)), some (.inl y3)] [] M P) : ∀ (y3 : Int) (M : Nat → Nat → Int), zS (lQ_law_c1853 sc h18 y3 M) (fun r => P (some (.inl r.1)) r.2) → zWp sc q 331 1853 [some (.inr (.inr 5001)), some (.inr (.inr 0)), some (.inr (.inr 106)), some (.inl y3)] [] M P := by
  intro y3 M h
  unfold lQ_law_c1853 at h
  refine E_aload_n (pc := 1853) (zDk zD_331_20_ok 13 rfl) rfl ?_
  obtain ⟨r1854_, e1854, h⟩ := zS_bind h
  refine E_virI (pc := 1854) (c := 134) (r := 0) (as := []) (rest := []) (zDk zD_331_20_ok 14 rfl) zc_331 (by decide +kernel) zk_134 ⟨(Nat.le_of_ble_eq_true rfl), rfl, rfl⟩ (Nat.le_of_ble_eq_true rfl) (zr_134 _) (Nat.lt_of_lt_of_le (by decide) hq) (by rw [zm_134]; exact (Nat.le_of_ble_eq_true rfl)) ⟨zc_134, by decide⟩ zis_7_0 (ok_lX_undo ⟨r1854_, e1854, ?_⟩)
  refine E_aload_n (pc := 1857) (zDk zD_331_20_ok 15 rfl) rfl ?_
  obtain ⟨r1858_, e1858, h⟩ := zS_bind h
  refine E_virI (pc := 1858) (c := 308) (r := 106) (as := []) (rest := [.inl r1854_.1]) (zDk zD_331_20_ok 16 rfl) zc_331 (by decide +kernel) zk_308 ⟨(Nat.le_of_ble_eq_true rfl), rfl, rfl⟩ (Nat.le_of_ble_eq_true rfl) (zr_308 _) (Nat.lt_of_lt_of_le (by decide) hq) (by rw [zm_308]; exact (Nat.le_of_ble_eq_true rfl)) ⟨zc_308, by decide⟩ zis_8_106 (ok_lm_undo ⟨r1858_, e1858, ?_⟩)
  refine E_icmp (pc := 1861) (t := 2236) (zDk zD_331_20_ok 17 rfl) rfl (fun hz => ?_) (fun hz => ?_)
  · have h := zS_t h (T_eq hz)
    refine W_iinc (pc := 2236) (L' := [some (.inr (.inr 5001)), some (.inr (.inr 0)), some (.inr (.inr 106)), some (.inl (w32 (y3 + 6)))]) (zDk zD_331_25_ok 24 rfl) rfl zm_331 (by decide) rfl ?_
    refine E_goto (pc := 2239) (t := 18) (zDk zD_331_25_ok 25 rfl) rfl ?_
    exact H18 (w32 (y3 + 6)) r1858_.2 h
  · have h := zS_f h (F_eq hz)
    refine E_iconst (pc := 1864) (zDk zD_331_20_ok 18 rfl) (by decide +kernel) ?_
    have h := zS_some h
    exact E_ireturnZ (pc := 1865) (zDk zD_331_20_ok 19 rfl) zt_331 (by decide) h
def lQ_law_c1866 (sc : zSc) (h18 : Int → (Nat → Nat → Int) → Option (Int × (Nat → Nat → Int))) (y3 : Int) (M : Nat → Nat → Int) : Option (Int × (Nat → Nat → Int)) :=
    ((lX_anew M).bind (fun r1867_ =>
    ((lm_anew r1867_.2).bind (fun r1871_ =>
    (if r1867_.1 = r1871_.1 then
    (h18 (w32 (y3 + 6)) r1871_.2)
    else
    (some ((0 : Int), r1871_.2)))))))
set_option maxRecDepth 100000 in
theorem ok_lQ_law_c1866 {q : Nat} {P : Option zV → (Nat → Nat → Int) → Prop} (hq : 20 ≤ q) (sc : zSc) (h18 : Int → (Nat → Nat → Int) → Option (Int × (Nat → Nat → Int))) (H18 : ∀ (y3 : Int) (M : Nat → Nat → Int), zS (h18 y3 M) (fun r => P (some (.inl r.1)) r.2) → zWp sc q 331 18 [some (.inr (.inr 5001)), some (.inr (.inr 0)), some (.inr (.inr 106)), some (.inl y3)] [] M P) : ∀ (y3 : Int) (M : Nat → Nat → Int), zS (lQ_law_c1866 sc h18 y3 M) (fun r => P (some (.inl r.1)) r.2) → zWp sc q 331 1866 [some (.inr (.inr 5001)), some (.inr (.inr 0)), some (.inr (.inr 106)), some (.inl y3)] [] M P := by
  intro y3 M h
  unfold lQ_law_c1866 at h
  refine E_aload_n (pc := 1866) (zDk zD_331_20_ok 20 rfl) rfl ?_
  obtain ⟨r1867_, e1867, h⟩ := zS_bind h
  refine E_virI (pc := 1867) (c := 135) (r := 0) (as := []) (rest := []) (zDk zD_331_20_ok 21 rfl) zc_331 (by decide +kernel) zk_135 ⟨(Nat.le_of_ble_eq_true rfl), rfl, rfl⟩ (Nat.le_of_ble_eq_true rfl) (zr_135 _) (Nat.lt_of_lt_of_le (by decide) hq) (by rw [zm_135]; exact (Nat.le_of_ble_eq_true rfl)) ⟨zc_135, by decide⟩ zis_7_0 (ok_lX_anew ⟨r1867_, e1867, ?_⟩)
  refine E_aload_n (pc := 1870) (zDk zD_331_20_ok 22 rfl) rfl ?_
  obtain ⟨r1871_, e1871, h⟩ := zS_bind h
  refine E_virI (pc := 1871) (c := 309) (r := 106) (as := []) (rest := [.inl r1867_.1]) (zDk zD_331_20_ok 23 rfl) zc_331 (by decide +kernel) zk_309 ⟨(Nat.le_of_ble_eq_true rfl), rfl, rfl⟩ (Nat.le_of_ble_eq_true rfl) (zr_309 _) (Nat.lt_of_lt_of_le (by decide) hq) (by rw [zm_309]; exact (Nat.le_of_ble_eq_true rfl)) ⟨zc_309, by decide⟩ zis_8_106 (ok_lm_anew ⟨r1871_, e1871, ?_⟩)
  refine E_icmp (pc := 1874) (t := 2236) (zDk zD_331_20_ok 24 rfl) rfl (fun hz => ?_) (fun hz => ?_)
  · have h := zS_t h (T_eq hz)
    refine W_iinc (pc := 2236) (L' := [some (.inr (.inr 5001)), some (.inr (.inr 0)), some (.inr (.inr 106)), some (.inl (w32 (y3 + 6)))]) (zDk zD_331_25_ok 24 rfl) rfl zm_331 (by decide) rfl ?_
    refine E_goto (pc := 2239) (t := 18) (zDk zD_331_25_ok 25 rfl) rfl ?_
    exact H18 (w32 (y3 + 6)) r1871_.2 h
  · have h := zS_f h (F_eq hz)
    refine E_iconst (pc := 1877) (zDk zD_331_20_ok 25 rfl) (by decide +kernel) ?_
    have h := zS_some h
    exact E_ireturnZ (pc := 1878) (zDk zD_331_20_ok 26 rfl) zt_331 (by decide) h
def lQ_law_c1879 (sc : zSc) (h18 : Int → (Nat → Nat → Int) → Option (Int × (Nat → Nat → Int))) (y3 : Int) (M : Nat → Nat → Int) : Option (Int × (Nat → Nat → Int)) :=
    ((rdX sc (w32 (y3 + (1 : Int)))).bind (fun v1884 =>
    ((rdX sc (w32 (y3 + (2 : Int)))).bind (fun v1889 =>
    ((lX_drawn v1884 v1889 M).bind (fun r1890_ =>
    ((rdX sc (w32 (y3 + (1 : Int)))).bind (fun v1898 =>
    ((rdX sc (w32 (y3 + (2 : Int)))).bind (fun v1903 =>
    ((lm_drawn v1898 v1903 r1890_.2).bind (fun r1904_ =>
    (if r1890_.1 = r1904_.1 then
    (h18 (w32 (y3 + 6)) r1904_.2)
    else
    (some ((0 : Int), r1904_.2)))))))))))))))
set_option maxRecDepth 100000 in
theorem ok_lQ_law_c1879 {q : Nat} {P : Option zV → (Nat → Nat → Int) → Prop} (hq : 20 ≤ q) (sc : zSc) (h18 : Int → (Nat → Nat → Int) → Option (Int × (Nat → Nat → Int))) (H18 : ∀ (y3 : Int) (M : Nat → Nat → Int), zS (h18 y3 M) (fun r => P (some (.inl r.1)) r.2) → zWp sc q 331 18 [some (.inr (.inr 5001)), some (.inr (.inr 0)), some (.inr (.inr 106)), some (.inl y3)] [] M P) : ∀ (y3 : Int) (M : Nat → Nat → Int), zS (lQ_law_c1879 sc h18 y3 M) (fun r => P (some (.inl r.1)) r.2) → zWp sc q 331 1879 [some (.inr (.inr 5001)), some (.inr (.inr 0)), some (.inr (.inr 106)), some (.inl y3)] [] M P := by
  intro y3 M h
  unfold lQ_law_c1879 at h
  refine E_aload_n (pc := 1879) (zDk zD_331_20_ok 27 rfl) rfl ?_
  refine E_aload_n (pc := 1880) (zDk zD_331_20_ok 28 rfl) rfl ?_
  refine E_iload_n (pc := 1881) (zDk zD_331_20_ok 29 rfl) rfl ?_
  refine E_iconst (pc := 1882) (zDk zD_331_20_ok 30 rfl) (by decide +kernel) ?_
  refine W_iadd (pc := 1883) (zDk zD_331_20_ok 31 rfl) ?_
  obtain ⟨v1884, e1884, h⟩ := zS_bind h
  refine E_ialoadX (pc := 1884) (zDk zD_331_20_ok 32 rfl) e1884 ?_
  refine E_aload_n (pc := 1885) (zDk zD_331_20_ok 33 rfl) rfl ?_
  refine E_iload_n (pc := 1886) (zDk zD_331_20_ok 34 rfl) rfl ?_
  refine E_iconst (pc := 1887) (zDk zD_331_20_ok 35 rfl) (by decide +kernel) ?_
  refine W_iadd (pc := 1888) (zDk zD_331_20_ok 36 rfl) ?_
  obtain ⟨v1889, e1889, h⟩ := zS_bind h
  refine E_ialoadX (pc := 1889) (zDk zD_331_20_ok 37 rfl) e1889 ?_
  obtain ⟨r1890_, e1890, h⟩ := zS_bind h
  refine E_virI (pc := 1890) (c := 136) (r := 0) (as := [.inl v1884, .inl v1889]) (rest := []) (zDk zD_331_20_ok 38 rfl) zc_331 (by decide +kernel) zk_136 ⟨(Nat.le_of_ble_eq_true rfl), rfl, rfl⟩ (Nat.le_of_ble_eq_true rfl) (zr_136 _) (Nat.lt_of_lt_of_le (by decide) hq) (by rw [zm_136]; exact (Nat.le_of_ble_eq_true rfl)) ⟨zc_136, by decide⟩ zis_7_0 (ok_lX_drawn ⟨r1890_, e1890, ?_⟩)
  refine E_aload_n (pc := 1893) (zDk zD_331_20_ok 39 rfl) rfl ?_
  refine E_aload_n (pc := 1894) (zDk zD_331_20_ok 40 rfl) rfl ?_
  refine E_iload_n (pc := 1895) (zDk zD_331_20_ok 41 rfl) rfl ?_
  refine E_iconst (pc := 1896) (zDk zD_331_20_ok 42 rfl) (by decide +kernel) ?_
  refine W_iadd (pc := 1897) (zDk zD_331_20_ok 43 rfl) ?_
  obtain ⟨v1898, e1898, h⟩ := zS_bind h
  refine E_ialoadX (pc := 1898) (zDk zD_331_20_ok 44 rfl) e1898 ?_
  refine E_aload_n (pc := 1899) (zDk zD_331_20_ok 45 rfl) rfl ?_
  refine E_iload_n (pc := 1900) (zDk zD_331_20_ok 46 rfl) rfl ?_
  refine E_iconst (pc := 1901) (zDk zD_331_20_ok 47 rfl) (by decide +kernel) ?_
  refine W_iadd (pc := 1902) (zDk zD_331_20_ok 48 rfl) ?_
  obtain ⟨v1903, e1903, h⟩ := zS_bind h
  refine E_ialoadX (pc := 1903) (zDk zD_331_20_ok 49 rfl) e1903 ?_
  obtain ⟨r1904_, e1904, h⟩ := zS_bind h
  refine E_virI (pc := 1904) (c := 312) (r := 106) (as := [.inl v1898, .inl v1903]) (rest := [.inl r1890_.1]) (zDk zD_331_20_ok 50 rfl) zc_331 (by decide +kernel) zk_312 ⟨(Nat.le_of_ble_eq_true rfl), rfl, rfl⟩ (Nat.le_of_ble_eq_true rfl) (zr_312 _) (Nat.lt_of_lt_of_le (by decide) hq) (by rw [zm_312]; exact (Nat.le_of_ble_eq_true rfl)) ⟨zc_312, by decide⟩ zis_8_106 (ok_lm_drawn ⟨r1904_, e1904, ?_⟩)
  refine E_icmp (pc := 1907) (t := 2236) (zDk zD_331_20_ok 51 rfl) rfl (fun hz => ?_) (fun hz => ?_)
  · have h := zS_t h (T_eq hz)
    refine W_iinc (pc := 2236) (L' := [some (.inr (.inr 5001)), some (.inr (.inr 0)), some (.inr (.inr 106)), some (.inl (w32 (y3 + 6)))]) (zDk zD_331_25_ok 24 rfl) rfl zm_331 (by decide) rfl ?_
    refine E_goto (pc := 2239) (t := 18) (zDk zD_331_25_ok 25 rfl) rfl ?_
    exact H18 (w32 (y3 + 6)) r1904_.2 h
  · have h := zS_f h (F_eq hz)
    refine E_iconst (pc := 1910) (zDk zD_331_20_ok 52 rfl) (by decide +kernel) ?_
    have h := zS_some h
    exact E_ireturnZ (pc := 1911) (zDk zD_331_20_ok 53 rfl) zt_331 (by decide) h
def lQ_law_c1912 (sc : zSc) (h18 : Int → (Nat → Nat → Int) → Option (Int × (Nat → Nat → Int))) (y3 : Int) (M : Nat → Nat → Int) : Option (Int × (Nat → Nat → Int)) :=
    ((rdX sc (w32 (y3 + (1 : Int)))).bind (fun v1917 =>
    ((rdX sc (w32 (y3 + (2 : Int)))).bind (fun v1922 =>
    ((rdX sc (w32 (y3 + (3 : Int)))).bind (fun v1927 =>
    ((lX_luck v1917 v1922 v1927 M).bind (fun r1928_ =>
    ((rdX sc (w32 (y3 + (1 : Int)))).bind (fun v1936 =>
    ((rdX sc (w32 (y3 + (2 : Int)))).bind (fun v1941 =>
    ((rdX sc (w32 (y3 + (3 : Int)))).bind (fun v1946 =>
    ((lm_luck v1936 v1941 v1946 r1928_.2).bind (fun r1947_ =>
    (if r1928_.1 = r1947_.1 then
    (h18 (w32 (y3 + 6)) r1947_.2)
    else
    (some ((0 : Int), r1947_.2)))))))))))))))))))
set_option maxRecDepth 100000 in
theorem ok_lQ_law_c1912 {q : Nat} {P : Option zV → (Nat → Nat → Int) → Prop} (hq : 20 ≤ q) (sc : zSc) (h18 : Int → (Nat → Nat → Int) → Option (Int × (Nat → Nat → Int))) (H18 : ∀ (y3 : Int) (M : Nat → Nat → Int), zS (h18 y3 M) (fun r => P (some (.inl r.1)) r.2) → zWp sc q 331 18 [some (.inr (.inr 5001)), some (.inr (.inr 0)), some (.inr (.inr 106)), some (.inl y3)] [] M P) : ∀ (y3 : Int) (M : Nat → Nat → Int), zS (lQ_law_c1912 sc h18 y3 M) (fun r => P (some (.inl r.1)) r.2) → zWp sc q 331 1912 [some (.inr (.inr 5001)), some (.inr (.inr 0)), some (.inr (.inr 106)), some (.inl y3)] [] M P := by
  intro y3 M h
  unfold lQ_law_c1912 at h
  refine E_aload_n (pc := 1912) (zDk zD_331_20_ok 54 rfl) rfl ?_
  refine E_aload_n (pc := 1913) (zDk zD_331_20_ok 55 rfl) rfl ?_
  refine E_iload_n (pc := 1914) (zDk zD_331_20_ok 56 rfl) rfl ?_
  refine E_iconst (pc := 1915) (zDk zD_331_20_ok 57 rfl) (by decide +kernel) ?_
  refine W_iadd (pc := 1916) (zDk zD_331_20_ok 58 rfl) ?_
  obtain ⟨v1917, e1917, h⟩ := zS_bind h
  refine E_ialoadX (pc := 1917) (zDk zD_331_20_ok 59 rfl) e1917 ?_
  refine E_aload_n (pc := 1918) (zDk zD_331_21_ok 0 rfl) rfl ?_
  refine E_iload_n (pc := 1919) (zDk zD_331_21_ok 1 rfl) rfl ?_
  refine E_iconst (pc := 1920) (zDk zD_331_21_ok 2 rfl) (by decide +kernel) ?_
  refine W_iadd (pc := 1921) (zDk zD_331_21_ok 3 rfl) ?_
  obtain ⟨v1922, e1922, h⟩ := zS_bind h
  refine E_ialoadX (pc := 1922) (zDk zD_331_21_ok 4 rfl) e1922 ?_
  refine E_aload_n (pc := 1923) (zDk zD_331_21_ok 5 rfl) rfl ?_
  refine E_iload_n (pc := 1924) (zDk zD_331_21_ok 6 rfl) rfl ?_
  refine E_iconst (pc := 1925) (zDk zD_331_21_ok 7 rfl) (by decide +kernel) ?_
  refine W_iadd (pc := 1926) (zDk zD_331_21_ok 8 rfl) ?_
  obtain ⟨v1927, e1927, h⟩ := zS_bind h
  refine E_ialoadX (pc := 1927) (zDk zD_331_21_ok 9 rfl) e1927 ?_
  obtain ⟨r1928_, e1928, h⟩ := zS_bind h
  refine E_virI (pc := 1928) (c := 137) (r := 0) (as := [.inl v1917, .inl v1922, .inl v1927]) (rest := []) (zDk zD_331_21_ok 10 rfl) zc_331 (by decide +kernel) zk_137 ⟨(Nat.le_of_ble_eq_true rfl), rfl, rfl⟩ (Nat.le_of_ble_eq_true rfl) (zr_137 _) (Nat.lt_of_lt_of_le (by decide) hq) (by rw [zm_137]; exact (Nat.le_of_ble_eq_true rfl)) ⟨zc_137, by decide⟩ zis_7_0 (ok_lX_luck ⟨r1928_, e1928, ?_⟩)
  refine E_aload_n (pc := 1931) (zDk zD_331_21_ok 11 rfl) rfl ?_
  refine E_aload_n (pc := 1932) (zDk zD_331_21_ok 12 rfl) rfl ?_
  refine E_iload_n (pc := 1933) (zDk zD_331_21_ok 13 rfl) rfl ?_
  refine E_iconst (pc := 1934) (zDk zD_331_21_ok 14 rfl) (by decide +kernel) ?_
  refine W_iadd (pc := 1935) (zDk zD_331_21_ok 15 rfl) ?_
  obtain ⟨v1936, e1936, h⟩ := zS_bind h
  refine E_ialoadX (pc := 1936) (zDk zD_331_21_ok 16 rfl) e1936 ?_
  refine E_aload_n (pc := 1937) (zDk zD_331_21_ok 17 rfl) rfl ?_
  refine E_iload_n (pc := 1938) (zDk zD_331_21_ok 18 rfl) rfl ?_
  refine E_iconst (pc := 1939) (zDk zD_331_21_ok 19 rfl) (by decide +kernel) ?_
  refine W_iadd (pc := 1940) (zDk zD_331_21_ok 20 rfl) ?_
  obtain ⟨v1941, e1941, h⟩ := zS_bind h
  refine E_ialoadX (pc := 1941) (zDk zD_331_21_ok 21 rfl) e1941 ?_
  refine E_aload_n (pc := 1942) (zDk zD_331_21_ok 22 rfl) rfl ?_
  refine E_iload_n (pc := 1943) (zDk zD_331_21_ok 23 rfl) rfl ?_
  refine E_iconst (pc := 1944) (zDk zD_331_21_ok 24 rfl) (by decide +kernel) ?_
  refine W_iadd (pc := 1945) (zDk zD_331_21_ok 25 rfl) ?_
  obtain ⟨v1946, e1946, h⟩ := zS_bind h
  refine E_ialoadX (pc := 1946) (zDk zD_331_21_ok 26 rfl) e1946 ?_
  obtain ⟨r1947_, e1947, h⟩ := zS_bind h
  refine E_virI (pc := 1947) (c := 313) (r := 106) (as := [.inl v1936, .inl v1941, .inl v1946]) (rest := [.inl r1928_.1]) (zDk zD_331_21_ok 27 rfl) zc_331 (by decide +kernel) zk_313 ⟨(Nat.le_of_ble_eq_true rfl), rfl, rfl⟩ (Nat.le_of_ble_eq_true rfl) (zr_313 _) (Nat.lt_of_lt_of_le (by decide) hq) (by rw [zm_313]; exact (Nat.le_of_ble_eq_true rfl)) ⟨zc_313, by decide⟩ zis_8_106 (ok_lm_luck ⟨r1947_, e1947, ?_⟩)
  refine E_icmp (pc := 1950) (t := 2236) (zDk zD_331_21_ok 28 rfl) rfl (fun hz => ?_) (fun hz => ?_)
  · have h := zS_t h (T_eq hz)
    refine W_iinc (pc := 2236) (L' := [some (.inr (.inr 5001)), some (.inr (.inr 0)), some (.inr (.inr 106)), some (.inl (w32 (y3 + 6)))]) (zDk zD_331_25_ok 24 rfl) rfl zm_331 (by decide) rfl ?_
    refine E_goto (pc := 2239) (t := 18) (zDk zD_331_25_ok 25 rfl) rfl ?_
    exact H18 (w32 (y3 + 6)) r1947_.2 h
  · have h := zS_f h (F_eq hz)
    refine E_iconst (pc := 1953) (zDk zD_331_21_ok 29 rfl) (by decide +kernel) ?_
    have h := zS_some h
    exact E_ireturnZ (pc := 1954) (zDk zD_331_21_ok 30 rfl) zt_331 (by decide) h
def lQ_law_c1955 (sc : zSc) (h18 : Int → (Nat → Nat → Int) → Option (Int × (Nat → Nat → Int))) (y3 : Int) (M : Nat → Nat → Int) : Option (Int × (Nat → Nat → Int)) :=
    ((rdX sc (w32 (y3 + (1 : Int)))).bind (fun v1960 =>
    ((rdX sc (w32 (y3 + (2 : Int)))).bind (fun v1965 =>
    ((lX_rate v1960 v1965 M).bind (fun r1966_ =>
    ((rdX sc (w32 (y3 + (1 : Int)))).bind (fun v1974 =>
    ((rdX sc (w32 (y3 + (2 : Int)))).bind (fun v1979 =>
    ((lm_rate v1974 v1979 r1966_.2).bind (fun r1980_ =>
    (if r1966_.1 = r1980_.1 then
    (h18 (w32 (y3 + 6)) r1980_.2)
    else
    (some ((0 : Int), r1980_.2)))))))))))))))
set_option maxRecDepth 100000 in
theorem ok_lQ_law_c1955 {q : Nat} {P : Option zV → (Nat → Nat → Int) → Prop} (hq : 20 ≤ q) (sc : zSc) (h18 : Int → (Nat → Nat → Int) → Option (Int × (Nat → Nat → Int))) (H18 : ∀ (y3 : Int) (M : Nat → Nat → Int), zS (h18 y3 M) (fun r => P (some (.inl r.1)) r.2) → zWp sc q 331 18 [some (.inr (.inr 5001)), some (.inr (.inr 0)), some (.inr (.inr 106)), some (.inl y3)] [] M P) : ∀ (y3 : Int) (M : Nat → Nat → Int), zS (lQ_law_c1955 sc h18 y3 M) (fun r => P (some (.inl r.1)) r.2) → zWp sc q 331 1955 [some (.inr (.inr 5001)), some (.inr (.inr 0)), some (.inr (.inr 106)), some (.inl y3)] [] M P := by
  intro y3 M h
  unfold lQ_law_c1955 at h
  refine E_aload_n (pc := 1955) (zDk zD_331_21_ok 31 rfl) rfl ?_
  refine E_aload_n (pc := 1956) (zDk zD_331_21_ok 32 rfl) rfl ?_
  refine E_iload_n (pc := 1957) (zDk zD_331_21_ok 33 rfl) rfl ?_
  refine E_iconst (pc := 1958) (zDk zD_331_21_ok 34 rfl) (by decide +kernel) ?_
  refine W_iadd (pc := 1959) (zDk zD_331_21_ok 35 rfl) ?_
  obtain ⟨v1960, e1960, h⟩ := zS_bind h
  refine E_ialoadX (pc := 1960) (zDk zD_331_21_ok 36 rfl) e1960 ?_
  refine E_aload_n (pc := 1961) (zDk zD_331_21_ok 37 rfl) rfl ?_
  refine E_iload_n (pc := 1962) (zDk zD_331_21_ok 38 rfl) rfl ?_
  refine E_iconst (pc := 1963) (zDk zD_331_21_ok 39 rfl) (by decide +kernel) ?_
  refine W_iadd (pc := 1964) (zDk zD_331_21_ok 40 rfl) ?_
  obtain ⟨v1965, e1965, h⟩ := zS_bind h
  refine E_ialoadX (pc := 1965) (zDk zD_331_21_ok 41 rfl) e1965 ?_
  obtain ⟨r1966_, e1966, h⟩ := zS_bind h
  refine E_virI (pc := 1966) (c := 138) (r := 0) (as := [.inl v1960, .inl v1965]) (rest := []) (zDk zD_331_21_ok 42 rfl) zc_331 (by decide +kernel) zk_138 ⟨(Nat.le_of_ble_eq_true rfl), rfl, rfl⟩ (Nat.le_of_ble_eq_true rfl) (zr_138 _) (Nat.lt_of_lt_of_le (by decide) hq) (by rw [zm_138]; exact (Nat.le_of_ble_eq_true rfl)) ⟨zc_138, by decide⟩ zis_7_0 (ok_lX_rate ⟨r1966_, e1966, ?_⟩)
  refine E_aload_n (pc := 1969) (zDk zD_331_21_ok 43 rfl) rfl ?_
  refine E_aload_n (pc := 1970) (zDk zD_331_21_ok 44 rfl) rfl ?_
  refine E_iload_n (pc := 1971) (zDk zD_331_21_ok 45 rfl) rfl ?_
  refine E_iconst (pc := 1972) (zDk zD_331_21_ok 46 rfl) (by decide +kernel) ?_
  refine W_iadd (pc := 1973) (zDk zD_331_21_ok 47 rfl) ?_
  obtain ⟨v1974, e1974, h⟩ := zS_bind h
  refine E_ialoadX (pc := 1974) (zDk zD_331_21_ok 48 rfl) e1974 ?_
  refine E_aload_n (pc := 1975) (zDk zD_331_21_ok 49 rfl) rfl ?_
  refine E_iload_n (pc := 1976) (zDk zD_331_21_ok 50 rfl) rfl ?_
  refine E_iconst (pc := 1977) (zDk zD_331_21_ok 51 rfl) (by decide +kernel) ?_
  refine W_iadd (pc := 1978) (zDk zD_331_21_ok 52 rfl) ?_
  obtain ⟨v1979, e1979, h⟩ := zS_bind h
  refine E_ialoadX (pc := 1979) (zDk zD_331_21_ok 53 rfl) e1979 ?_
  obtain ⟨r1980_, e1980, h⟩ := zS_bind h
  refine E_virI (pc := 1980) (c := 314) (r := 106) (as := [.inl v1974, .inl v1979]) (rest := [.inl r1966_.1]) (zDk zD_331_21_ok 54 rfl) zc_331 (by decide +kernel) zk_314 ⟨(Nat.le_of_ble_eq_true rfl), rfl, rfl⟩ (Nat.le_of_ble_eq_true rfl) (zr_314 _) (Nat.lt_of_lt_of_le (by decide) hq) (by rw [zm_314]; exact (Nat.le_of_ble_eq_true rfl)) ⟨zc_314, by decide⟩ zis_8_106 (ok_lm_rate ⟨r1980_, e1980, ?_⟩)
  refine E_icmp (pc := 1983) (t := 2236) (zDk zD_331_21_ok 55 rfl) rfl (fun hz => ?_) (fun hz => ?_)
  · have h := zS_t h (T_eq hz)
    refine W_iinc (pc := 2236) (L' := [some (.inr (.inr 5001)), some (.inr (.inr 0)), some (.inr (.inr 106)), some (.inl (w32 (y3 + 6)))]) (zDk zD_331_25_ok 24 rfl) rfl zm_331 (by decide) rfl ?_
    refine E_goto (pc := 2239) (t := 18) (zDk zD_331_25_ok 25 rfl) rfl ?_
    exact H18 (w32 (y3 + 6)) r1980_.2 h
  · have h := zS_f h (F_eq hz)
    refine E_iconst (pc := 1986) (zDk zD_331_21_ok 56 rfl) (by decide +kernel) ?_
    have h := zS_some h
    exact E_ireturnZ (pc := 1987) (zDk zD_331_21_ok 57 rfl) zt_331 (by decide) h
def lQ_law_c1988 (sc : zSc) (h18 : Int → (Nat → Nat → Int) → Option (Int × (Nat → Nat → Int))) (y3 : Int) (M : Nat → Nat → Int) : Option (Int × (Nat → Nat → Int)) :=
    ((rdX sc (w32 (y3 + (1 : Int)))).bind (fun v1993 =>
    ((lX_count v1993 M).bind (fun v1994 =>
    ((rdX sc (w32 (y3 + (1 : Int)))).bind (fun v2002 =>
    ((lm_count v2002 M).bind (fun v2003 =>
    (if v1994 = v2003 then
    (h18 (w32 (y3 + 6)) M)
    else
    (some ((0 : Int), M)))))))))))
set_option maxRecDepth 100000 in
theorem ok_lQ_law_c1988 {q : Nat} {P : Option zV → (Nat → Nat → Int) → Prop} (hq : 20 ≤ q) (sc : zSc) (h18 : Int → (Nat → Nat → Int) → Option (Int × (Nat → Nat → Int))) (H18 : ∀ (y3 : Int) (M : Nat → Nat → Int), zS (h18 y3 M) (fun r => P (some (.inl r.1)) r.2) → zWp sc q 331 18 [some (.inr (.inr 5001)), some (.inr (.inr 0)), some (.inr (.inr 106)), some (.inl y3)] [] M P) : ∀ (y3 : Int) (M : Nat → Nat → Int), zS (lQ_law_c1988 sc h18 y3 M) (fun r => P (some (.inl r.1)) r.2) → zWp sc q 331 1988 [some (.inr (.inr 5001)), some (.inr (.inr 0)), some (.inr (.inr 106)), some (.inl y3)] [] M P := by
  intro y3 M h
  unfold lQ_law_c1988 at h
  refine E_aload_n (pc := 1988) (zDk zD_331_21_ok 58 rfl) rfl ?_
  refine E_aload_n (pc := 1989) (zDk zD_331_21_ok 59 rfl) rfl ?_
  refine E_iload_n (pc := 1990) (zDk zD_331_22_ok 0 rfl) rfl ?_
  refine E_iconst (pc := 1991) (zDk zD_331_22_ok 1 rfl) (by decide +kernel) ?_
  refine W_iadd (pc := 1992) (zDk zD_331_22_ok 2 rfl) ?_
  obtain ⟨v1993, e1993, h⟩ := zS_bind h
  refine E_ialoadX (pc := 1993) (zDk zD_331_22_ok 3 rfl) e1993 ?_
  obtain ⟨v1994, e1994, h⟩ := zS_bind h
  refine E_virI (pc := 1994) (c := 139) (r := 0) (as := [.inl v1993]) (rest := []) (zDk zD_331_22_ok 4 rfl) zc_331 (by decide +kernel) zk_139 ⟨(Nat.le_of_ble_eq_true rfl), rfl, rfl⟩ (Nat.le_of_ble_eq_true rfl) (zr_139 _) (Nat.lt_of_lt_of_le (by decide) hq) (by rw [zm_139]; exact (Nat.le_of_ble_eq_true rfl)) ⟨zc_139, by decide⟩ zis_7_0 (ok_lX_count ⟨v1994, e1994, ?_⟩)
  refine E_aload_n (pc := 1997) (zDk zD_331_22_ok 5 rfl) rfl ?_
  refine E_aload_n (pc := 1998) (zDk zD_331_22_ok 6 rfl) rfl ?_
  refine E_iload_n (pc := 1999) (zDk zD_331_22_ok 7 rfl) rfl ?_
  refine E_iconst (pc := 2000) (zDk zD_331_22_ok 8 rfl) (by decide +kernel) ?_
  refine W_iadd (pc := 2001) (zDk zD_331_22_ok 9 rfl) ?_
  obtain ⟨v2002, e2002, h⟩ := zS_bind h
  refine E_ialoadX (pc := 2002) (zDk zD_331_22_ok 10 rfl) e2002 ?_
  obtain ⟨v2003, e2003, h⟩ := zS_bind h
  refine E_virI (pc := 2003) (c := 315) (r := 106) (as := [.inl v2002]) (rest := [.inl v1994]) (zDk zD_331_22_ok 11 rfl) zc_331 (by decide +kernel) zk_315 ⟨(Nat.le_of_ble_eq_true rfl), rfl, rfl⟩ (Nat.le_of_ble_eq_true rfl) (zr_315 _) (Nat.lt_of_lt_of_le (by decide) hq) (by rw [zm_315]; exact (Nat.le_of_ble_eq_true rfl)) ⟨zc_315, by decide⟩ zis_8_106 (ok_lm_count ⟨v2003, e2003, ?_⟩)
  refine E_icmp (pc := 2006) (t := 2236) (zDk zD_331_22_ok 12 rfl) rfl (fun hz => ?_) (fun hz => ?_)
  · have h := zS_t h (T_eq hz)
    refine W_iinc (pc := 2236) (L' := [some (.inr (.inr 5001)), some (.inr (.inr 0)), some (.inr (.inr 106)), some (.inl (w32 (y3 + 6)))]) (zDk zD_331_25_ok 24 rfl) rfl zm_331 (by decide) rfl ?_
    refine E_goto (pc := 2239) (t := 18) (zDk zD_331_25_ok 25 rfl) rfl ?_
    exact H18 (w32 (y3 + 6)) M h
  · have h := zS_f h (F_eq hz)
    refine E_iconst (pc := 2009) (zDk zD_331_22_ok 13 rfl) (by decide +kernel) ?_
    have h := zS_some h
    exact E_ireturnZ (pc := 2010) (zDk zD_331_22_ok 14 rfl) zt_331 (by decide) h
def lQ_law_c2011 (sc : zSc) (h18 : Int → (Nat → Nat → Int) → Option (Int × (Nat → Nat → Int))) (y3 : Int) (M : Nat → Nat → Int) : Option (Int × (Nat → Nat → Int)) :=
    ((rdX sc (w32 (y3 + (1 : Int)))).bind (fun v2016 =>
    ((lX_image v2016 M).bind (fun r2017_ =>
    ((rdX sc (w32 (y3 + (1 : Int)))).bind (fun v2025 =>
    ((lm_image v2025 r2017_.2).bind (fun r2026_ =>
    (if r2017_.1 = r2026_.1 then
    (h18 (w32 (y3 + 6)) r2026_.2)
    else
    (some ((0 : Int), r2026_.2)))))))))))
set_option maxRecDepth 100000 in
theorem ok_lQ_law_c2011 {q : Nat} {P : Option zV → (Nat → Nat → Int) → Prop} (hq : 20 ≤ q) (sc : zSc) (h18 : Int → (Nat → Nat → Int) → Option (Int × (Nat → Nat → Int))) (H18 : ∀ (y3 : Int) (M : Nat → Nat → Int), zS (h18 y3 M) (fun r => P (some (.inl r.1)) r.2) → zWp sc q 331 18 [some (.inr (.inr 5001)), some (.inr (.inr 0)), some (.inr (.inr 106)), some (.inl y3)] [] M P) : ∀ (y3 : Int) (M : Nat → Nat → Int), zS (lQ_law_c2011 sc h18 y3 M) (fun r => P (some (.inl r.1)) r.2) → zWp sc q 331 2011 [some (.inr (.inr 5001)), some (.inr (.inr 0)), some (.inr (.inr 106)), some (.inl y3)] [] M P := by
  intro y3 M h
  unfold lQ_law_c2011 at h
  refine E_aload_n (pc := 2011) (zDk zD_331_22_ok 15 rfl) rfl ?_
  refine E_aload_n (pc := 2012) (zDk zD_331_22_ok 16 rfl) rfl ?_
  refine E_iload_n (pc := 2013) (zDk zD_331_22_ok 17 rfl) rfl ?_
  refine E_iconst (pc := 2014) (zDk zD_331_22_ok 18 rfl) (by decide +kernel) ?_
  refine W_iadd (pc := 2015) (zDk zD_331_22_ok 19 rfl) ?_
  obtain ⟨v2016, e2016, h⟩ := zS_bind h
  refine E_ialoadX (pc := 2016) (zDk zD_331_22_ok 20 rfl) e2016 ?_
  obtain ⟨r2017_, e2017, h⟩ := zS_bind h
  refine E_virI (pc := 2017) (c := 140) (r := 0) (as := [.inl v2016]) (rest := []) (zDk zD_331_22_ok 21 rfl) zc_331 (by decide +kernel) zk_140 ⟨(Nat.le_of_ble_eq_true rfl), rfl, rfl⟩ (Nat.le_of_ble_eq_true rfl) (zr_140 _) (Nat.lt_of_lt_of_le (by decide) hq) (by rw [zm_140]; exact (Nat.le_of_ble_eq_true rfl)) ⟨zc_140, by decide⟩ zis_7_0 (ok_lX_image ⟨r2017_, e2017, ?_⟩)
  refine E_aload_n (pc := 2020) (zDk zD_331_22_ok 22 rfl) rfl ?_
  refine E_aload_n (pc := 2021) (zDk zD_331_22_ok 23 rfl) rfl ?_
  refine E_iload_n (pc := 2022) (zDk zD_331_22_ok 24 rfl) rfl ?_
  refine E_iconst (pc := 2023) (zDk zD_331_22_ok 25 rfl) (by decide +kernel) ?_
  refine W_iadd (pc := 2024) (zDk zD_331_22_ok 26 rfl) ?_
  obtain ⟨v2025, e2025, h⟩ := zS_bind h
  refine E_ialoadX (pc := 2025) (zDk zD_331_22_ok 27 rfl) e2025 ?_
  obtain ⟨r2026_, e2026, h⟩ := zS_bind h
  refine E_virI (pc := 2026) (c := 179) (r := 106) (as := [.inl v2025]) (rest := [.inl r2017_.1]) (zDk zD_331_22_ok 28 rfl) zc_331 (by decide +kernel) zk_179 ⟨(Nat.le_of_ble_eq_true rfl), rfl, rfl⟩ (Nat.le_of_ble_eq_true rfl) (zr_179 _) (Nat.lt_of_lt_of_le (by decide) hq) (by rw [zm_179]; exact (Nat.le_of_ble_eq_true rfl)) ⟨zc_179, by decide⟩ zis_8_106 (ok_lm_image ⟨r2026_, e2026, ?_⟩)
  refine E_icmp (pc := 2029) (t := 2236) (zDk zD_331_22_ok 29 rfl) rfl (fun hz => ?_) (fun hz => ?_)
  · have h := zS_t h (T_eq hz)
    refine W_iinc (pc := 2236) (L' := [some (.inr (.inr 5001)), some (.inr (.inr 0)), some (.inr (.inr 106)), some (.inl (w32 (y3 + 6)))]) (zDk zD_331_25_ok 24 rfl) rfl zm_331 (by decide) rfl ?_
    refine E_goto (pc := 2239) (t := 18) (zDk zD_331_25_ok 25 rfl) rfl ?_
    exact H18 (w32 (y3 + 6)) r2026_.2 h
  · have h := zS_f h (F_eq hz)
    refine E_iconst (pc := 2032) (zDk zD_331_22_ok 30 rfl) (by decide +kernel) ?_
    have h := zS_some h
    exact E_ireturnZ (pc := 2033) (zDk zD_331_22_ok 31 rfl) zt_331 (by decide) h
def lQ_law_c2034 (sc : zSc) (h18 : Int → (Nat → Nat → Int) → Option (Int × (Nat → Nat → Int))) (y3 : Int) (M : Nat → Nat → Int) : Option (Int × (Nat → Nat → Int)) :=
    ((rdX sc (w32 (y3 + (1 : Int)))).bind (fun v2039 =>
    ((lX_back v2039 M).bind (fun r2040_ =>
    ((rdX sc (w32 (y3 + (1 : Int)))).bind (fun v2048 =>
    ((lm_back v2048 r2040_.2).bind (fun r2049_ =>
    (if r2040_.1 = r2049_.1 then
    (h18 (w32 (y3 + 6)) r2049_.2)
    else
    (some ((0 : Int), r2049_.2)))))))))))
set_option maxRecDepth 100000 in
theorem ok_lQ_law_c2034 {q : Nat} {P : Option zV → (Nat → Nat → Int) → Prop} (hq : 20 ≤ q) (sc : zSc) (h18 : Int → (Nat → Nat → Int) → Option (Int × (Nat → Nat → Int))) (H18 : ∀ (y3 : Int) (M : Nat → Nat → Int), zS (h18 y3 M) (fun r => P (some (.inl r.1)) r.2) → zWp sc q 331 18 [some (.inr (.inr 5001)), some (.inr (.inr 0)), some (.inr (.inr 106)), some (.inl y3)] [] M P) : ∀ (y3 : Int) (M : Nat → Nat → Int), zS (lQ_law_c2034 sc h18 y3 M) (fun r => P (some (.inl r.1)) r.2) → zWp sc q 331 2034 [some (.inr (.inr 5001)), some (.inr (.inr 0)), some (.inr (.inr 106)), some (.inl y3)] [] M P := by
  intro y3 M h
  unfold lQ_law_c2034 at h
  refine E_aload_n (pc := 2034) (zDk zD_331_22_ok 32 rfl) rfl ?_
  refine E_aload_n (pc := 2035) (zDk zD_331_22_ok 33 rfl) rfl ?_
  refine E_iload_n (pc := 2036) (zDk zD_331_22_ok 34 rfl) rfl ?_
  refine E_iconst (pc := 2037) (zDk zD_331_22_ok 35 rfl) (by decide +kernel) ?_
  refine W_iadd (pc := 2038) (zDk zD_331_22_ok 36 rfl) ?_
  obtain ⟨v2039, e2039, h⟩ := zS_bind h
  refine E_ialoadX (pc := 2039) (zDk zD_331_22_ok 37 rfl) e2039 ?_
  obtain ⟨r2040_, e2040, h⟩ := zS_bind h
  refine E_virI (pc := 2040) (c := 141) (r := 0) (as := [.inl v2039]) (rest := []) (zDk zD_331_22_ok 38 rfl) zc_331 (by decide +kernel) zk_141 ⟨(Nat.le_of_ble_eq_true rfl), rfl, rfl⟩ (Nat.le_of_ble_eq_true rfl) (zr_141 _) (Nat.lt_of_lt_of_le (by decide) hq) (by rw [zm_141]; exact (Nat.le_of_ble_eq_true rfl)) ⟨zc_141, by decide⟩ zis_7_0 (ok_lX_back ⟨r2040_, e2040, ?_⟩)
  refine E_aload_n (pc := 2043) (zDk zD_331_22_ok 39 rfl) rfl ?_
  refine E_aload_n (pc := 2044) (zDk zD_331_22_ok 40 rfl) rfl ?_
  refine E_iload_n (pc := 2045) (zDk zD_331_22_ok 41 rfl) rfl ?_
  refine E_iconst (pc := 2046) (zDk zD_331_22_ok 42 rfl) (by decide +kernel) ?_
  refine W_iadd (pc := 2047) (zDk zD_331_22_ok 43 rfl) ?_
  obtain ⟨v2048, e2048, h⟩ := zS_bind h
  refine E_ialoadX (pc := 2048) (zDk zD_331_22_ok 44 rfl) e2048 ?_
  obtain ⟨r2049_, e2049, h⟩ := zS_bind h
  refine E_virI (pc := 2049) (c := 180) (r := 106) (as := [.inl v2048]) (rest := [.inl r2040_.1]) (zDk zD_331_22_ok 45 rfl) zc_331 (by decide +kernel) zk_180 ⟨(Nat.le_of_ble_eq_true rfl), rfl, rfl⟩ (Nat.le_of_ble_eq_true rfl) (zr_180 _) (Nat.lt_of_lt_of_le (by decide) hq) (by rw [zm_180]; exact (Nat.le_of_ble_eq_true rfl)) ⟨zc_180, by decide⟩ zis_8_106 (ok_lm_back ⟨r2049_, e2049, ?_⟩)
  refine E_icmp (pc := 2052) (t := 2236) (zDk zD_331_22_ok 46 rfl) rfl (fun hz => ?_) (fun hz => ?_)
  · have h := zS_t h (T_eq hz)
    refine W_iinc (pc := 2236) (L' := [some (.inr (.inr 5001)), some (.inr (.inr 0)), some (.inr (.inr 106)), some (.inl (w32 (y3 + 6)))]) (zDk zD_331_25_ok 24 rfl) rfl zm_331 (by decide) rfl ?_
    refine E_goto (pc := 2239) (t := 18) (zDk zD_331_25_ok 25 rfl) rfl ?_
    exact H18 (w32 (y3 + 6)) r2049_.2 h
  · have h := zS_f h (F_eq hz)
    refine E_iconst (pc := 2055) (zDk zD_331_22_ok 47 rfl) (by decide +kernel) ?_
    have h := zS_some h
    exact E_ireturnZ (pc := 2056) (zDk zD_331_22_ok 48 rfl) zt_331 (by decide) h
def lQ_law_c2057 (sc : zSc) (h18 : Int → (Nat → Nat → Int) → Option (Int × (Nat → Nat → Int))) (y3 : Int) (M : Nat → Nat → Int) : Option (Int × (Nat → Nat → Int)) :=
    ((rdX sc (w32 (y3 + (1 : Int)))).bind (fun v2062 =>
    ((rdX sc (w32 (y3 + (2 : Int)))).bind (fun v2067 =>
    ((rdX sc (w32 (y3 + (3 : Int)))).bind (fun v2072 =>
    ((lX_row v2062 v2067 v2072 M).bind (fun r2073_ =>
    ((rdX sc (w32 (y3 + (1 : Int)))).bind (fun v2081 =>
    ((rdX sc (w32 (y3 + (2 : Int)))).bind (fun v2086 =>
    ((rdX sc (w32 (y3 + (3 : Int)))).bind (fun v2091 =>
    ((lm_row v2081 v2086 v2091 r2073_.2).bind (fun r2092_ =>
    (if r2073_.1 = r2092_.1 then
    (h18 (w32 (y3 + 6)) r2092_.2)
    else
    (some ((0 : Int), r2092_.2)))))))))))))))))))
set_option maxRecDepth 100000 in
theorem ok_lQ_law_c2057 {q : Nat} {P : Option zV → (Nat → Nat → Int) → Prop} (hq : 20 ≤ q) (sc : zSc) (h18 : Int → (Nat → Nat → Int) → Option (Int × (Nat → Nat → Int))) (H18 : ∀ (y3 : Int) (M : Nat → Nat → Int), zS (h18 y3 M) (fun r => P (some (.inl r.1)) r.2) → zWp sc q 331 18 [some (.inr (.inr 5001)), some (.inr (.inr 0)), some (.inr (.inr 106)), some (.inl y3)] [] M P) : ∀ (y3 : Int) (M : Nat → Nat → Int), zS (lQ_law_c2057 sc h18 y3 M) (fun r => P (some (.inl r.1)) r.2) → zWp sc q 331 2057 [some (.inr (.inr 5001)), some (.inr (.inr 0)), some (.inr (.inr 106)), some (.inl y3)] [] M P := by
  intro y3 M h
  unfold lQ_law_c2057 at h
  refine E_aload_n (pc := 2057) (zDk zD_331_22_ok 49 rfl) rfl ?_
  refine E_aload_n (pc := 2058) (zDk zD_331_22_ok 50 rfl) rfl ?_
  refine E_iload_n (pc := 2059) (zDk zD_331_22_ok 51 rfl) rfl ?_
  refine E_iconst (pc := 2060) (zDk zD_331_22_ok 52 rfl) (by decide +kernel) ?_
  refine W_iadd (pc := 2061) (zDk zD_331_22_ok 53 rfl) ?_
  obtain ⟨v2062, e2062, h⟩ := zS_bind h
  refine E_ialoadX (pc := 2062) (zDk zD_331_22_ok 54 rfl) e2062 ?_
  refine E_aload_n (pc := 2063) (zDk zD_331_22_ok 55 rfl) rfl ?_
  refine E_iload_n (pc := 2064) (zDk zD_331_22_ok 56 rfl) rfl ?_
  refine E_iconst (pc := 2065) (zDk zD_331_22_ok 57 rfl) (by decide +kernel) ?_
  refine W_iadd (pc := 2066) (zDk zD_331_22_ok 58 rfl) ?_
  obtain ⟨v2067, e2067, h⟩ := zS_bind h
  refine E_ialoadX (pc := 2067) (zDk zD_331_22_ok 59 rfl) e2067 ?_
  refine E_aload_n (pc := 2068) (zDk zD_331_23_ok 0 rfl) rfl ?_
  refine E_iload_n (pc := 2069) (zDk zD_331_23_ok 1 rfl) rfl ?_
  refine E_iconst (pc := 2070) (zDk zD_331_23_ok 2 rfl) (by decide +kernel) ?_
  refine W_iadd (pc := 2071) (zDk zD_331_23_ok 3 rfl) ?_
  obtain ⟨v2072, e2072, h⟩ := zS_bind h
  refine E_ialoadX (pc := 2072) (zDk zD_331_23_ok 4 rfl) e2072 ?_
  obtain ⟨r2073_, e2073, h⟩ := zS_bind h
  refine E_virI (pc := 2073) (c := 142) (r := 0) (as := [.inl v2062, .inl v2067, .inl v2072]) (rest := []) (zDk zD_331_23_ok 5 rfl) zc_331 (by decide +kernel) zk_142 ⟨(Nat.le_of_ble_eq_true rfl), rfl, rfl⟩ (Nat.le_of_ble_eq_true rfl) (zr_142 _) (Nat.lt_of_lt_of_le (by decide) hq) (by rw [zm_142]; exact (Nat.le_of_ble_eq_true rfl)) ⟨zc_142, by decide⟩ zis_7_0 (ok_lX_row ⟨r2073_, e2073, ?_⟩)
  refine E_aload_n (pc := 2076) (zDk zD_331_23_ok 6 rfl) rfl ?_
  refine E_aload_n (pc := 2077) (zDk zD_331_23_ok 7 rfl) rfl ?_
  refine E_iload_n (pc := 2078) (zDk zD_331_23_ok 8 rfl) rfl ?_
  refine E_iconst (pc := 2079) (zDk zD_331_23_ok 9 rfl) (by decide +kernel) ?_
  refine W_iadd (pc := 2080) (zDk zD_331_23_ok 10 rfl) ?_
  obtain ⟨v2081, e2081, h⟩ := zS_bind h
  refine E_ialoadX (pc := 2081) (zDk zD_331_23_ok 11 rfl) e2081 ?_
  refine E_aload_n (pc := 2082) (zDk zD_331_23_ok 12 rfl) rfl ?_
  refine E_iload_n (pc := 2083) (zDk zD_331_23_ok 13 rfl) rfl ?_
  refine E_iconst (pc := 2084) (zDk zD_331_23_ok 14 rfl) (by decide +kernel) ?_
  refine W_iadd (pc := 2085) (zDk zD_331_23_ok 15 rfl) ?_
  obtain ⟨v2086, e2086, h⟩ := zS_bind h
  refine E_ialoadX (pc := 2086) (zDk zD_331_23_ok 16 rfl) e2086 ?_
  refine E_aload_n (pc := 2087) (zDk zD_331_23_ok 17 rfl) rfl ?_
  refine E_iload_n (pc := 2088) (zDk zD_331_23_ok 18 rfl) rfl ?_
  refine E_iconst (pc := 2089) (zDk zD_331_23_ok 19 rfl) (by decide +kernel) ?_
  refine W_iadd (pc := 2090) (zDk zD_331_23_ok 20 rfl) ?_
  obtain ⟨v2091, e2091, h⟩ := zS_bind h
  refine E_ialoadX (pc := 2091) (zDk zD_331_23_ok 21 rfl) e2091 ?_
  obtain ⟨r2092_, e2092, h⟩ := zS_bind h
  refine E_virI (pc := 2092) (c := 318) (r := 106) (as := [.inl v2081, .inl v2086, .inl v2091]) (rest := [.inl r2073_.1]) (zDk zD_331_23_ok 22 rfl) zc_331 (by decide +kernel) zk_318 ⟨(Nat.le_of_ble_eq_true rfl), rfl, rfl⟩ (Nat.le_of_ble_eq_true rfl) (zr_318 _) (Nat.lt_of_lt_of_le (by decide) hq) (by rw [zm_318]; exact (Nat.le_of_ble_eq_true rfl)) ⟨zc_318, by decide⟩ zis_8_106 (ok_lm_row ⟨r2092_, e2092, ?_⟩)
  refine E_icmp (pc := 2095) (t := 2236) (zDk zD_331_23_ok 23 rfl) rfl (fun hz => ?_) (fun hz => ?_)
  · have h := zS_t h (T_eq hz)
    refine W_iinc (pc := 2236) (L' := [some (.inr (.inr 5001)), some (.inr (.inr 0)), some (.inr (.inr 106)), some (.inl (w32 (y3 + 6)))]) (zDk zD_331_25_ok 24 rfl) rfl zm_331 (by decide) rfl ?_
    refine E_goto (pc := 2239) (t := 18) (zDk zD_331_25_ok 25 rfl) rfl ?_
    exact H18 (w32 (y3 + 6)) r2092_.2 h
  · have h := zS_f h (F_eq hz)
    refine E_iconst (pc := 2098) (zDk zD_331_23_ok 24 rfl) (by decide +kernel) ?_
    have h := zS_some h
    exact E_ireturnZ (pc := 2099) (zDk zD_331_23_ok 25 rfl) zt_331 (by decide) h
def lQ_law_c2100 (sc : zSc) (h18 : Int → (Nat → Nat → Int) → Option (Int × (Nat → Nat → Int))) (y3 : Int) (M : Nat → Nat → Int) : Option (Int × (Nat → Nat → Int)) :=
    ((rdX sc (w32 (y3 + (1 : Int)))).bind (fun v2105 =>
    ((rdX sc (w32 (y3 + (2 : Int)))).bind (fun v2110 =>
    ((rdX sc (w32 (y3 + (3 : Int)))).bind (fun v2115 =>
    ((rdX sc (w32 (y3 + (4 : Int)))).bind (fun v2124 =>
    ((lX_write v2105 v2110 (zorL (zshlL v2115 (32 : Int)) (zandL v2124 (4294967295 : Int))) M).bind (fun r2131_ =>
    ((rdX sc (w32 (y3 + (1 : Int)))).bind (fun v2139 =>
    ((rdX sc (w32 (y3 + (2 : Int)))).bind (fun v2144 =>
    ((rdX sc (w32 (y3 + (3 : Int)))).bind (fun v2149 =>
    ((rdX sc (w32 (y3 + (4 : Int)))).bind (fun v2158 =>
    ((lm_write v2139 v2144 (zorL (zshlL v2149 (32 : Int)) (zandL v2158 (4294967295 : Int))) r2131_.2).bind (fun r2165_ =>
    (if r2131_.1 = r2165_.1 then
    (h18 (w32 (y3 + 6)) r2165_.2)
    else
    (some ((0 : Int), r2165_.2)))))))))))))))))))))))
set_option maxRecDepth 100000 in
theorem ok_lQ_law_c2100 {q : Nat} {P : Option zV → (Nat → Nat → Int) → Prop} (hq : 20 ≤ q) (sc : zSc) (h18 : Int → (Nat → Nat → Int) → Option (Int × (Nat → Nat → Int))) (H18 : ∀ (y3 : Int) (M : Nat → Nat → Int), zS (h18 y3 M) (fun r => P (some (.inl r.1)) r.2) → zWp sc q 331 18 [some (.inr (.inr 5001)), some (.inr (.inr 0)), some (.inr (.inr 106)), some (.inl y3)] [] M P) : ∀ (y3 : Int) (M : Nat → Nat → Int), zS (lQ_law_c2100 sc h18 y3 M) (fun r => P (some (.inl r.1)) r.2) → zWp sc q 331 2100 [some (.inr (.inr 5001)), some (.inr (.inr 0)), some (.inr (.inr 106)), some (.inl y3)] [] M P := by
  intro y3 M h
  unfold lQ_law_c2100 at h
  refine E_aload_n (pc := 2100) (zDk zD_331_23_ok 26 rfl) rfl ?_
  refine E_aload_n (pc := 2101) (zDk zD_331_23_ok 27 rfl) rfl ?_
  refine E_iload_n (pc := 2102) (zDk zD_331_23_ok 28 rfl) rfl ?_
  refine E_iconst (pc := 2103) (zDk zD_331_23_ok 29 rfl) (by decide +kernel) ?_
  refine W_iadd (pc := 2104) (zDk zD_331_23_ok 30 rfl) ?_
  obtain ⟨v2105, e2105, h⟩ := zS_bind h
  refine E_ialoadX (pc := 2105) (zDk zD_331_23_ok 31 rfl) e2105 ?_
  refine E_aload_n (pc := 2106) (zDk zD_331_23_ok 32 rfl) rfl ?_
  refine E_iload_n (pc := 2107) (zDk zD_331_23_ok 33 rfl) rfl ?_
  refine E_iconst (pc := 2108) (zDk zD_331_23_ok 34 rfl) (by decide +kernel) ?_
  refine W_iadd (pc := 2109) (zDk zD_331_23_ok 35 rfl) ?_
  obtain ⟨v2110, e2110, h⟩ := zS_bind h
  refine E_ialoadX (pc := 2110) (zDk zD_331_23_ok 36 rfl) e2110 ?_
  refine E_aload_n (pc := 2111) (zDk zD_331_23_ok 37 rfl) rfl ?_
  refine E_iload_n (pc := 2112) (zDk zD_331_23_ok 38 rfl) rfl ?_
  refine E_iconst (pc := 2113) (zDk zD_331_23_ok 39 rfl) (by decide +kernel) ?_
  refine W_iadd (pc := 2114) (zDk zD_331_23_ok 40 rfl) ?_
  obtain ⟨v2115, e2115, h⟩ := zS_bind h
  refine E_ialoadX (pc := 2115) (zDk zD_331_23_ok 41 rfl) e2115 ?_
  refine E_i2l (pc := 2116) (zDk zD_331_23_ok 42 rfl) ?_
  refine E_bipush (pc := 2117) (zDk zD_331_23_ok 43 rfl) (by decide +kernel) ?_
  refine E_lshl (pc := 2119) (zDk zD_331_23_ok 44 rfl) ?_
  refine E_aload_n (pc := 2120) (zDk zD_331_23_ok 45 rfl) rfl ?_
  refine E_iload_n (pc := 2121) (zDk zD_331_23_ok 46 rfl) rfl ?_
  refine E_iconst (pc := 2122) (zDk zD_331_23_ok 47 rfl) (by decide +kernel) ?_
  refine W_iadd (pc := 2123) (zDk zD_331_23_ok 48 rfl) ?_
  obtain ⟨v2124, e2124, h⟩ := zS_bind h
  refine E_ialoadX (pc := 2124) (zDk zD_331_23_ok 49 rfl) e2124 ?_
  refine E_i2l (pc := 2125) (zDk zD_331_23_ok 50 rfl) ?_
  refine E_ldc2_w (pc := 2126) (v := .inr (.inl (4294967295 : Int))) (zDk zD_331_23_ok 51 rfl) zc_331 (by decide +kernel) ?_
  refine E_land (pc := 2129) (zDk zD_331_23_ok 52 rfl) ?_
  refine E_lor (pc := 2130) (zDk zD_331_23_ok 53 rfl) ?_
  obtain ⟨r2131_, e2131, h⟩ := zS_bind h
  refine E_virI (pc := 2131) (c := 143) (r := 0) (as := [.inl v2105, .inl v2110, .inr (.inl (zorL (zshlL v2115 (32 : Int)) (zandL v2124 (4294967295 : Int))))]) (rest := []) (zDk zD_331_23_ok 54 rfl) zc_331 (by decide +kernel) zk_143 ⟨(Nat.le_of_ble_eq_true rfl), rfl, rfl⟩ (Nat.le_of_ble_eq_true rfl) (zr_143 _) (Nat.lt_of_lt_of_le (by decide) hq) (by rw [zm_143]; exact (Nat.le_of_ble_eq_true rfl)) ⟨zc_143, by decide⟩ zis_7_0 (ok_lX_write ⟨r2131_, e2131, ?_⟩)
  refine E_aload_n (pc := 2134) (zDk zD_331_23_ok 55 rfl) rfl ?_
  refine E_aload_n (pc := 2135) (zDk zD_331_23_ok 56 rfl) rfl ?_
  refine E_iload_n (pc := 2136) (zDk zD_331_23_ok 57 rfl) rfl ?_
  refine E_iconst (pc := 2137) (zDk zD_331_23_ok 58 rfl) (by decide +kernel) ?_
  refine W_iadd (pc := 2138) (zDk zD_331_23_ok 59 rfl) ?_
  obtain ⟨v2139, e2139, h⟩ := zS_bind h
  refine E_ialoadX (pc := 2139) (zDk zD_331_24_ok 0 rfl) e2139 ?_
  refine E_aload_n (pc := 2140) (zDk zD_331_24_ok 1 rfl) rfl ?_
  refine E_iload_n (pc := 2141) (zDk zD_331_24_ok 2 rfl) rfl ?_
  refine E_iconst (pc := 2142) (zDk zD_331_24_ok 3 rfl) (by decide +kernel) ?_
  refine W_iadd (pc := 2143) (zDk zD_331_24_ok 4 rfl) ?_
  obtain ⟨v2144, e2144, h⟩ := zS_bind h
  refine E_ialoadX (pc := 2144) (zDk zD_331_24_ok 5 rfl) e2144 ?_
  refine E_aload_n (pc := 2145) (zDk zD_331_24_ok 6 rfl) rfl ?_
  refine E_iload_n (pc := 2146) (zDk zD_331_24_ok 7 rfl) rfl ?_
  refine E_iconst (pc := 2147) (zDk zD_331_24_ok 8 rfl) (by decide +kernel) ?_
  refine W_iadd (pc := 2148) (zDk zD_331_24_ok 9 rfl) ?_
  obtain ⟨v2149, e2149, h⟩ := zS_bind h
  refine E_ialoadX (pc := 2149) (zDk zD_331_24_ok 10 rfl) e2149 ?_
  refine E_i2l (pc := 2150) (zDk zD_331_24_ok 11 rfl) ?_
  refine E_bipush (pc := 2151) (zDk zD_331_24_ok 12 rfl) (by decide +kernel) ?_
  refine E_lshl (pc := 2153) (zDk zD_331_24_ok 13 rfl) ?_
  refine E_aload_n (pc := 2154) (zDk zD_331_24_ok 14 rfl) rfl ?_
  refine E_iload_n (pc := 2155) (zDk zD_331_24_ok 15 rfl) rfl ?_
  refine E_iconst (pc := 2156) (zDk zD_331_24_ok 16 rfl) (by decide +kernel) ?_
  refine W_iadd (pc := 2157) (zDk zD_331_24_ok 17 rfl) ?_
  obtain ⟨v2158, e2158, h⟩ := zS_bind h
  refine E_ialoadX (pc := 2158) (zDk zD_331_24_ok 18 rfl) e2158 ?_
  refine E_i2l (pc := 2159) (zDk zD_331_24_ok 19 rfl) ?_
  refine E_ldc2_w (pc := 2160) (v := .inr (.inl (4294967295 : Int))) (zDk zD_331_24_ok 20 rfl) zc_331 (by decide +kernel) ?_
  refine E_land (pc := 2163) (zDk zD_331_24_ok 21 rfl) ?_
  refine E_lor (pc := 2164) (zDk zD_331_24_ok 22 rfl) ?_
  obtain ⟨r2165_, e2165, h⟩ := zS_bind h
  refine E_virI (pc := 2165) (c := 319) (r := 106) (as := [.inl v2139, .inl v2144, .inr (.inl (zorL (zshlL v2149 (32 : Int)) (zandL v2158 (4294967295 : Int))))]) (rest := [.inl r2131_.1]) (zDk zD_331_24_ok 23 rfl) zc_331 (by decide +kernel) zk_319 ⟨(Nat.le_of_ble_eq_true rfl), rfl, rfl⟩ (Nat.le_of_ble_eq_true rfl) (zr_319 _) (Nat.lt_of_lt_of_le (by decide) hq) (by rw [zm_319]; exact (Nat.le_of_ble_eq_true rfl)) ⟨zc_319, by decide⟩ zis_8_106 (ok_lm_write ⟨r2165_, e2165, ?_⟩)
  refine E_icmp (pc := 2168) (t := 2236) (zDk zD_331_24_ok 24 rfl) rfl (fun hz => ?_) (fun hz => ?_)
  · have h := zS_t h (T_eq hz)
    refine W_iinc (pc := 2236) (L' := [some (.inr (.inr 5001)), some (.inr (.inr 0)), some (.inr (.inr 106)), some (.inl (w32 (y3 + 6)))]) (zDk zD_331_25_ok 24 rfl) rfl zm_331 (by decide) rfl ?_
    refine E_goto (pc := 2239) (t := 18) (zDk zD_331_25_ok 25 rfl) rfl ?_
    exact H18 (w32 (y3 + 6)) r2165_.2 h
  · have h := zS_f h (F_eq hz)
    refine E_iconst (pc := 2171) (zDk zD_331_24_ok 25 rfl) (by decide +kernel) ?_
    have h := zS_some h
    exact E_ireturnZ (pc := 2172) (zDk zD_331_24_ok 26 rfl) zt_331 (by decide) h
def lQ_law_c2173 (sc : zSc) (h18 : Int → (Nat → Nat → Int) → Option (Int × (Nat → Nat → Int))) (y3 : Int) (M : Nat → Nat → Int) : Option (Int × (Nat → Nat → Int)) :=
    ((rdX sc (w32 (y3 + (1 : Int)))).bind (fun v2178 =>
    ((rdX sc (w32 (y3 + (2 : Int)))).bind (fun v2183 =>
    ((rdX sc (w32 (y3 + (3 : Int)))).bind (fun v2188 =>
    ((rdX sc (w32 (y3 + (4 : Int)))).bind (fun v2193 =>
    ((rdX sc (w32 (y3 + (5 : Int)))).bind (fun v2198 =>
    ((lX_paste v2178 v2183 v2188 v2193 v2198 M).bind (fun r2199_ =>
    ((rdX sc (w32 (y3 + (1 : Int)))).bind (fun v2207 =>
    ((rdX sc (w32 (y3 + (2 : Int)))).bind (fun v2212 =>
    ((rdX sc (w32 (y3 + (3 : Int)))).bind (fun v2217 =>
    ((rdX sc (w32 (y3 + (4 : Int)))).bind (fun v2222 =>
    ((rdX sc (w32 (y3 + (5 : Int)))).bind (fun v2227 =>
    ((lm_paste v2207 v2212 v2217 v2222 v2227 r2199_.2).bind (fun r2228_ =>
    (if r2199_.1 = r2228_.1 then
    (h18 (w32 (y3 + 6)) r2228_.2)
    else
    (some ((0 : Int), r2228_.2)))))))))))))))))))))))))))
set_option maxRecDepth 100000 in
theorem ok_lQ_law_c2173 {q : Nat} {P : Option zV → (Nat → Nat → Int) → Prop} (hq : 20 ≤ q) (sc : zSc) (h18 : Int → (Nat → Nat → Int) → Option (Int × (Nat → Nat → Int))) (H18 : ∀ (y3 : Int) (M : Nat → Nat → Int), zS (h18 y3 M) (fun r => P (some (.inl r.1)) r.2) → zWp sc q 331 18 [some (.inr (.inr 5001)), some (.inr (.inr 0)), some (.inr (.inr 106)), some (.inl y3)] [] M P) : ∀ (y3 : Int) (M : Nat → Nat → Int), zS (lQ_law_c2173 sc h18 y3 M) (fun r => P (some (.inl r.1)) r.2) → zWp sc q 331 2173 [some (.inr (.inr 5001)), some (.inr (.inr 0)), some (.inr (.inr 106)), some (.inl y3)] [] M P := by
  intro y3 M h
  unfold lQ_law_c2173 at h
  refine E_aload_n (pc := 2173) (zDk zD_331_24_ok 27 rfl) rfl ?_
  refine E_aload_n (pc := 2174) (zDk zD_331_24_ok 28 rfl) rfl ?_
  refine E_iload_n (pc := 2175) (zDk zD_331_24_ok 29 rfl) rfl ?_
  refine E_iconst (pc := 2176) (zDk zD_331_24_ok 30 rfl) (by decide +kernel) ?_
  refine W_iadd (pc := 2177) (zDk zD_331_24_ok 31 rfl) ?_
  obtain ⟨v2178, e2178, h⟩ := zS_bind h
  refine E_ialoadX (pc := 2178) (zDk zD_331_24_ok 32 rfl) e2178 ?_
  refine E_aload_n (pc := 2179) (zDk zD_331_24_ok 33 rfl) rfl ?_
  refine E_iload_n (pc := 2180) (zDk zD_331_24_ok 34 rfl) rfl ?_
  refine E_iconst (pc := 2181) (zDk zD_331_24_ok 35 rfl) (by decide +kernel) ?_
  refine W_iadd (pc := 2182) (zDk zD_331_24_ok 36 rfl) ?_
  obtain ⟨v2183, e2183, h⟩ := zS_bind h
  refine E_ialoadX (pc := 2183) (zDk zD_331_24_ok 37 rfl) e2183 ?_
  refine E_aload_n (pc := 2184) (zDk zD_331_24_ok 38 rfl) rfl ?_
  refine E_iload_n (pc := 2185) (zDk zD_331_24_ok 39 rfl) rfl ?_
  refine E_iconst (pc := 2186) (zDk zD_331_24_ok 40 rfl) (by decide +kernel) ?_
  refine W_iadd (pc := 2187) (zDk zD_331_24_ok 41 rfl) ?_
  obtain ⟨v2188, e2188, h⟩ := zS_bind h
  refine E_ialoadX (pc := 2188) (zDk zD_331_24_ok 42 rfl) e2188 ?_
  refine E_aload_n (pc := 2189) (zDk zD_331_24_ok 43 rfl) rfl ?_
  refine E_iload_n (pc := 2190) (zDk zD_331_24_ok 44 rfl) rfl ?_
  refine E_iconst (pc := 2191) (zDk zD_331_24_ok 45 rfl) (by decide +kernel) ?_
  refine W_iadd (pc := 2192) (zDk zD_331_24_ok 46 rfl) ?_
  obtain ⟨v2193, e2193, h⟩ := zS_bind h
  refine E_ialoadX (pc := 2193) (zDk zD_331_24_ok 47 rfl) e2193 ?_
  refine E_aload_n (pc := 2194) (zDk zD_331_24_ok 48 rfl) rfl ?_
  refine E_iload_n (pc := 2195) (zDk zD_331_24_ok 49 rfl) rfl ?_
  refine E_iconst (pc := 2196) (zDk zD_331_24_ok 50 rfl) (by decide +kernel) ?_
  refine W_iadd (pc := 2197) (zDk zD_331_24_ok 51 rfl) ?_
  obtain ⟨v2198, e2198, h⟩ := zS_bind h
  refine E_ialoadX (pc := 2198) (zDk zD_331_24_ok 52 rfl) e2198 ?_
  obtain ⟨r2199_, e2199, h⟩ := zS_bind h
  refine E_virI (pc := 2199) (c := 144) (r := 0) (as := [.inl v2178, .inl v2183, .inl v2188, .inl v2193, .inl v2198]) (rest := []) (zDk zD_331_24_ok 53 rfl) zc_331 (by decide +kernel) zk_144 ⟨(Nat.le_of_ble_eq_true rfl), rfl, rfl⟩ (Nat.le_of_ble_eq_true rfl) (zr_144 _) (Nat.lt_of_lt_of_le (by decide) hq) (by rw [zm_144]; exact (Nat.le_of_ble_eq_true rfl)) ⟨zc_144, by decide⟩ zis_7_0 (ok_lX_paste ⟨r2199_, e2199, ?_⟩)
  refine E_aload_n (pc := 2202) (zDk zD_331_24_ok 54 rfl) rfl ?_
  refine E_aload_n (pc := 2203) (zDk zD_331_24_ok 55 rfl) rfl ?_
  refine E_iload_n (pc := 2204) (zDk zD_331_24_ok 56 rfl) rfl ?_
  refine E_iconst (pc := 2205) (zDk zD_331_24_ok 57 rfl) (by decide +kernel) ?_
  refine W_iadd (pc := 2206) (zDk zD_331_24_ok 58 rfl) ?_
  obtain ⟨v2207, e2207, h⟩ := zS_bind h
  refine E_ialoadX (pc := 2207) (zDk zD_331_24_ok 59 rfl) e2207 ?_
  refine E_aload_n (pc := 2208) (zDk zD_331_25_ok 0 rfl) rfl ?_
  refine E_iload_n (pc := 2209) (zDk zD_331_25_ok 1 rfl) rfl ?_
  refine E_iconst (pc := 2210) (zDk zD_331_25_ok 2 rfl) (by decide +kernel) ?_
  refine W_iadd (pc := 2211) (zDk zD_331_25_ok 3 rfl) ?_
  obtain ⟨v2212, e2212, h⟩ := zS_bind h
  refine E_ialoadX (pc := 2212) (zDk zD_331_25_ok 4 rfl) e2212 ?_
  refine E_aload_n (pc := 2213) (zDk zD_331_25_ok 5 rfl) rfl ?_
  refine E_iload_n (pc := 2214) (zDk zD_331_25_ok 6 rfl) rfl ?_
  refine E_iconst (pc := 2215) (zDk zD_331_25_ok 7 rfl) (by decide +kernel) ?_
  refine W_iadd (pc := 2216) (zDk zD_331_25_ok 8 rfl) ?_
  obtain ⟨v2217, e2217, h⟩ := zS_bind h
  refine E_ialoadX (pc := 2217) (zDk zD_331_25_ok 9 rfl) e2217 ?_
  refine E_aload_n (pc := 2218) (zDk zD_331_25_ok 10 rfl) rfl ?_
  refine E_iload_n (pc := 2219) (zDk zD_331_25_ok 11 rfl) rfl ?_
  refine E_iconst (pc := 2220) (zDk zD_331_25_ok 12 rfl) (by decide +kernel) ?_
  refine W_iadd (pc := 2221) (zDk zD_331_25_ok 13 rfl) ?_
  obtain ⟨v2222, e2222, h⟩ := zS_bind h
  refine E_ialoadX (pc := 2222) (zDk zD_331_25_ok 14 rfl) e2222 ?_
  refine E_aload_n (pc := 2223) (zDk zD_331_25_ok 15 rfl) rfl ?_
  refine E_iload_n (pc := 2224) (zDk zD_331_25_ok 16 rfl) rfl ?_
  refine E_iconst (pc := 2225) (zDk zD_331_25_ok 17 rfl) (by decide +kernel) ?_
  refine W_iadd (pc := 2226) (zDk zD_331_25_ok 18 rfl) ?_
  obtain ⟨v2227, e2227, h⟩ := zS_bind h
  refine E_ialoadX (pc := 2227) (zDk zD_331_25_ok 19 rfl) e2227 ?_
  obtain ⟨r2228_, e2228, h⟩ := zS_bind h
  refine E_virI (pc := 2228) (c := 320) (r := 106) (as := [.inl v2207, .inl v2212, .inl v2217, .inl v2222, .inl v2227]) (rest := [.inl r2199_.1]) (zDk zD_331_25_ok 20 rfl) zc_331 (by decide +kernel) zk_320 ⟨(Nat.le_of_ble_eq_true rfl), rfl, rfl⟩ (Nat.le_of_ble_eq_true rfl) (zr_320 _) (Nat.lt_of_lt_of_le (by decide) hq) (by rw [zm_320]; exact (Nat.le_of_ble_eq_true rfl)) ⟨zc_320, by decide⟩ zis_8_106 (ok_lm_paste ⟨r2228_, e2228, ?_⟩)
  refine E_icmp (pc := 2231) (t := 2236) (zDk zD_331_25_ok 21 rfl) rfl (fun hz => ?_) (fun hz => ?_)
  · have h := zS_t h (T_eq hz)
    refine W_iinc (pc := 2236) (L' := [some (.inr (.inr 5001)), some (.inr (.inr 0)), some (.inr (.inr 106)), some (.inl (w32 (y3 + 6)))]) (zDk zD_331_25_ok 24 rfl) rfl zm_331 (by decide) rfl ?_
    refine E_goto (pc := 2239) (t := 18) (zDk zD_331_25_ok 25 rfl) rfl ?_
    exact H18 (w32 (y3 + 6)) r2228_.2 h
  · have h := zS_f h (F_eq hz)
    refine E_iconst (pc := 2234) (zDk zD_331_25_ok 22 rfl) (by decide +kernel) ?_
    have h := zS_some h
    exact E_ireturnZ (pc := 2235) (zDk zD_331_25_ok 23 rfl) zt_331 (by decide) h
def lQ_law_c18 (sc : zSc) : Nat → Int → (Nat → Nat → Int) → Option (Int × (Nat → Nat → Int))
  | 0, _, _ => none
  | n + 1, y3, M =>
    ((lnX sc).bind (fun v20 =>
    (if (w32 (v20 - (6 : Int))) < y3 then
    (some ((1 : Int), M))
    else
    ((rdX sc y3).bind (fun v29 =>
    (if (zand v29 (127 : Int)) = 0 then
    (lQ_law_c320 sc (lQ_law_c18 sc n) y3 M)
    else
    (if (zand v29 (127 : Int)) = 1 then
    (lQ_law_c383 sc (lQ_law_c18 sc n) y3 M)
    else
    (if (zand v29 (127 : Int)) = 2 then
    (lQ_law_c406 sc (lQ_law_c18 sc n) y3 M)
    else
    (if (zand v29 (127 : Int)) = 3 then
    (lQ_law_c419 sc (lQ_law_c18 sc n) y3 M)
    else
    (if (zand v29 (127 : Int)) = 4 then
    (lQ_law_c442 sc (lQ_law_c18 sc n) y3 M)
    else
    (if (zand v29 (127 : Int)) = 5 then
    (lQ_law_c475 sc (lQ_law_c18 sc n) y3 M)
    else
    (if (zand v29 (127 : Int)) = 6 then
    (lQ_law_c498 sc (lQ_law_c18 sc n) y3 M)
    else
    (if (zand v29 (127 : Int)) = 7 then
    (lQ_law_c531 sc (lQ_law_c18 sc n) y3 M)
    else
    (if (zand v29 (127 : Int)) = 8 then
    (lQ_law_c564 sc (lQ_law_c18 sc n) y3 M)
    else
    (if (zand v29 (127 : Int)) = 9 then
    (lQ_law_c587 sc (lQ_law_c18 sc n) y3 M)
    else
    (if (zand v29 (127 : Int)) = 10 then
    (lQ_law_c620 sc (lQ_law_c18 sc n) y3 M)
    else
    (if (zand v29 (127 : Int)) = 11 then
    (lQ_law_c653 sc (lQ_law_c18 sc n) y3 M)
    else
    (if (zand v29 (127 : Int)) = 12 then
    (lQ_law_c676 sc (lQ_law_c18 sc n) y3 M)
    else
    (if (zand v29 (127 : Int)) = 13 then
    (lQ_law_c709 sc (lQ_law_c18 sc n) y3 M)
    else
    (if (zand v29 (127 : Int)) = 14 then
    (lQ_law_c732 sc (lQ_law_c18 sc n) y3 M)
    else
    (if (zand v29 (127 : Int)) = 15 then
    (lQ_law_c755 sc (lQ_law_c18 sc n) y3 M)
    else
    (if (zand v29 (127 : Int)) = 16 then
    (lQ_law_c778 sc (lQ_law_c18 sc n) y3 M)
    else
    (if (zand v29 (127 : Int)) = 17 then
    (lQ_law_c801 sc (lQ_law_c18 sc n) y3 M)
    else
    (if (zand v29 (127 : Int)) = 18 then
    (lQ_law_c824 sc (lQ_law_c18 sc n) y3 M)
    else
    (if (zand v29 (127 : Int)) = 19 then
    (lQ_law_c847 sc (lQ_law_c18 sc n) y3 M)
    else
    (if (zand v29 (127 : Int)) = 20 then
    (lQ_law_c870 sc (lQ_law_c18 sc n) y3 M)
    else
    (if (zand v29 (127 : Int)) = 21 then
    (lQ_law_c893 sc (lQ_law_c18 sc n) y3 M)
    else
    (if (zand v29 (127 : Int)) = 22 then
    (lQ_law_c916 sc (lQ_law_c18 sc n) y3 M)
    else
    (if (zand v29 (127 : Int)) = 23 then
    (lQ_law_c949 sc (lQ_law_c18 sc n) y3 M)
    else
    (if (zand v29 (127 : Int)) = 24 then
    (lQ_law_c982 sc (lQ_law_c18 sc n) y3 M)
    else
    (if (zand v29 (127 : Int)) = 25 then
    (lQ_law_c995 sc (lQ_law_c18 sc n) y3 M)
    else
    (if (zand v29 (127 : Int)) = 26 then
    (lQ_law_c1008 sc (lQ_law_c18 sc n) y3 M)
    else
    (if (zand v29 (127 : Int)) = 27 then
    (lQ_law_c1031 sc (lQ_law_c18 sc n) y3 M)
    else
    (if (zand v29 (127 : Int)) = 28 then
    (lQ_law_c1054 sc (lQ_law_c18 sc n) y3 M)
    else
    (if (zand v29 (127 : Int)) = 29 then
    (lQ_law_c1067 sc (lQ_law_c18 sc n) y3 M)
    else
    (if (zand v29 (127 : Int)) = 30 then
    (lQ_law_c1090 sc (lQ_law_c18 sc n) y3 M)
    else
    (if (zand v29 (127 : Int)) = 31 then
    (lQ_law_c1103 sc (lQ_law_c18 sc n) y3 M)
    else
    (if (zand v29 (127 : Int)) = 32 then
    (lQ_law_c1136 sc (lQ_law_c18 sc n) y3 M)
    else
    (if (zand v29 (127 : Int)) = 33 then
    (lQ_law_c1159 sc (lQ_law_c18 sc n) y3 M)
    else
    (if (zand v29 (127 : Int)) = 34 then
    (lQ_law_c1192 sc (lQ_law_c18 sc n) y3 M)
    else
    (if (zand v29 (127 : Int)) = 35 then
    (lQ_law_c1215 sc (lQ_law_c18 sc n) y3 M)
    else
    (if (zand v29 (127 : Int)) = 36 then
    (lQ_law_c1238 sc (lQ_law_c18 sc n) y3 M)
    else
    (if (zand v29 (127 : Int)) = 37 then
    (lQ_law_c1271 sc (lQ_law_c18 sc n) y3 M)
    else
    (if (zand v29 (127 : Int)) = 38 then
    (lQ_law_c1304 sc (lQ_law_c18 sc n) y3 M)
    else
    (if (zand v29 (127 : Int)) = 39 then
    (lQ_law_c1327 sc (lQ_law_c18 sc n) y3 M)
    else
    (if (zand v29 (127 : Int)) = 40 then
    (lQ_law_c1340 sc (lQ_law_c18 sc n) y3 M)
    else
    (if (zand v29 (127 : Int)) = 41 then
    (lQ_law_c1363 sc (lQ_law_c18 sc n) y3 M)
    else
    (if (zand v29 (127 : Int)) = 42 then
    (lQ_law_c1386 sc (lQ_law_c18 sc n) y3 M)
    else
    (if (zand v29 (127 : Int)) = 43 then
    (lQ_law_c1399 sc (lQ_law_c18 sc n) y3 M)
    else
    (if (zand v29 (127 : Int)) = 44 then
    (lQ_law_c1412 sc (lQ_law_c18 sc n) y3 M)
    else
    (if (zand v29 (127 : Int)) = 45 then
    (lQ_law_c1445 sc (lQ_law_c18 sc n) y3 M)
    else
    (if (zand v29 (127 : Int)) = 46 then
    (lQ_law_c1478 sc (lQ_law_c18 sc n) y3 M)
    else
    (if (zand v29 (127 : Int)) = 47 then
    (lQ_law_c1511 sc (lQ_law_c18 sc n) y3 M)
    else
    (if (zand v29 (127 : Int)) = 48 then
    (lQ_law_c1534 sc (lQ_law_c18 sc n) y3 M)
    else
    (if (zand v29 (127 : Int)) = 49 then
    (lQ_law_c1557 sc (lQ_law_c18 sc n) y3 M)
    else
    (if (zand v29 (127 : Int)) = 50 then
    (lQ_law_c1580 sc (lQ_law_c18 sc n) y3 M)
    else
    (if (zand v29 (127 : Int)) = 51 then
    (lQ_law_c1613 sc (lQ_law_c18 sc n) y3 M)
    else
    (if (zand v29 (127 : Int)) = 52 then
    (lQ_law_c1646 sc (lQ_law_c18 sc n) y3 M)
    else
    (if (zand v29 (127 : Int)) = 53 then
    (lQ_law_c1699 sc (lQ_law_c18 sc n) y3 M)
    else
    (if (zand v29 (127 : Int)) = 54 then
    (lQ_law_c1743 sc (lQ_law_c18 sc n) y3 M)
    else
    (if (zand v29 (127 : Int)) = 55 then
    (lQ_law_c1777 sc (lQ_law_c18 sc n) y3 M)
    else
    (if (zand v29 (127 : Int)) = 56 then
    (lQ_law_c1820 sc (lQ_law_c18 sc n) y3 M)
    else
    (if (zand v29 (127 : Int)) = 57 then
    (lQ_law_c1853 sc (lQ_law_c18 sc n) y3 M)
    else
    (if (zand v29 (127 : Int)) = 58 then
    (lQ_law_c1866 sc (lQ_law_c18 sc n) y3 M)
    else
    (if (zand v29 (127 : Int)) = 59 then
    (lQ_law_c1879 sc (lQ_law_c18 sc n) y3 M)
    else
    (if (zand v29 (127 : Int)) = 60 then
    (lQ_law_c1912 sc (lQ_law_c18 sc n) y3 M)
    else
    (if (zand v29 (127 : Int)) = 61 then
    (lQ_law_c1955 sc (lQ_law_c18 sc n) y3 M)
    else
    (if (zand v29 (127 : Int)) = 62 then
    (lQ_law_c1988 sc (lQ_law_c18 sc n) y3 M)
    else
    (if (zand v29 (127 : Int)) = 63 then
    (lQ_law_c2011 sc (lQ_law_c18 sc n) y3 M)
    else
    (if (zand v29 (127 : Int)) = 64 then
    (lQ_law_c2034 sc (lQ_law_c18 sc n) y3 M)
    else
    (if (zand v29 (127 : Int)) = 65 then
    (lQ_law_c2057 sc (lQ_law_c18 sc n) y3 M)
    else
    (if (zand v29 (127 : Int)) = 66 then
    (lQ_law_c2100 sc (lQ_law_c18 sc n) y3 M)
    else
    (if (zand v29 (127 : Int)) = 67 then
    (lQ_law_c2173 sc (lQ_law_c18 sc n) y3 M)
    else
    ((lQ_law_c18 sc n) (w32 (y3 + 6)) M))))))))))))))))))))))))))))))))))))))))))))))))))))))))))))))))))))))))))
set_option maxRecDepth 100000 in
theorem ok_lQ_law_c18 {q : Nat} {P : Option zV → (Nat → Nat → Int) → Prop} (hq : 20 ≤ q) (sc : zSc) : ∀ (n : Nat) (y3 : Int) (M : Nat → Nat → Int), zS (lQ_law_c18 sc n y3 M) (fun r => P (some (.inl r.1)) r.2) → zWp sc q 331 18 [some (.inr (.inr 5001)), some (.inr (.inr 0)), some (.inr (.inr 106)), some (.inl y3)] [] M P := by
  intro n
  induction n with
  | zero => intro y3 M h; exact (zS_none h).elim
  | succ n ih =>
    intro y3 M h
    rw [lQ_law_c18] at h
    refine E_iload_n (pc := 18) (zDk zD_331_0_ok 10 rfl) rfl ?_
    refine E_aload_n (pc := 19) (zDk zD_331_0_ok 11 rfl) rfl ?_
    obtain ⟨v20, e20, h⟩ := zS_bind h
    refine E_arraylengthX (pc := 20) (zDk zD_331_0_ok 12 rfl) e20 ?_
    refine E_bipush (pc := 21) (zDk zD_331_0_ok 13 rfl) (by decide +kernel) ?_
    refine W_isub (pc := 23) (zDk zD_331_0_ok 14 rfl) ?_
    refine E_icmp (pc := 24) (t := 2242) (zDk zD_331_0_ok 15 rfl) rfl (fun hz => ?_) (fun hz => ?_)
    · have h := zS_t h (T_gt hz)
      refine E_iconst (pc := 2242) (zDk zD_331_25_ok 26 rfl) (by decide +kernel) ?_
      have h := zS_some h
      exact E_ireturnZ (pc := 2243) (zDk zD_331_25_ok 27 rfl) zt_331 (by decide) h
    · have h := zS_f h (Int.not_lt.mpr (F_gt hz))
      refine E_aload_n (pc := 27) (zDk zD_331_0_ok 16 rfl) rfl ?_
      refine E_iload_n (pc := 28) (zDk zD_331_0_ok 17 rfl) rfl ?_
      obtain ⟨v29, e29, h⟩ := zS_bind h
      refine E_ialoadX (pc := 29) (zDk zD_331_0_ok 18 rfl) e29 ?_
      refine E_bipush (pc := 30) (zDk zD_331_0_ok 19 rfl) (by decide +kernel) ?_
      refine E_iand (pc := 32) (zDk zD_331_0_ok 20 rfl) ?_
      by_cases hk0 : (zand v29 (127 : Int)) = 0
      · have h := zS_t h hk0
        refine E_tsw (pc := 33) (o := 287) (t := 320) (zDk zD_331_0_ok 21 rfl) (by rw [hk0]; decide +kernel) rfl (Or.inr (by rw [hk0]; decide)) ?_
        exact ok_lQ_law_c320 hq sc (lQ_law_c18 sc n) (ih) y3 M h
      · have h := zS_f h hk0
        by_cases hk1 : (zand v29 (127 : Int)) = 1
        · have h := zS_t h hk1
          refine E_tsw (pc := 33) (o := 350) (t := 383) (zDk zD_331_0_ok 21 rfl) (by rw [hk1]; decide +kernel) rfl (Or.inr (by rw [hk1]; decide)) ?_
          exact ok_lQ_law_c383 hq sc (lQ_law_c18 sc n) (ih) y3 M h
        · have h := zS_f h hk1
          by_cases hk2 : (zand v29 (127 : Int)) = 2
          · have h := zS_t h hk2
            refine E_tsw (pc := 33) (o := 373) (t := 406) (zDk zD_331_0_ok 21 rfl) (by rw [hk2]; decide +kernel) rfl (Or.inr (by rw [hk2]; decide)) ?_
            exact ok_lQ_law_c406 hq sc (lQ_law_c18 sc n) (ih) y3 M h
          · have h := zS_f h hk2
            by_cases hk3 : (zand v29 (127 : Int)) = 3
            · have h := zS_t h hk3
              refine E_tsw (pc := 33) (o := 386) (t := 419) (zDk zD_331_0_ok 21 rfl) (by rw [hk3]; decide +kernel) rfl (Or.inr (by rw [hk3]; decide)) ?_
              exact ok_lQ_law_c419 hq sc (lQ_law_c18 sc n) (ih) y3 M h
            · have h := zS_f h hk3
              by_cases hk4 : (zand v29 (127 : Int)) = 4
              · have h := zS_t h hk4
                refine E_tsw (pc := 33) (o := 409) (t := 442) (zDk zD_331_0_ok 21 rfl) (by rw [hk4]; decide +kernel) rfl (Or.inr (by rw [hk4]; decide)) ?_
                exact ok_lQ_law_c442 hq sc (lQ_law_c18 sc n) (ih) y3 M h
              · have h := zS_f h hk4
                by_cases hk5 : (zand v29 (127 : Int)) = 5
                · have h := zS_t h hk5
                  refine E_tsw (pc := 33) (o := 442) (t := 475) (zDk zD_331_0_ok 21 rfl) (by rw [hk5]; decide +kernel) rfl (Or.inr (by rw [hk5]; decide)) ?_
                  exact ok_lQ_law_c475 hq sc (lQ_law_c18 sc n) (ih) y3 M h
                · have h := zS_f h hk5
                  by_cases hk6 : (zand v29 (127 : Int)) = 6
                  · have h := zS_t h hk6
                    refine E_tsw (pc := 33) (o := 465) (t := 498) (zDk zD_331_0_ok 21 rfl) (by rw [hk6]; decide +kernel) rfl (Or.inr (by rw [hk6]; decide)) ?_
                    exact ok_lQ_law_c498 hq sc (lQ_law_c18 sc n) (ih) y3 M h
                  · have h := zS_f h hk6
                    by_cases hk7 : (zand v29 (127 : Int)) = 7
                    · have h := zS_t h hk7
                      refine E_tsw (pc := 33) (o := 498) (t := 531) (zDk zD_331_0_ok 21 rfl) (by rw [hk7]; decide +kernel) rfl (Or.inr (by rw [hk7]; decide)) ?_
                      exact ok_lQ_law_c531 hq sc (lQ_law_c18 sc n) (ih) y3 M h
                    · have h := zS_f h hk7
                      by_cases hk8 : (zand v29 (127 : Int)) = 8
                      · have h := zS_t h hk8
                        refine E_tsw (pc := 33) (o := 531) (t := 564) (zDk zD_331_0_ok 21 rfl) (by rw [hk8]; decide +kernel) rfl (Or.inr (by rw [hk8]; decide)) ?_
                        exact ok_lQ_law_c564 hq sc (lQ_law_c18 sc n) (ih) y3 M h
                      · have h := zS_f h hk8
                        by_cases hk9 : (zand v29 (127 : Int)) = 9
                        · have h := zS_t h hk9
                          refine E_tsw (pc := 33) (o := 554) (t := 587) (zDk zD_331_0_ok 21 rfl) (by rw [hk9]; decide +kernel) rfl (Or.inr (by rw [hk9]; decide)) ?_
                          exact ok_lQ_law_c587 hq sc (lQ_law_c18 sc n) (ih) y3 M h
                        · have h := zS_f h hk9
                          by_cases hk10 : (zand v29 (127 : Int)) = 10
                          · have h := zS_t h hk10
                            refine E_tsw (pc := 33) (o := 587) (t := 620) (zDk zD_331_0_ok 21 rfl) (by rw [hk10]; decide +kernel) rfl (Or.inr (by rw [hk10]; decide)) ?_
                            exact ok_lQ_law_c620 hq sc (lQ_law_c18 sc n) (ih) y3 M h
                          · have h := zS_f h hk10
                            by_cases hk11 : (zand v29 (127 : Int)) = 11
                            · have h := zS_t h hk11
                              refine E_tsw (pc := 33) (o := 620) (t := 653) (zDk zD_331_0_ok 21 rfl) (by rw [hk11]; decide +kernel) rfl (Or.inr (by rw [hk11]; decide)) ?_
                              exact ok_lQ_law_c653 hq sc (lQ_law_c18 sc n) (ih) y3 M h
                            · have h := zS_f h hk11
                              by_cases hk12 : (zand v29 (127 : Int)) = 12
                              · have h := zS_t h hk12
                                refine E_tsw (pc := 33) (o := 643) (t := 676) (zDk zD_331_0_ok 21 rfl) (by rw [hk12]; decide +kernel) rfl (Or.inr (by rw [hk12]; decide)) ?_
                                exact ok_lQ_law_c676 hq sc (lQ_law_c18 sc n) (ih) y3 M h
                              · have h := zS_f h hk12
                                by_cases hk13 : (zand v29 (127 : Int)) = 13
                                · have h := zS_t h hk13
                                  refine E_tsw (pc := 33) (o := 676) (t := 709) (zDk zD_331_0_ok 21 rfl) (by rw [hk13]; decide +kernel) rfl (Or.inr (by rw [hk13]; decide)) ?_
                                  exact ok_lQ_law_c709 hq sc (lQ_law_c18 sc n) (ih) y3 M h
                                · have h := zS_f h hk13
                                  by_cases hk14 : (zand v29 (127 : Int)) = 14
                                  · have h := zS_t h hk14
                                    refine E_tsw (pc := 33) (o := 699) (t := 732) (zDk zD_331_0_ok 21 rfl) (by rw [hk14]; decide +kernel) rfl (Or.inr (by rw [hk14]; decide)) ?_
                                    exact ok_lQ_law_c732 hq sc (lQ_law_c18 sc n) (ih) y3 M h
                                  · have h := zS_f h hk14
                                    by_cases hk15 : (zand v29 (127 : Int)) = 15
                                    · have h := zS_t h hk15
                                      refine E_tsw (pc := 33) (o := 722) (t := 755) (zDk zD_331_0_ok 21 rfl) (by rw [hk15]; decide +kernel) rfl (Or.inr (by rw [hk15]; decide)) ?_
                                      exact ok_lQ_law_c755 hq sc (lQ_law_c18 sc n) (ih) y3 M h
                                    · have h := zS_f h hk15
                                      by_cases hk16 : (zand v29 (127 : Int)) = 16
                                      · have h := zS_t h hk16
                                        refine E_tsw (pc := 33) (o := 745) (t := 778) (zDk zD_331_0_ok 21 rfl) (by rw [hk16]; decide +kernel) rfl (Or.inr (by rw [hk16]; decide)) ?_
                                        exact ok_lQ_law_c778 hq sc (lQ_law_c18 sc n) (ih) y3 M h
                                      · have h := zS_f h hk16
                                        by_cases hk17 : (zand v29 (127 : Int)) = 17
                                        · have h := zS_t h hk17
                                          refine E_tsw (pc := 33) (o := 768) (t := 801) (zDk zD_331_0_ok 21 rfl) (by rw [hk17]; decide +kernel) rfl (Or.inr (by rw [hk17]; decide)) ?_
                                          exact ok_lQ_law_c801 hq sc (lQ_law_c18 sc n) (ih) y3 M h
                                        · have h := zS_f h hk17
                                          by_cases hk18 : (zand v29 (127 : Int)) = 18
                                          · have h := zS_t h hk18
                                            refine E_tsw (pc := 33) (o := 791) (t := 824) (zDk zD_331_0_ok 21 rfl) (by rw [hk18]; decide +kernel) rfl (Or.inr (by rw [hk18]; decide)) ?_
                                            exact ok_lQ_law_c824 hq sc (lQ_law_c18 sc n) (ih) y3 M h
                                          · have h := zS_f h hk18
                                            by_cases hk19 : (zand v29 (127 : Int)) = 19
                                            · have h := zS_t h hk19
                                              refine E_tsw (pc := 33) (o := 814) (t := 847) (zDk zD_331_0_ok 21 rfl) (by rw [hk19]; decide +kernel) rfl (Or.inr (by rw [hk19]; decide)) ?_
                                              exact ok_lQ_law_c847 hq sc (lQ_law_c18 sc n) (ih) y3 M h
                                            · have h := zS_f h hk19
                                              by_cases hk20 : (zand v29 (127 : Int)) = 20
                                              · have h := zS_t h hk20
                                                refine E_tsw (pc := 33) (o := 837) (t := 870) (zDk zD_331_0_ok 21 rfl) (by rw [hk20]; decide +kernel) rfl (Or.inr (by rw [hk20]; decide)) ?_
                                                exact ok_lQ_law_c870 hq sc (lQ_law_c18 sc n) (ih) y3 M h
                                              · have h := zS_f h hk20
                                                by_cases hk21 : (zand v29 (127 : Int)) = 21
                                                · have h := zS_t h hk21
                                                  refine E_tsw (pc := 33) (o := 860) (t := 893) (zDk zD_331_0_ok 21 rfl) (by rw [hk21]; decide +kernel) rfl (Or.inr (by rw [hk21]; decide)) ?_
                                                  exact ok_lQ_law_c893 hq sc (lQ_law_c18 sc n) (ih) y3 M h
                                                · have h := zS_f h hk21
                                                  by_cases hk22 : (zand v29 (127 : Int)) = 22
                                                  · have h := zS_t h hk22
                                                    refine E_tsw (pc := 33) (o := 883) (t := 916) (zDk zD_331_0_ok 21 rfl) (by rw [hk22]; decide +kernel) rfl (Or.inr (by rw [hk22]; decide)) ?_
                                                    exact ok_lQ_law_c916 hq sc (lQ_law_c18 sc n) (ih) y3 M h
                                                  · have h := zS_f h hk22
                                                    by_cases hk23 : (zand v29 (127 : Int)) = 23
                                                    · have h := zS_t h hk23
                                                      refine E_tsw (pc := 33) (o := 916) (t := 949) (zDk zD_331_0_ok 21 rfl) (by rw [hk23]; decide +kernel) rfl (Or.inr (by rw [hk23]; decide)) ?_
                                                      exact ok_lQ_law_c949 hq sc (lQ_law_c18 sc n) (ih) y3 M h
                                                    · have h := zS_f h hk23
                                                      by_cases hk24 : (zand v29 (127 : Int)) = 24
                                                      · have h := zS_t h hk24
                                                        refine E_tsw (pc := 33) (o := 949) (t := 982) (zDk zD_331_0_ok 21 rfl) (by rw [hk24]; decide +kernel) rfl (Or.inr (by rw [hk24]; decide)) ?_
                                                        exact ok_lQ_law_c982 hq sc (lQ_law_c18 sc n) (ih) y3 M h
                                                      · have h := zS_f h hk24
                                                        by_cases hk25 : (zand v29 (127 : Int)) = 25
                                                        · have h := zS_t h hk25
                                                          refine E_tsw (pc := 33) (o := 962) (t := 995) (zDk zD_331_0_ok 21 rfl) (by rw [hk25]; decide +kernel) rfl (Or.inr (by rw [hk25]; decide)) ?_
                                                          exact ok_lQ_law_c995 hq sc (lQ_law_c18 sc n) (ih) y3 M h
                                                        · have h := zS_f h hk25
                                                          by_cases hk26 : (zand v29 (127 : Int)) = 26
                                                          · have h := zS_t h hk26
                                                            refine E_tsw (pc := 33) (o := 975) (t := 1008) (zDk zD_331_0_ok 21 rfl) (by rw [hk26]; decide +kernel) rfl (Or.inr (by rw [hk26]; decide)) ?_
                                                            exact ok_lQ_law_c1008 hq sc (lQ_law_c18 sc n) (ih) y3 M h
                                                          · have h := zS_f h hk26
                                                            by_cases hk27 : (zand v29 (127 : Int)) = 27
                                                            · have h := zS_t h hk27
                                                              refine E_tsw (pc := 33) (o := 998) (t := 1031) (zDk zD_331_0_ok 21 rfl) (by rw [hk27]; decide +kernel) rfl (Or.inr (by rw [hk27]; decide)) ?_
                                                              exact ok_lQ_law_c1031 hq sc (lQ_law_c18 sc n) (ih) y3 M h
                                                            · have h := zS_f h hk27
                                                              by_cases hk28 : (zand v29 (127 : Int)) = 28
                                                              · have h := zS_t h hk28
                                                                refine E_tsw (pc := 33) (o := 1021) (t := 1054) (zDk zD_331_0_ok 21 rfl) (by rw [hk28]; decide +kernel) rfl (Or.inr (by rw [hk28]; decide)) ?_
                                                                exact ok_lQ_law_c1054 hq sc (lQ_law_c18 sc n) (ih) y3 M h
                                                              · have h := zS_f h hk28
                                                                by_cases hk29 : (zand v29 (127 : Int)) = 29
                                                                · have h := zS_t h hk29
                                                                  refine E_tsw (pc := 33) (o := 1034) (t := 1067) (zDk zD_331_0_ok 21 rfl) (by rw [hk29]; decide +kernel) rfl (Or.inr (by rw [hk29]; decide)) ?_
                                                                  exact ok_lQ_law_c1067 hq sc (lQ_law_c18 sc n) (ih) y3 M h
                                                                · have h := zS_f h hk29
                                                                  by_cases hk30 : (zand v29 (127 : Int)) = 30
                                                                  · have h := zS_t h hk30
                                                                    refine E_tsw (pc := 33) (o := 1057) (t := 1090) (zDk zD_331_0_ok 21 rfl) (by rw [hk30]; decide +kernel) rfl (Or.inr (by rw [hk30]; decide)) ?_
                                                                    exact ok_lQ_law_c1090 hq sc (lQ_law_c18 sc n) (ih) y3 M h
                                                                  · have h := zS_f h hk30
                                                                    by_cases hk31 : (zand v29 (127 : Int)) = 31
                                                                    · have h := zS_t h hk31
                                                                      refine E_tsw (pc := 33) (o := 1070) (t := 1103) (zDk zD_331_0_ok 21 rfl) (by rw [hk31]; decide +kernel) rfl (Or.inr (by rw [hk31]; decide)) ?_
                                                                      exact ok_lQ_law_c1103 hq sc (lQ_law_c18 sc n) (ih) y3 M h
                                                                    · have h := zS_f h hk31
                                                                      by_cases hk32 : (zand v29 (127 : Int)) = 32
                                                                      · have h := zS_t h hk32
                                                                        refine E_tsw (pc := 33) (o := 1103) (t := 1136) (zDk zD_331_0_ok 21 rfl) (by rw [hk32]; decide +kernel) rfl (Or.inr (by rw [hk32]; decide)) ?_
                                                                        exact ok_lQ_law_c1136 hq sc (lQ_law_c18 sc n) (ih) y3 M h
                                                                      · have h := zS_f h hk32
                                                                        by_cases hk33 : (zand v29 (127 : Int)) = 33
                                                                        · have h := zS_t h hk33
                                                                          refine E_tsw (pc := 33) (o := 1126) (t := 1159) (zDk zD_331_0_ok 21 rfl) (by rw [hk33]; decide +kernel) rfl (Or.inr (by rw [hk33]; decide)) ?_
                                                                          exact ok_lQ_law_c1159 hq sc (lQ_law_c18 sc n) (ih) y3 M h
                                                                        · have h := zS_f h hk33
                                                                          by_cases hk34 : (zand v29 (127 : Int)) = 34
                                                                          · have h := zS_t h hk34
                                                                            refine E_tsw (pc := 33) (o := 1159) (t := 1192) (zDk zD_331_0_ok 21 rfl) (by rw [hk34]; decide +kernel) rfl (Or.inr (by rw [hk34]; decide)) ?_
                                                                            exact ok_lQ_law_c1192 hq sc (lQ_law_c18 sc n) (ih) y3 M h
                                                                          · have h := zS_f h hk34
                                                                            by_cases hk35 : (zand v29 (127 : Int)) = 35
                                                                            · have h := zS_t h hk35
                                                                              refine E_tsw (pc := 33) (o := 1182) (t := 1215) (zDk zD_331_0_ok 21 rfl) (by rw [hk35]; decide +kernel) rfl (Or.inr (by rw [hk35]; decide)) ?_
                                                                              exact ok_lQ_law_c1215 hq sc (lQ_law_c18 sc n) (ih) y3 M h
                                                                            · have h := zS_f h hk35
                                                                              by_cases hk36 : (zand v29 (127 : Int)) = 36
                                                                              · have h := zS_t h hk36
                                                                                refine E_tsw (pc := 33) (o := 1205) (t := 1238) (zDk zD_331_0_ok 21 rfl) (by rw [hk36]; decide +kernel) rfl (Or.inr (by rw [hk36]; decide)) ?_
                                                                                exact ok_lQ_law_c1238 hq sc (lQ_law_c18 sc n) (ih) y3 M h
                                                                              · have h := zS_f h hk36
                                                                                by_cases hk37 : (zand v29 (127 : Int)) = 37
                                                                                · have h := zS_t h hk37
                                                                                  refine E_tsw (pc := 33) (o := 1238) (t := 1271) (zDk zD_331_0_ok 21 rfl) (by rw [hk37]; decide +kernel) rfl (Or.inr (by rw [hk37]; decide)) ?_
                                                                                  exact ok_lQ_law_c1271 hq sc (lQ_law_c18 sc n) (ih) y3 M h
                                                                                · have h := zS_f h hk37
                                                                                  by_cases hk38 : (zand v29 (127 : Int)) = 38
                                                                                  · have h := zS_t h hk38
                                                                                    refine E_tsw (pc := 33) (o := 1271) (t := 1304) (zDk zD_331_0_ok 21 rfl) (by rw [hk38]; decide +kernel) rfl (Or.inr (by rw [hk38]; decide)) ?_
                                                                                    exact ok_lQ_law_c1304 hq sc (lQ_law_c18 sc n) (ih) y3 M h
                                                                                  · have h := zS_f h hk38
                                                                                    by_cases hk39 : (zand v29 (127 : Int)) = 39
                                                                                    · have h := zS_t h hk39
                                                                                      refine E_tsw (pc := 33) (o := 1294) (t := 1327) (zDk zD_331_0_ok 21 rfl) (by rw [hk39]; decide +kernel) rfl (Or.inr (by rw [hk39]; decide)) ?_
                                                                                      exact ok_lQ_law_c1327 hq sc (lQ_law_c18 sc n) (ih) y3 M h
                                                                                    · have h := zS_f h hk39
                                                                                      by_cases hk40 : (zand v29 (127 : Int)) = 40
                                                                                      · have h := zS_t h hk40
                                                                                        refine E_tsw (pc := 33) (o := 1307) (t := 1340) (zDk zD_331_0_ok 21 rfl) (by rw [hk40]; decide +kernel) rfl (Or.inr (by rw [hk40]; decide)) ?_
                                                                                        exact ok_lQ_law_c1340 hq sc (lQ_law_c18 sc n) (ih) y3 M h
                                                                                      · have h := zS_f h hk40
                                                                                        by_cases hk41 : (zand v29 (127 : Int)) = 41
                                                                                        · have h := zS_t h hk41
                                                                                          refine E_tsw (pc := 33) (o := 1330) (t := 1363) (zDk zD_331_0_ok 21 rfl) (by rw [hk41]; decide +kernel) rfl (Or.inr (by rw [hk41]; decide)) ?_
                                                                                          exact ok_lQ_law_c1363 hq sc (lQ_law_c18 sc n) (ih) y3 M h
                                                                                        · have h := zS_f h hk41
                                                                                          by_cases hk42 : (zand v29 (127 : Int)) = 42
                                                                                          · have h := zS_t h hk42
                                                                                            refine E_tsw (pc := 33) (o := 1353) (t := 1386) (zDk zD_331_0_ok 21 rfl) (by rw [hk42]; decide +kernel) rfl (Or.inr (by rw [hk42]; decide)) ?_
                                                                                            exact ok_lQ_law_c1386 hq sc (lQ_law_c18 sc n) (ih) y3 M h
                                                                                          · have h := zS_f h hk42
                                                                                            by_cases hk43 : (zand v29 (127 : Int)) = 43
                                                                                            · have h := zS_t h hk43
                                                                                              refine E_tsw (pc := 33) (o := 1366) (t := 1399) (zDk zD_331_0_ok 21 rfl) (by rw [hk43]; decide +kernel) rfl (Or.inr (by rw [hk43]; decide)) ?_
                                                                                              exact ok_lQ_law_c1399 hq sc (lQ_law_c18 sc n) (ih) y3 M h
                                                                                            · have h := zS_f h hk43
                                                                                              by_cases hk44 : (zand v29 (127 : Int)) = 44
                                                                                              · have h := zS_t h hk44
                                                                                                refine E_tsw (pc := 33) (o := 1379) (t := 1412) (zDk zD_331_0_ok 21 rfl) (by rw [hk44]; decide +kernel) rfl (Or.inr (by rw [hk44]; decide)) ?_
                                                                                                exact ok_lQ_law_c1412 hq sc (lQ_law_c18 sc n) (ih) y3 M h
                                                                                              · have h := zS_f h hk44
                                                                                                by_cases hk45 : (zand v29 (127 : Int)) = 45
                                                                                                · have h := zS_t h hk45
                                                                                                  refine E_tsw (pc := 33) (o := 1412) (t := 1445) (zDk zD_331_0_ok 21 rfl) (by rw [hk45]; decide +kernel) rfl (Or.inr (by rw [hk45]; decide)) ?_
                                                                                                  exact ok_lQ_law_c1445 hq sc (lQ_law_c18 sc n) (ih) y3 M h
                                                                                                · have h := zS_f h hk45
                                                                                                  by_cases hk46 : (zand v29 (127 : Int)) = 46
                                                                                                  · have h := zS_t h hk46
                                                                                                    refine E_tsw (pc := 33) (o := 1445) (t := 1478) (zDk zD_331_0_ok 21 rfl) (by rw [hk46]; decide +kernel) rfl (Or.inr (by rw [hk46]; decide)) ?_
                                                                                                    exact ok_lQ_law_c1478 hq sc (lQ_law_c18 sc n) (ih) y3 M h
                                                                                                  · have h := zS_f h hk46
                                                                                                    by_cases hk47 : (zand v29 (127 : Int)) = 47
                                                                                                    · have h := zS_t h hk47
                                                                                                      refine E_tsw (pc := 33) (o := 1478) (t := 1511) (zDk zD_331_0_ok 21 rfl) (by rw [hk47]; decide +kernel) rfl (Or.inr (by rw [hk47]; decide)) ?_
                                                                                                      exact ok_lQ_law_c1511 hq sc (lQ_law_c18 sc n) (ih) y3 M h
                                                                                                    · have h := zS_f h hk47
                                                                                                      by_cases hk48 : (zand v29 (127 : Int)) = 48
                                                                                                      · have h := zS_t h hk48
                                                                                                        refine E_tsw (pc := 33) (o := 1501) (t := 1534) (zDk zD_331_0_ok 21 rfl) (by rw [hk48]; decide +kernel) rfl (Or.inr (by rw [hk48]; decide)) ?_
                                                                                                        exact ok_lQ_law_c1534 hq sc (lQ_law_c18 sc n) (ih) y3 M h
                                                                                                      · have h := zS_f h hk48
                                                                                                        by_cases hk49 : (zand v29 (127 : Int)) = 49
                                                                                                        · have h := zS_t h hk49
                                                                                                          refine E_tsw (pc := 33) (o := 1524) (t := 1557) (zDk zD_331_0_ok 21 rfl) (by rw [hk49]; decide +kernel) rfl (Or.inr (by rw [hk49]; decide)) ?_
                                                                                                          exact ok_lQ_law_c1557 hq sc (lQ_law_c18 sc n) (ih) y3 M h
                                                                                                        · have h := zS_f h hk49
                                                                                                          by_cases hk50 : (zand v29 (127 : Int)) = 50
                                                                                                          · have h := zS_t h hk50
                                                                                                            refine E_tsw (pc := 33) (o := 1547) (t := 1580) (zDk zD_331_0_ok 21 rfl) (by rw [hk50]; decide +kernel) rfl (Or.inr (by rw [hk50]; decide)) ?_
                                                                                                            exact ok_lQ_law_c1580 hq sc (lQ_law_c18 sc n) (ih) y3 M h
                                                                                                          · have h := zS_f h hk50
                                                                                                            by_cases hk51 : (zand v29 (127 : Int)) = 51
                                                                                                            · have h := zS_t h hk51
                                                                                                              refine E_tsw (pc := 33) (o := 1580) (t := 1613) (zDk zD_331_0_ok 21 rfl) (by rw [hk51]; decide +kernel) rfl (Or.inr (by rw [hk51]; decide)) ?_
                                                                                                              exact ok_lQ_law_c1613 hq sc (lQ_law_c18 sc n) (ih) y3 M h
                                                                                                            · have h := zS_f h hk51
                                                                                                              by_cases hk52 : (zand v29 (127 : Int)) = 52
                                                                                                              · have h := zS_t h hk52
                                                                                                                refine E_tsw (pc := 33) (o := 1613) (t := 1646) (zDk zD_331_0_ok 21 rfl) (by rw [hk52]; decide +kernel) rfl (Or.inr (by rw [hk52]; decide)) ?_
                                                                                                                exact ok_lQ_law_c1646 hq sc (lQ_law_c18 sc n) (ih) y3 M h
                                                                                                              · have h := zS_f h hk52
                                                                                                                by_cases hk53 : (zand v29 (127 : Int)) = 53
                                                                                                                · have h := zS_t h hk53
                                                                                                                  refine E_tsw (pc := 33) (o := 1666) (t := 1699) (zDk zD_331_0_ok 21 rfl) (by rw [hk53]; decide +kernel) rfl (Or.inr (by rw [hk53]; decide)) ?_
                                                                                                                  exact ok_lQ_law_c1699 hq sc (lQ_law_c18 sc n) (ih) y3 M h
                                                                                                                · have h := zS_f h hk53
                                                                                                                  by_cases hk54 : (zand v29 (127 : Int)) = 54
                                                                                                                  · have h := zS_t h hk54
                                                                                                                    refine E_tsw (pc := 33) (o := 1710) (t := 1743) (zDk zD_331_0_ok 21 rfl) (by rw [hk54]; decide +kernel) rfl (Or.inr (by rw [hk54]; decide)) ?_
                                                                                                                    exact ok_lQ_law_c1743 hq sc (lQ_law_c18 sc n) (ih) y3 M h
                                                                                                                  · have h := zS_f h hk54
                                                                                                                    by_cases hk55 : (zand v29 (127 : Int)) = 55
                                                                                                                    · have h := zS_t h hk55
                                                                                                                      refine E_tsw (pc := 33) (o := 1744) (t := 1777) (zDk zD_331_0_ok 21 rfl) (by rw [hk55]; decide +kernel) rfl (Or.inr (by rw [hk55]; decide)) ?_
                                                                                                                      exact ok_lQ_law_c1777 hq sc (lQ_law_c18 sc n) (ih) y3 M h
                                                                                                                    · have h := zS_f h hk55
                                                                                                                      by_cases hk56 : (zand v29 (127 : Int)) = 56
                                                                                                                      · have h := zS_t h hk56
                                                                                                                        refine E_tsw (pc := 33) (o := 1787) (t := 1820) (zDk zD_331_0_ok 21 rfl) (by rw [hk56]; decide +kernel) rfl (Or.inr (by rw [hk56]; decide)) ?_
                                                                                                                        exact ok_lQ_law_c1820 hq sc (lQ_law_c18 sc n) (ih) y3 M h
                                                                                                                      · have h := zS_f h hk56
                                                                                                                        by_cases hk57 : (zand v29 (127 : Int)) = 57
                                                                                                                        · have h := zS_t h hk57
                                                                                                                          refine E_tsw (pc := 33) (o := 1820) (t := 1853) (zDk zD_331_0_ok 21 rfl) (by rw [hk57]; decide +kernel) rfl (Or.inr (by rw [hk57]; decide)) ?_
                                                                                                                          exact ok_lQ_law_c1853 hq sc (lQ_law_c18 sc n) (ih) y3 M h
                                                                                                                        · have h := zS_f h hk57
                                                                                                                          by_cases hk58 : (zand v29 (127 : Int)) = 58
                                                                                                                          · have h := zS_t h hk58
                                                                                                                            refine E_tsw (pc := 33) (o := 1833) (t := 1866) (zDk zD_331_0_ok 21 rfl) (by rw [hk58]; decide +kernel) rfl (Or.inr (by rw [hk58]; decide)) ?_
                                                                                                                            exact ok_lQ_law_c1866 hq sc (lQ_law_c18 sc n) (ih) y3 M h
                                                                                                                          · have h := zS_f h hk58
                                                                                                                            by_cases hk59 : (zand v29 (127 : Int)) = 59
                                                                                                                            · have h := zS_t h hk59
                                                                                                                              refine E_tsw (pc := 33) (o := 1846) (t := 1879) (zDk zD_331_0_ok 21 rfl) (by rw [hk59]; decide +kernel) rfl (Or.inr (by rw [hk59]; decide)) ?_
                                                                                                                              exact ok_lQ_law_c1879 hq sc (lQ_law_c18 sc n) (ih) y3 M h
                                                                                                                            · have h := zS_f h hk59
                                                                                                                              by_cases hk60 : (zand v29 (127 : Int)) = 60
                                                                                                                              · have h := zS_t h hk60
                                                                                                                                refine E_tsw (pc := 33) (o := 1879) (t := 1912) (zDk zD_331_0_ok 21 rfl) (by rw [hk60]; decide +kernel) rfl (Or.inr (by rw [hk60]; decide)) ?_
                                                                                                                                exact ok_lQ_law_c1912 hq sc (lQ_law_c18 sc n) (ih) y3 M h
                                                                                                                              · have h := zS_f h hk60
                                                                                                                                by_cases hk61 : (zand v29 (127 : Int)) = 61
                                                                                                                                · have h := zS_t h hk61
                                                                                                                                  refine E_tsw (pc := 33) (o := 1922) (t := 1955) (zDk zD_331_0_ok 21 rfl) (by rw [hk61]; decide +kernel) rfl (Or.inr (by rw [hk61]; decide)) ?_
                                                                                                                                  exact ok_lQ_law_c1955 hq sc (lQ_law_c18 sc n) (ih) y3 M h
                                                                                                                                · have h := zS_f h hk61
                                                                                                                                  by_cases hk62 : (zand v29 (127 : Int)) = 62
                                                                                                                                  · have h := zS_t h hk62
                                                                                                                                    refine E_tsw (pc := 33) (o := 1955) (t := 1988) (zDk zD_331_0_ok 21 rfl) (by rw [hk62]; decide +kernel) rfl (Or.inr (by rw [hk62]; decide)) ?_
                                                                                                                                    exact ok_lQ_law_c1988 hq sc (lQ_law_c18 sc n) (ih) y3 M h
                                                                                                                                  · have h := zS_f h hk62
                                                                                                                                    by_cases hk63 : (zand v29 (127 : Int)) = 63
                                                                                                                                    · have h := zS_t h hk63
                                                                                                                                      refine E_tsw (pc := 33) (o := 1978) (t := 2011) (zDk zD_331_0_ok 21 rfl) (by rw [hk63]; decide +kernel) rfl (Or.inr (by rw [hk63]; decide)) ?_
                                                                                                                                      exact ok_lQ_law_c2011 hq sc (lQ_law_c18 sc n) (ih) y3 M h
                                                                                                                                    · have h := zS_f h hk63
                                                                                                                                      by_cases hk64 : (zand v29 (127 : Int)) = 64
                                                                                                                                      · have h := zS_t h hk64
                                                                                                                                        refine E_tsw (pc := 33) (o := 2001) (t := 2034) (zDk zD_331_0_ok 21 rfl) (by rw [hk64]; decide +kernel) rfl (Or.inr (by rw [hk64]; decide)) ?_
                                                                                                                                        exact ok_lQ_law_c2034 hq sc (lQ_law_c18 sc n) (ih) y3 M h
                                                                                                                                      · have h := zS_f h hk64
                                                                                                                                        by_cases hk65 : (zand v29 (127 : Int)) = 65
                                                                                                                                        · have h := zS_t h hk65
                                                                                                                                          refine E_tsw (pc := 33) (o := 2024) (t := 2057) (zDk zD_331_0_ok 21 rfl) (by rw [hk65]; decide +kernel) rfl (Or.inr (by rw [hk65]; decide)) ?_
                                                                                                                                          exact ok_lQ_law_c2057 hq sc (lQ_law_c18 sc n) (ih) y3 M h
                                                                                                                                        · have h := zS_f h hk65
                                                                                                                                          by_cases hk66 : (zand v29 (127 : Int)) = 66
                                                                                                                                          · have h := zS_t h hk66
                                                                                                                                            refine E_tsw (pc := 33) (o := 2067) (t := 2100) (zDk zD_331_0_ok 21 rfl) (by rw [hk66]; decide +kernel) rfl (Or.inr (by rw [hk66]; decide)) ?_
                                                                                                                                            exact ok_lQ_law_c2100 hq sc (lQ_law_c18 sc n) (ih) y3 M h
                                                                                                                                          · have h := zS_f h hk66
                                                                                                                                            by_cases hk67 : (zand v29 (127 : Int)) = 67
                                                                                                                                            · have h := zS_t h hk67
                                                                                                                                              refine E_tsw (pc := 33) (o := 2140) (t := 2173) (zDk zD_331_0_ok 21 rfl) (by rw [hk67]; decide +kernel) rfl (Or.inr (by rw [hk67]; decide)) ?_
                                                                                                                                              exact ok_lQ_law_c2173 hq sc (lQ_law_c18 sc n) (ih) y3 M h
                                                                                                                                            · have h := zS_f h hk67
                                                                                                                                              refine E_tsw (pc := 33) (o := 2203) (t := 2236) (zDk zD_331_0_ok 21 rfl) (if_pos (by omega)) rfl (Or.inl (by omega)) ?_
                                                                                                                                              refine W_iinc (pc := 2236) (L' := [some (.inr (.inr 5001)), some (.inr (.inr 0)), some (.inr (.inr 106)), some (.inl (w32 (y3 + 6)))]) (zDk zD_331_25_ok 24 rfl) rfl zm_331 (by decide) rfl ?_
                                                                                                                                              refine E_goto (pc := 2239) (t := 18) (zDk zD_331_25_ok 25 rfl) rfl ?_
                                                                                                                                              exact (ih) (w32 (y3 + 6)) M h
