/-! Both read a contract. -/
section ZCO
variable {T : Nat → Int} {s b : Nat} {A B : Nat → Nat → Int}
theorem lR_takeNumber_no {lo hi bar : Int} (h : A 1 2 ≠ 0) : lR_takeNumber lo hi bar A = some (0, A) := by
  unfold lR_takeNumber
  rw [if_neg h]
theorem zpc_or_all : (List.range 32).all (fun X => (List.range 5).all (fun p => X.testBit p || decide (zpc 12 (X ||| (1 <<< p)) = zpc 12 X + 1 ∧ X ||| (1 <<< p) < 32))) = true := by decide +kernel
theorem zpc_or {X p : Nat} (hX : X < 32) (hp : p < 5) (h : X.testBit p = false) : zpc 12 (X ||| (1 <<< p)) = zpc 12 X + 1 ∧ X ||| (1 <<< p) < 32 := by
  have q := List.all_eq_true.mp (List.all_eq_true.mp zpc_or_all X (List.mem_range.mpr hX)) p (List.mem_range.mpr hp)
  rw [h, Bool.false_or] at q
  exact of_decide_eq_true q
/-- one more name -/
def zPik (T : Nat → Int) (s b n X : Nat) (A B : Nat → Nat → Int) (r q : Int × (Nat → Nat → Int)) : Prop := zPo T s b A B r.2 q.2 ∧ (r.2 1 2 = 0 → ∃ P : Nat, P < n ∧ r.1 = (P : Int) ∧ X.testBit P = false ∧ q.1 = ((X ||| (1 <<< P) : Nat) : Int)) ∧ (r.2 1 2 ≠ 0 → r.1 = 0 ∧ q.1 = (X : Int))
theorem zY_pick0 {n X : Nat} {bar : Int} (h : zLx T s b A B) (e6 : B 112 6 = (n : Int)) (hn : n ≤ 5) (hX : X < 32) (hb : A 1 2 = 0 → A 1 4 = 2 → A 1 7 < 8 → 0 ≤ A 1 7 → A 1 7 ≤ (n : Int) - 1 → zand (zshr bar (A 1 7)) 1 = 0 ∧ X.testBit (A 1 7).toNat = false) : zY (lR_takeNumber 0 (w32 ((n : Int) - 1)) bar A) (lm_freshName_c54 (X : Int) B) (zPik T s b n X A B) := by
  unfold lm_freshName_c54
  refine zY_k (rdI_n (i := 6) sh_112 (by omega)) ?_
  rw [e6, w32_eq (by omega) (by omega)]
  obtain ⟨r, q, er, eq, n1⟩ := zY_num (lo := 0) (hi := (n : Int) - 1) (bar := bar) h (by omega) (by omega) (fun c1 c2 c3 c4 c5 => (hb c1 c2 c3 c4 c5).1)
  rw [er]
  refine zY_k eq ?_
  refine zY_k lm_good_eq ?_
  have h12 : q.2 106 12 = r.2 1 2 := n1.2.1.1.2.2.2.1
  by_cases c : r.2 1 2 = 0
  · rw [zbo_t (h12.trans c), if_neg (by decide)]
    obtain ⟨m1, m2, m3, m4⟩ := n1.2.2.1 c
    obtain ⟨P, hP⟩ : ∃ P : Nat, r.1 = (P : Int) := ⟨r.1.toNat, by omega⟩
    have hbb := (hb (n1.2.1.2.2 c) m4 (by omega) (by omega) (by omega)).2
    rw [← m3, hP, Int.toNat_natCast] at hbb
    rw [n1.1, hP, zor_bit1 (by omega) (by omega)]
    exact zY_r ⟨n1.2.1, fun _ => ⟨P, by omega, hP, hbb, rfl⟩, fun g => absurd c g⟩
  · rw [zbo_f (fun g => c (h12.symm.trans g)), if_pos rfl]
    exact zY_r ⟨n1.2.1, fun g => absurd g c, fun _ => ⟨n1.2.2.2 c, rfl⟩⟩
theorem zY_pick {n X : Nat} {bar : Int} (h : zLx T s b A B) (e6 : B 112 6 = (n : Int)) (hn : n ≤ 5) (hX : X < 32) (hbar : A 1 2 = 0 → bar = (X : Int)) : zY (lR_takeNumber 0 (w32 ((n : Int) - 1)) bar A) (lm_freshName (X : Int) B) (zPik T s b n X A B) := by
  have h12 : B 106 12 = A 1 2 := h.2.2.2.1
  have h10 : B 106 10 = A 1 4 := h.2.2.2.2.2.1
  have h11 : A 1 4 = 2 → B 106 11 = zmin 99999 (A 1 7) := h.2.2.2.2.2.2.2.2.1
  unfold lm_freshName
  refine zY_k lm_good_eq ?_
  by_cases c1 : A 1 2 = 0
  · rw [zbo_t (h12.trans c1)]
    refine zY_ke (by decide) ?_
    rw [h10]
    by_cases c2 : A 1 4 = 2
    · refine zY_kt c2 ?_
      rw [h11 c2, hbar c1]
      refine zY_k (rdI_n (i := 6) sh_112 (by omega)) ?_
      rw [e6]
      refine zY_k lm_in_eq ?_
      rw [w32_eq (x := (n : Int) - 1) (by omega) (by omega)]
      have e7 : w32 ((n : Int) - 1) = (n : Int) - 1 := w32_eq (by omega) (by omega)
      have hin : (0 ≤ zmin 99999 (A 1 7) ∧ zmin 99999 (A 1 7) ≤ (n : Int) - 1) ↔ (0 ≤ A 1 7 ∧ A 1 7 ≤ (n : Int) - 1) := by
        unfold zmin
        split <;> omega
      by_cases c3 : 0 ≤ A 1 7 ∧ A 1 7 ≤ (n : Int) - 1
      · rw [zbo_t (hin.mpr c3)]
        refine zY_ke (by decide) ?_
        obtain ⟨V, hV⟩ : ∃ V : Nat, A 1 7 = (V : Int) := ⟨(A 1 7).toNat, by omega⟩
        have ez : zmin 99999 (A 1 7) = (V : Int) := by
          unfold zmin
          rw [if_pos (by omega), hV]
        rw [ez]
        refine zY_k (lm_bit_eq (by omega) (by omega)) ?_
        by_cases c4 : X.testBit V = true
        · rw [c4, if_pos rfl]
          refine zY_kt rfl ?_
          have hbit : zand (zshr (X : Int) (A 1 7)) 1 ≠ 0 := by
            rw [hV, zbit_nat (by omega) (by omega), c4]
            decide
          obtain ⟨r, B5, er, eb, q1, q2, q3⟩ := zY_bar (lo := 0) (hi := (n : Int) - 1) (bar := (X : Int)) h c1 c2 (by omega) hbit
          rw [er, eb]
          refine zY_k rfl ?_
          unfold lm_freshName_c54
          refine zY_k (rdI_n (i := 6) sh_112 (by omega)) ?_
          refine zY_k (lm_number_no (zPo_12 q2 q3)) ?_
          refine zY_k lm_good_eq ?_
          rw [zbo_f (zPo_12 q2 q3), if_pos rfl]
          exact zY_r ⟨q2, fun g => absurd g q3, fun _ => ⟨q1, rfl⟩⟩
        · have c4' : X.testBit V = false := by simpa using c4
          rw [if_neg c4]
          refine zY_ke (by decide) ?_
          have q := zY_pick0 (bar := (X : Int)) h e6 hn hX (fun _ _ _ _ _ => by
            rw [hV, zbit_nat (by omega) (by omega), c4', Int.toNat_natCast]
            exact ⟨rfl, c4'⟩)
          rw [e7] at q
          exact q
      · rw [zbo_f (fun g => c3 (hin.mp g))]
        refine zY_kt rfl ?_
        have q := zY_pick0 (bar := (X : Int)) h e6 hn hX (fun _ _ _ c5 c6 => absurd ⟨c5, c6⟩ c3)
        rw [e7] at q
        exact q
    · refine zY_ke c2 ?_
      exact zY_pick0 h e6 hn hX (fun _ g => absurd g c2)
  · rw [zbo_f (fun g => c1 (h12.symm.trans g))]
    refine zY_kt rfl ?_
    exact zY_pick0 h e6 hn hX (fun g => absurd g c1)
set_option maxHeartbeats 1000000 in
theorem zY_contract {a b' c d : Nat} (h : zLx T s b A B) (hk : zK a b' c d A (B 112)) (c0 : A 1 2 = 0) (hi : zwi 5017 A = true) : zY (lR_readContract 13 A) (lm_readNext B) (zBd T s b A B) := by
  obtain ⟨_, _, _, _, _, e1, e2, e3, e4, _⟩ := zwd_e
  obtain ⟨⟨⟨g0, g1, g2, g3, g5, g6, g7, g8⟩, ⟨k4, k5, k6, k7, k8⟩, _, h4, h5, h6, h7⟩, _⟩ := id hk
  have hkw : zKw4 A := Or.inr (Or.inr (Or.inr hi))
  have hx0 : ¬ (zwi 5008 A = true) := fun q => ((zwi_x h).1 q).2.2 hi
  have hx1 : ¬ (zwi 5010 A = true) := fun q => ((zwi_x h).2.1 q).2 hi
  have hx2 : ¬ (zwi 5012 A = true) := fun q => (zwi_x h).2.2 q hi
  unfold lR_readContract
  rw [if_pos (show zis 6 13 = true from zis_6_13), g8]
  by_cases ca : d = 6
  · rw [if_neg (by omega)]
    refine zY_ls (zY_mono (zY_full h hkw (Or.inr (Or.inr (Or.inr ⟨hi, by omega⟩)))) ?_)
    intro A' B' ⟨q1, q2⟩
    exact zBd_po q1 q2
  · have hf : ¬ zFul A B := by
      intro q
      rcases q with q | q | q | q
      · exact hx0 q.1
      · exact hx1 q.1
      · exact hx2 q.1
      · have := q.2; omega
    rw [if_pos (by omega), lm_readNext_go h hkw hf]
    unfold lm_readNext_c63
    refine zY_k lm_good_eq ?_
    have h12 : B 106 12 = A 1 2 := h.2.2.2.1
    rw [zbo_t (h12.trans c0)]
    refine zY_ke (by decide) ?_
    refine zY_k (lm_takes_no h (by omega) e1 hx0) ?_
    refine zY_kt rfl ?_
    refine zY_k (lm_takes_no h (by omega) e2 hx1) ?_
    refine zY_kt rfl ?_
    refine zY_k (lm_takes_no h (by omega) e3 hx2) ?_
    refine zY_kt rfl ?_
    refine zY_m (zY_go h (by omega) hi) ?_
    intro A1 B1 ⟨p1, _⟩
    refine zY_ks ?_
    have fa1 : ∀ c, c ≠ 1 → A1 c = A c := p1.2.1.1
    have fb1 : ∀ c, c ≠ 106 → B1 c = B c := p1.2.1.2.1
    have fc1 : B1 106 5 = B 106 5 := p1.2.1.2.2
    unfold lm_readContract
    have hd6 : d < 6 := by omega
    have hfin : ∀ (A6 B6 : Nat → Nat → Int) (y z : Int), zLx T s b A6 B6 → (∀ e, e ≠ 1 → A6 e = A e) → (∀ e, e ≠ 106 → B6 e = B e) → B6 106 5 = B 106 5 → (A6 1 2 = 0 → ∃ t : Nat, y = (t : Int) ∧ z = (t : Int) ∧ t < 2 ^ c ∧ (zpc 12 t = 2 ∨ zpc 12 t = 3)) → zY ((wrI (13 + 9) (A6 13 8) y A6).bind (fun M87 => ((some (zup M87 13 8 (w32 ((M87 13 8) + 1)))).bind (fun M95 => (some M95))))) (lm_readContract_c31 z B6) (zBd T s b A B) := fun A6 B6 y z x6 fa6 fb6 fc6 ht => by
      unfold lm_readContract_c31
      rw [fa6 13 (by omega), g8]
      refine zY_l (wrI_n (i := d) (sh_T9 zis_6_13) (by omega)) ?_
      refine zY_l rfl ?_
      refine zY_k (rdI_n (i := 7) sh_112 (by omega)) ?_
      rw [fb6 112 (by omega), k7, show w32 (102 + (d : Int)) = ((102 + d : Nat) : Int) by rw [w32_eq (by omega) (by omega)]; omega]
      refine zY_k (wrI_n (i := 102 + d) sh_112 (by omega)) ?_
      refine zY_k (rdI_n (i := 7) sh_112 (by omega)) ?_
      have e13 : zup A6 (13 + 9) d y 13 8 = (d : Int) := by
        rw [zup_c (by omega), fa6 13 (by omega), g8]
      have e112 : zup B6 112 (102 + d) z 112 7 = (d : Int) := by
        rw [zup_i (by omega), fb6 112 (by omega), k7]
      rw [e13, e112, w1 (by omega)]
      refine zY_k (wrI_n (i := 7) sh_112 (by omega)) ?_
      refine zY_r ⟨zLx_cg x6 ?_ ?_ ?_ ?_, fun e h1 h2 => ?_, fun e h1 h2 => ?_, ?_, ?_, ?_, fun hg => ?_⟩
      · rw [zup_c (by omega), zup_c (by omega)]
      · rw [zup_c (by omega), zup_c (by omega)]
      · rw [zup_c (by omega), zup_c (by omega)]
      · rw [zup_c (by omega), zup_c (by omega)]
      · rw [zup_c (by omega), zup_c (by omega), fa6 e h1]
      · rw [zup_c h2, zup_c h2, fb6 e h1]
      · rw [zup_c (by omega), zup_c (by omega), fc6]
      · rw [zup_i (by omega), zup_c (by omega), fa6 13 (by omega)]
      · rw [zup_i (by omega), zup_i (by omega), fb6 112 (by omega)]
      · have hg' : A6 1 2 = 0 := by
          have q : zup (zup A6 (13 + 9) d y) 13 8 ((d + 1 : Nat) : Int) 1 2 = 0 := hg
          rw [zup_c (by omega), zup_c (by omega)] at q
          exact q
        obtain ⟨t, t1, t2, t3, t4⟩ := ht hg'
        refine ⟨a, b', c, d + 1, zK_contract (t := t) hk hd6 t3 t4 ?_ zup_s (fun i i1 i2 => ?_) (fun j => ?_) (fun j => ?_) (fun j j1 j2 => ?_)⟩
        · rw [zup_i (by omega), zup_s, t2]
        · rw [zup_i i2, zup_i i1, fb6 112 (by omega)]
        · rw [zup_c (by omega)]
          refine zup_a.trans ?_
          rw [fa6 22 (by omega), t1]
        · rw [zup_a, zup_c (by omega), fa6 13 (by omega)]
        · rw [zup_c (by omega), zup_c (by omega), fa6 j (by omega)]
    rw [fa1 13 (by omega), g7]
    refine zY_m (zY_pick (n := c) (X := 0) (bar := 0) p1.1 (by rw [fb1 112 (by omega), k6]) h6 (by omega) (fun _ => rfl)) ?_
    intro r1 q1 ⟨n1, n1g, n1b⟩
    have fa2 : ∀ e, e ≠ 1 → r1.2 e = A e := fun e he => (n1.2.1.1 e he).trans (fa1 e he)
    have fb2 : ∀ e, e ≠ 106 → q1.2 e = B e := fun e he => (n1.2.1.2.1 e he).trans (fb1 e he)
    have fc2 : q1.2 106 5 = B 106 5 := n1.2.1.2.2.trans fc1
    have hs1 : ∃ X1 : Nat, X1 < 32 ∧ q1.1 = (X1 : Int) ∧ (r1.2 1 2 = 0 → X1 < 2 ^ c ∧ zpc 12 X1 = 1 ∧ zshl 1 r1.1 = (X1 : Int)) := by
      by_cases cg : r1.2 1 2 = 0
      · obtain ⟨P, hP, rP, tP, qP⟩ := n1g cg
        have z := zpc_or (X := 0) (p := P) (by omega) (by omega) tP
        have z0 : zpc 12 0 = 0 := by decide
        have z2 := zor_bit1 (a := 0) (k := P) (by omega) (by omega)
        refine ⟨0 ||| (1 <<< P), z.2, qP, fun _ => ⟨zor_bit1_lt (Nat.two_pow_pos c) hP, by omega, ?_⟩⟩
        rw [rP, ← z2]
        have h1 : (1 : Nat) <<< P = 2 ^ P := Nat.one_shiftLeft P
        have hp : (2 : Nat) ^ P ≤ 2 ^ 29 := Nat.pow_le_pow_right (by decide) (by omega)
        have h29 : (2 : Nat) ^ 29 = 536870912 := by decide
        have e3 : zshl ((1 : Nat) : Int) (P : Int) = ((1 <<< P : Nat) : Int) := zshl_nat (by omega) (by omega)
        have e4 : ((1 : Nat) : Int) = 1 := rfl
        rw [e4] at e3
        rw [z2, e3, Nat.zero_or]
      · exact ⟨0, by omega, (n1b cg).2, fun g => absurd g cg⟩
    obtain ⟨X1, hX1, eX1, gX1⟩ := hs1
    rw [fa2 13 (by omega), g7, eX1]
    refine zY_m (zY_pick (n := c) (X := X1) (bar := zshl 1 r1.1) n1.1 (by rw [fb2 112 (by omega), k6]) h6 hX1 (fun g => (gX1 g).2.2)) ?_
    intro r2 q2 ⟨n2, n2g, n2b⟩
    have fa3 : ∀ e, e ≠ 1 → r2.2 e = A e := fun e he => (n2.2.1.1 e he).trans (fa2 e he)
    have fb3 : ∀ e, e ≠ 106 → q2.2 e = B e := fun e he => (n2.2.1.2.1 e he).trans (fb2 e he)
    have fc3 : q2.2 106 5 = B 106 5 := n2.2.1.2.2.trans fc2
    have hs2 : ∃ X2 : Nat, X2 < 32 ∧ q2.1 = (X2 : Int) ∧ (r2.2 1 2 = 0 → X2 < 2 ^ c ∧ zpc 12 X2 = 2 ∧ zor (zshl 1 r1.1) (zshl 1 r2.1) = (X2 : Int)) := by
      by_cases cg : r2.2 1 2 = 0
      · obtain ⟨P, hP, rP, tP, qP⟩ := n2g cg
        obtain ⟨x1, x2, x3⟩ := gX1 (n2.2.2 cg)
        have z := zpc_or (X := X1) (p := P) hX1 (by omega) tP
        refine ⟨X1 ||| (1 <<< P), z.2, qP, fun _ => ⟨zor_bit1_lt x1 hP, by omega, ?_⟩⟩
        rw [x3, rP, zor_bit1 (by omega) (by omega)]
      · exact ⟨X1, hX1, (n2b cg).2, fun g => absurd g cg⟩
    obtain ⟨X2, hX2, eX2, gX2⟩ := hs2
    have h12' : q2.2 106 12 = r2.2 1 2 := n2.1.2.2.2.1
    have h10' : q2.2 106 10 = r2.2 1 4 := n2.1.2.2.2.2.2.1
    rw [fa3 13 (by omega), g7, eX2]
    refine zY_k lm_good_eq ?_
    by_cases cg : r2.2 1 2 = 0
    · rw [zbo_t (h12'.trans cg)]
      refine zY_ke (by decide) ?_
      rw [h10']
      obtain ⟨x1, x2, x3⟩ := gX2 cg
      by_cases ck : r2.2 1 4 = 2
      · refine zY_lt ck (zY_kt ck ?_)
        refine zY_m (zY_pick (n := c) (X := X2) (bar := zor (zshl 1 r1.1) (zshl 1 r2.1)) n2.1 (by rw [fb3 112 (by omega), k6]) h6 hX2 (fun _ => x3)) ?_
        intro r3 q3 ⟨n3, n3g, n3b⟩
        refine hfin r3.2 q3.2 _ _ n3.1 (fun e he => (n3.2.1.1 e he).trans (fa3 e he)) (fun e he => (n3.2.1.2.1 e he).trans (fb3 e he)) (n3.2.1.2.2.trans fc3) (fun g => ?_)
        obtain ⟨P, hP, rP, tP, qP⟩ := n3g g
        have z := zpc_or (X := X2) (p := P) hX2 (by omega) tP
        refine ⟨X2 ||| (1 <<< P), ?_, qP, zor_bit1_lt x1 hP, Or.inr (by omega)⟩
        rw [x3, rP, zor_bit1 (by omega) (by omega)]
      · refine zY_le ck (zY_ke ck ?_)
        rw [← fa3 13 (by omega)]
        exact hfin r2.2 q2.2 _ _ n2.1 fa3 fb3 fc3 (fun _ => ⟨X2, x3, rfl, x1, Or.inl x2⟩)
    · rw [zbo_f (fun g => cg (h12'.symm.trans g))]
      refine zY_kt rfl ?_
      by_cases ck : r2.2 1 4 = 2
      · refine zY_lt ck ?_
        refine zY_l (lR_takeNumber_no cg) ?_
        exact hfin r2.2 q2.2 _ _ n2.1 fa3 fb3 fc3 (fun g => absurd g cg)
      · refine zY_le ck ?_
        rw [← fa3 13 (by omega)]
        exact hfin r2.2 q2.2 _ _ n2.1 fa3 fb3 fc3 (fun g => absurd g cg)
end ZCO
