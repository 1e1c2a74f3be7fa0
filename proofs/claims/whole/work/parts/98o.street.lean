/-! Both read a street, a well. -/
section ZSW
variable {T : Nat → Int} {s b : Nat} {A B : Nat → Nat → Int}
theorem zY_ks {α β : Type} {f : Option α} {g : Option β} {R : α → β → Prop} (h : zY f g R) : zY f (g.bind (fun x => some x)) R := by
  obtain ⟨x, y, ex, ey, hr⟩ := h
  rw [ex, ey]
  exact zY_r hr
theorem zY_ls {α β : Type} {f : Option α} {g : Option β} {R : α → β → Prop} (h : zY f g R) : zY (f.bind (fun x => some x)) g R := by
  obtain ⟨x, y, ex, ey, hr⟩ := h
  rw [ex, ey]
  exact zY_r hr
theorem zwi_x (h : zLx T s b A B) : (zwi 5008 A = true → ¬ (zwi 5010 A = true) ∧ ¬ (zwi 5012 A = true) ∧ ¬ (zwi 5017 A = true)) ∧ (zwi 5010 A = true → ¬ (zwi 5012 A = true) ∧ ¬ (zwi 5017 A = true)) ∧ (zwi 5012 A = true → ¬ (zwi 5017 A = true)) := by
  obtain ⟨l1, l2, l3, l4, l5⟩ := zwd_l
  have hl : ∀ w, zwi w A = true → A 1 6 - A 1 5 = (zwl w : Int) := fun w q => (zwi_1.mp q).1.2.2
  refine ⟨fun q => ⟨fun r => ?_, fun r => ?_, fun r => ?_⟩, fun q => ⟨fun r => ?_, fun r => ?_⟩, fun q r => ?_⟩
  · have := hl _ q; have := hl _ r; omega
  · have := hl _ q; have := hl _ r; omega
  · have := hl _ q; have := hl _ r; omega
  · have e1 := of_decide_eq_true (zal_1.mp (zwi_1.mp q).2 0 (by omega))
    have e2 := of_decide_eq_true (zal_1.mp (zwi_1.mp r).2 0 (by omega))
    exact l5 (e1.symm.trans e2)
  · have := hl _ q; have := hl _ r; omega
  · have := hl _ q; have := hl _ r; omega
theorem lm_isFull_c61_eq (h : zLx T s b A B) : lm_isFull_c61 B = some (zbo (zwi 5017 A = true ∧ B 112 7 = 6)) := by
  obtain ⟨_, _, _, _, _, e1, e2, e3, e4, _⟩ := zwd_e
  unfold lm_isFull_c61
  refine zS_eq (zS_b (lm_is_ok h (by omega) e4) ?_)
  by_cases hi : zwi 5017 A = true
  · rw [zbo_t hi]
    refine zS_ie (by decide) ?_
    refine zS_b (rdI_n (i := 7) sh_112 (by omega)) ?_
    exact zS_if (fun c => zS_r (zbo_t ⟨hi, c⟩).symm) (fun c => zS_r (zbo_f (fun q => c q.2)).symm)
  · rw [zbo_f hi]
    exact zS_it rfl (zS_r (zbo_f (fun q => hi q.1)).symm)
theorem lm_isFull_c41_eq (h : zLx T s b A B) : lm_isFull_c41 B = some (zbo ((zwi 5012 A = true ∧ B 112 6 = 5) ∨ (zwi 5017 A = true ∧ B 112 7 = 6))) := by
  obtain ⟨_, _, _, _, _, e1, e2, e3, e4, _⟩ := zwd_e
  unfold lm_isFull_c41
  refine zS_eq (zS_b (lm_is_ok h (by omega) e3) ?_)
  by_cases hi : zwi 5012 A = true
  · rw [zbo_t hi]
    refine zS_ie (by decide) ?_
    refine zS_b (rdI_n (i := 6) sh_112 (by omega)) ?_
    exact zS_if (fun c => zS_r (zbo_t (Or.inl ⟨hi, c⟩)).symm) (fun c => zS_e (lm_isFull_c61_eq h) (zbo_congr ⟨Or.inr, fun q => q.elim (fun q => absurd q.2 c) id⟩))
  · rw [zbo_f hi]
    exact zS_it rfl (zS_e (lm_isFull_c61_eq h) (zbo_congr ⟨Or.inr, fun q => q.elim (fun q => absurd q.1 hi) id⟩))
theorem lm_isFull_c20_eq (h : zLx T s b A B) : lm_isFull_c20 B = some (zbo ((zwi 5010 A = true ∧ B 112 5 = 4) ∨ (zwi 5012 A = true ∧ B 112 6 = 5) ∨ (zwi 5017 A = true ∧ B 112 7 = 6))) := by
  obtain ⟨_, _, _, _, _, e1, e2, e3, e4, _⟩ := zwd_e
  unfold lm_isFull_c20
  refine zS_eq (zS_b (lm_is_ok h (by omega) e2) ?_)
  by_cases hi : zwi 5010 A = true
  · rw [zbo_t hi]
    refine zS_ie (by decide) ?_
    refine zS_b (rdI_n (i := 5) sh_112 (by omega)) ?_
    exact zS_if (fun c => zS_r (zbo_t (Or.inl ⟨hi, c⟩)).symm) (fun c => zS_e (lm_isFull_c41_eq h) (zbo_congr ⟨Or.inr, fun q => q.elim (fun q => absurd q.2 c) id⟩))
  · rw [zbo_f hi]
    exact zS_it rfl (zS_e (lm_isFull_c41_eq h) (zbo_congr ⟨Or.inr, fun q => q.elim (fun q => absurd q.1 hi) id⟩))
/-- the line's kind is full -/
def zFul (A B : Nat → Nat → Int) : Prop := (zwi 5008 A = true ∧ B 112 4 = 12) ∨ (zwi 5010 A = true ∧ B 112 5 = 4) ∨ (zwi 5012 A = true ∧ B 112 6 = 5) ∨ (zwi 5017 A = true ∧ B 112 7 = 6)
theorem lm_isFull_eq (h : zLx T s b A B) : (zFul A B → lm_isFull B = some 1) ∧ (¬ zFul A B → lm_isFull B = some 0) := by
  obtain ⟨_, _, _, _, _, e1, e2, e3, e4, _⟩ := zwd_e
  have key : lm_isFull B = some (zbo ((zwi 5008 A = true ∧ B 112 4 = 12) ∨ (zwi 5010 A = true ∧ B 112 5 = 4) ∨ (zwi 5012 A = true ∧ B 112 6 = 5) ∨ (zwi 5017 A = true ∧ B 112 7 = 6))) := by
    unfold lm_isFull
    refine zS_eq (zS_b (lm_is_ok h (by omega) e1) ?_)
    by_cases hi : zwi 5008 A = true
    · rw [zbo_t hi]
      refine zS_ie (by decide) ?_
      refine zS_b (rdI_n (i := 4) sh_112 (by omega)) ?_
      exact zS_if (fun c => zS_r (zbo_t (Or.inl ⟨hi, c⟩)).symm) (fun c => zS_e (lm_isFull_c20_eq h) (zbo_congr ⟨Or.inr, fun q => q.elim (fun q => absurd q.2 c) id⟩))
    · rw [zbo_f hi]
      exact zS_it rfl (zS_e (lm_isFull_c20_eq h) (zbo_congr ⟨Or.inr, fun q => q.elim (fun q => absurd q.1 hi) id⟩))
  exact ⟨fun q => key.trans (congrArg some (zbo_t q)), fun q => key.trans (congrArg some (zbo_f q))⟩
/-- the line's word is known -/
def zKw4 (A : Nat → Nat → Int) : Prop := zwi 5008 A = true ∨ zwi 5010 A = true ∨ zwi 5012 A = true ∨ zwi 5017 A = true
theorem lm_readNext_1 (h : zLx T s b A B) (hk : zKw4 A) : lm_readNext B = lm_readNext_c41 1 B := by
  obtain ⟨_, _, _, _, _, e1, e2, e3, e4, _⟩ := zwd_e
  unfold lm_readNext
  rw [lm_is_ok h (by omega) e1, Option.bind_some]
  by_cases h1 : zwi 5008 A = true
  · rw [zbo_t h1, if_neg (by decide)]
  rw [zbo_f h1, if_pos rfl, lm_is_ok h (by omega) e2, Option.bind_some]
  by_cases h2 : zwi 5010 A = true
  · rw [zbo_t h2, if_neg (by decide)]
  rw [zbo_f h2, if_pos rfl, lm_is_ok h (by omega) e3, Option.bind_some]
  by_cases h3 : zwi 5012 A = true
  · rw [zbo_t h3, if_neg (by decide)]
  rw [zbo_f h3, if_pos rfl, lm_is_ok h (by omega) e4, Option.bind_some]
  by_cases h4 : zwi 5017 A = true
  · rw [zbo_t h4, if_neg (by decide)]
  rcases hk with q | q | q | q
  · exact absurd q h1
  · exact absurd q h2
  · exact absurd q h3
  · exact absurd q h4
theorem lm_readNext_0 (h : zLx T s b A B) (hk : ¬ zKw4 A) : lm_readNext B = lm_readNext_c41 0 B := by
  obtain ⟨_, _, _, _, _, e1, e2, e3, e4, _⟩ := zwd_e
  unfold lm_readNext
  rw [lm_is_ok h (by omega) e1, Option.bind_some, zbo_f (fun q => hk (Or.inl q)), if_pos rfl, lm_is_ok h (by omega) e2, Option.bind_some, zbo_f (fun q => hk (Or.inr (Or.inl q))), if_pos rfl, lm_is_ok h (by omega) e3, Option.bind_some, zbo_f (fun q => hk (Or.inr (Or.inr (Or.inl q)))), if_pos rfl, lm_is_ok h (by omega) e4, Option.bind_some, zbo_f (fun q => hk (Or.inr (Or.inr (Or.inr q)))), if_pos rfl]
theorem lm_readNext_c63_no (h : B 106 12 ≠ 0) : lm_readNext_c63 B = some B := by
  unfold lm_readNext_c63
  rw [lm_good_eq, Option.bind_some, zbo_f h, if_pos rfl]
theorem lm_readNext_go (h : zLx T s b A B) (hk : zKw4 A) (hf : ¬ zFul A B) : lm_readNext B = lm_readNext_c63 B := by
  rw [lm_readNext_1 h hk]
  unfold lm_readNext_c41
  rw [if_neg (by decide), (lm_isFull_eq h).2 hf, Option.bind_some, if_pos rfl]
theorem zY_full (h : zLx T s b A B) (hk : zKw4 A) (hf : zFul A B) : zY (lR_fail 3 A) (lm_readNext B) (fun A' B' => zPo T s b A B A' B' ∧ A' 1 2 ≠ 0) := by
  rw [lm_readNext_1 h hk]
  unfold lm_readNext_c41
  rw [if_neg (by decide), (lm_isFull_eq h).1 hf, Option.bind_some, if_neg (by decide)]
  obtain ⟨A', B', ea, eb, q1, q2⟩ := zY_fail (x := 3) h (by decide)
  rw [ea, eb, Option.bind_some, lm_readNext_c63_no (zPo_12 q1 q2)]
  exact zY_r ⟨q1, q2⟩
theorem zY_none (h : zLx T s b A B) (hk : ¬ zKw4 A) : zY (lR_fail 1 A) (lm_readNext B) (fun A' B' => zPo T s b A B A' B' ∧ A' 1 2 ≠ 0) := by
  rw [lm_readNext_0 h hk]
  unfold lm_readNext_c41
  rw [if_pos rfl]
  obtain ⟨A', B', ea, eb, q1, q2⟩ := zY_fail (x := 1) h (by decide)
  have hn : ∀ w, ¬ (zwi w A' = true) := fun w q => q2 (zwi_1.mp q).1.1
  have hf : ¬ zFul A' B' := by
    intro q
    rcases q with q | q | q | q <;> exact hn _ q.1
  rw [ea, eb, Option.bind_some, (lm_isFull_eq q1.1).2 hf, Option.bind_some, if_pos rfl, lm_readNext_c63_no (zPo_12 q1 q2)]
  exact zY_r ⟨q1, q2⟩
theorem zBd_po {A' B' : Nat → Nat → Int} (h : zPo T s b A B A' B') (g : A' 1 2 ≠ 0) : zBd T s b A B A' B' := by
  obtain ⟨h1, ⟨h2, h3, h4⟩, _⟩ := h
  exact ⟨h1, fun e e1 _ => h2 e e1, fun e e1 _ => h3 e e1, h4, by rw [h2 13 (by omega)], by rw [h3 112 (by omega)], fun q => absurd q g⟩
theorem zbar1 {F v : Nat} (hF : F < 30) (hv : v < 30) : zand (zshr (zshl 1 (F : Int)) (v : Int)) 1 = if v = F then 1 else 0 := by
  have h1 : (1 : Nat) <<< F = 2 ^ F := Nat.one_shiftLeft F
  have hp : (2 : Nat) ^ F ≤ 2 ^ 29 := Nat.pow_le_pow_right (by decide) (by omega)
  have h29 : (2 : Nat) ^ 29 = 536870912 := by decide
  have e3 : zshl ((1 : Nat) : Int) (F : Int) = ((1 <<< F : Nat) : Int) := zshl_nat (by omega) (by omega)
  have e4 : ((1 : Nat) : Int) = 1 := rfl
  rw [e4] at e3
  rw [e3, zbit_nat (by omega) (by omega), Nat.one_shiftLeft, Nat.testBit_two_pow]
  by_cases c : v = F
  · rw [if_pos c, decide_eq_true c.symm, if_pos rfl]
  · rw [if_neg c, decide_eq_false (fun q => c q.symm), if_neg (by decide)]
theorem zY_told2 {w w' : Nat} {lo hi : Int} {γ δ : Type} {k : (Nat → Nat → Int) → Option γ} {l : Int × (Nat → Nat → Int) → Option δ} {R : γ → δ → Prop} (h : zLx T s b A B) (hw : 5003 ≤ w ∧ w < 5033) (hw' : 5003 ≤ w' ∧ w' < 5033) (e : zwd w' = zwd w) (kk : ∀ (A1 B1 : Nat → Nat → Int), zPo T s b A B A1 B1 → zY (k A1) ((lm_number lo hi B1).bind l) R) : zY ((lR_takeWord w A).bind k) ((lm_told w' lo hi B).bind l) R := by
  obtain ⟨A1, B1, ea, eb, p1⟩ := zY_word h hw hw' e
  have et : lm_told w' lo hi B = lm_number lo hi B1 := by
    unfold lm_told
    rw [if_pos hw', eb, Option.bind_some]
    cases lm_number lo hi B1 <;> rfl
  rw [ea, et]
  exact kk A1 B1 p1
set_option maxHeartbeats 1000000 in
theorem zY_street {a b' c d : Nat} (h : zLx T s b A B) (hk : zK a b' c d A (B 112)) (c0 : A 1 2 = 0) (hi : zwi 5008 A = true) : zY (lR_readStreet 13 A) (lm_readNext B) (zBd T s b A B) := by
  obtain ⟨_, _, _, _, _, e1, e2, e3, e4, e5, _⟩ := zwd_e
  obtain ⟨⟨⟨g0, g1, g2, g3, g5, g6, g7, g8⟩, ⟨k4, k5, k6, k7, k8⟩, ⟨b0, b0', _⟩, h4, _⟩, _⟩ := id hk
  have hkw : zKw4 A := Or.inl hi
  have hx := (zwi_x h).1 hi
  unfold lR_readStreet
  rw [if_pos (show zis 6 13 = true from zis_6_13), g5]
  by_cases ca : a = 12
  · rw [if_neg (by omega)]
    refine zY_ls (zY_mono (zY_full h hkw (Or.inl ⟨hi, by omega⟩)) ?_)
    intro A' B' ⟨q1, q2⟩
    exact zBd_po q1 q2
  · have hf : ¬ zFul A B := by
      intro q
      rcases q with q | q | q | q
      · have := q.2; omega
      · exact hx.1 q.1
      · exact hx.2.1 q.1
      · exact hx.2.2 q.1
    rw [if_pos (by omega), lm_readNext_go h hkw hf]
    unfold lm_readNext_c63
    refine zY_k lm_good_eq ?_
    have h12 : B 106 12 = A 1 2 := h.2.2.2.1
    rw [zbo_t (h12.trans c0)]
    refine zY_ke (by decide) ?_
    refine zY_m (zY_take h (by omega) (by omega) e1 hi) ?_
    intro A1 q ⟨q1, p1, _⟩
    rw [q1]
    refine zY_ke (by decide) ?_
    refine zY_ks ?_
    have fa1 : ∀ c, c ≠ 1 → A1 c = A c := p1.2.1.1
    have fb1 : ∀ c, c ≠ 106 → q.2 c = B c := p1.2.1.2.1
    have fc1 : q.2 106 5 = B 106 5 := p1.2.1.2.2
    have x1 := p1.1
    generalize q.2 = B1 at fb1 fc1 x1 ⊢
    unfold lm_readStreet
    refine zY_k (rdI_n (i := 4) sh_112 (by omega)) ?_
    rw [fb1 112 (by omega), k4, fa1 13 (by omega), g0, show w32 (10 + w32 (2 * (a : Int))) = ((10 + 2 * a : Nat) : Int) by simp (disch := omega) only [w32_eq]; omega]
    refine zY_m (zY_corner (n0 := B 112 0) x1 (by rw [fb1 112 (by omega)]) ⟨b0, b0'⟩ (fun _ _ c6 c7 _ => zshr_0 c7 (by omega))) ?_
    intro r q2 n1
    have hr := zPn_b n1 (by omega) (by omega)
    obtain ⟨F, hF⟩ : ∃ F : Nat, r.1 = (F : Int) := ⟨r.1.toNat, by omega⟩
    have eq2 := n1.1
    have fa2 : ∀ c, c ≠ 1 → r.2 c = A c := fun c hc => (n1.2.1.2.1.1 c hc).trans (fa1 c hc)
    have fb2 : ∀ c, c ≠ 106 → q2.2 c = B c := fun c hc => (n1.2.1.2.1.2.1 c hc).trans (fb1 c hc)
    have fc2 : q2.2 106 5 = B 106 5 := n1.2.1.2.1.2.2.trans fc1
    refine zY_k (wrI_n (i := 10 + 2 * a) sh_112 (by omega)) ?_
    have x2 := zLx_cg (A' := r.2) (B' := zup q2.2 112 (10 + 2 * a) q2.1) n1.2.1.1 rfl rfl (zup_c (by omega)) (zup_c (by omega))
    refine zY_m (zY_word x2 (by omega) (by omega) e5) ?_
    intro A3 B4 p3
    have fa3 : ∀ c, c ≠ 1 → A3 c = A c := fun c hc => (p3.2.1.1 c hc).trans (fa2 c hc)
    have fb4 : ∀ c, c ≠ 106 → B4 c = zup q2.2 112 (10 + 2 * a) q2.1 c := p3.2.1.2.1
    have fc4 : B4 106 5 = B 106 5 := p3.2.1.2.2.trans (by rw [zup_c (by omega)]; exact fc2)
    have hg3 : A3 1 2 = 0 → r.2 1 2 = 0 := p3.2.2
    rw [fa3 13 (by omega), g5]
    refine zY_l (wrI_n (i := a) (sh_T1 zis_6_13) (by omega)) ?_
    have x3 := zLx_cg (A' := zup A3 (13 + 1) a r.1) (B' := B4) p3.1 (zup_c (by omega)) (zup_c (by omega)) rfl rfl
    have ga5 : ∀ c, c ≠ 1 → c ≠ 14 → zup A3 (13 + 1) a r.1 c = A c := fun c h1 h2 => (zup_c h2).trans (fa3 c h1)
    have ga14 : ∀ j, zup A3 (13 + 1) a r.1 14 j = if j = a then r.1 else A 14 j := fun j => zup_a.trans (by rw [fa3 14 (by omega)])
    have ga1 : zup A3 (13 + 1) a r.1 1 = A3 1 := zup_c (by omega)
    generalize zup A3 (13 + 1) a r.1 = A5 at x3 ga5 ga14 ga1 ⊢
    rw [ga5 13 (by omega) (by omega), g0, g5]
    have gb4 : ∀ j, B4 112 j = if j = 10 + 2 * a then r.1 else B 112 j := fun j => by
      rw [fb4 112 (by omega), zup_a, fb2 112 (by omega), eq2]
    have gb : ∀ c, c ≠ 106 → c ≠ 112 → B4 c = B c := fun c h1 h2 => by
      rw [fb4 c h1, zup_c h2, fb2 c h1]
    have hfin : ∀ r2 q3, zPn T s b 0 (B 112 0 - 1) A5 B4 r2 q3 → (r2.2 1 2 = 0 → r2.1 ≠ r.1) → zY ((wrI (13 + 2) (a : Int) r2.1 r2.2).bind (fun M72 => ((some (zup M72 13 5 (w32 ((M72 13 5) + 1)))).bind (fun M80 => (some M80))))) ((wrI 112 (w32 (((10 + 2 * a : Nat) : Int) + 1)) q3.1 q3.2).bind (fun M72 => ((rdI 112 4 M72).bind (fun v79 => ((wrI 112 4 (w32 (v79 + 1)) M72).bind (fun M82 => (some M82))))))) (zBd T s b A B) := fun r2 q3 n2 hne => by
      have eq3 := n2.1
      have fa6 : ∀ c, c ≠ 1 → r2.2 c = A5 c := n2.2.1.2.1.1
      have fb6 : ∀ c, c ≠ 106 → q3.2 c = B4 c := n2.2.1.2.1.2.1
      have fc6 : q3.2 106 5 = B 106 5 := n2.2.1.2.1.2.2.trans fc4
      have hr2 := zPn_b n2 (by omega) (by omega)
      refine zY_l (wrI_n (i := a) (sh_T2 zis_6_13) (by omega)) ?_
      refine zY_l rfl ?_
      rw [show w32 (((10 + 2 * a : Nat) : Int) + 1) = ((10 + 2 * a + 1 : Nat) : Int) by rw [w32_eq (by omega) (by omega)]; omega]
      refine zY_k (wrI_n (i := 10 + 2 * a + 1) sh_112 (by omega)) ?_
      refine zY_k (rdI_n (i := 4) sh_112 (by omega)) ?_
      have e13 : zup r2.2 (13 + 2) a r2.1 13 5 = (a : Int) := by
        rw [zup_c (by omega), fa6 13 (by omega), ga5 13 (by omega) (by omega), g5]
      have e112 : zup q3.2 112 (10 + 2 * a + 1) q3.1 112 4 = (a : Int) := by
        rw [zup_i (by omega), fb6 112 (by omega), gb4, if_neg (by omega), k4]
      rw [e13, e112, w1 (by omega)]
      refine zY_k (wrI_n (i := 4) sh_112 (by omega)) ?_
      refine zY_r ⟨zLx_cg n2.2.1.1 ?_ ?_ ?_ ?_, fun e h1 h2 => ?_, fun e h1 h2 => ?_, ?_, ?_, ?_, fun hg => ?_⟩
      · rw [zup_c (by omega), zup_c (by omega)]
      · rw [zup_c (by omega), zup_c (by omega)]
      · rw [zup_c (by omega), zup_c (by omega)]
      · rw [zup_c (by omega), zup_c (by omega)]
      · rw [zup_c (by omega), zup_c (by omega), fa6 e h1, ga5 e h1 (by omega)]
      · rw [zup_c h2, zup_c h2, fb6 e h1, gb e h1 h2]
      · rw [zup_c (by omega), zup_c (by omega), fc6]
      · rw [zup_i (by omega), zup_c (by omega), fa6 13 (by omega), ga5 13 (by omega) (by omega)]
      · rw [zup_i (by omega), zup_i (by omega), fb6 112 (by omega), gb4, if_neg (by omega)]
      · have hg' : r2.2 1 2 = 0 := by
          have q : zup (zup r2.2 (13 + 2) a r2.1) 13 5 ((a + 1 : Nat) : Int) 1 2 = 0 := hg
          rw [zup_c (by omega), zup_c (by omega)] at q
          exact q
        have hb2 := n2.2.2.1 hg'
        have hg1 : r.2 1 2 = 0 := by
          have q := n2.2.1.2.2 hg'
          rw [ga1] at q
          exact hg3 q
        have hb1 := n1.2.2.1 hg1
        refine ⟨a + 1, b', c, d, zK_street (f := r.1) (t := r2.1) hk (by omega) ⟨by omega, by omega⟩ ⟨by omega, by omega⟩ (fun q => hne hg' q.symm) ?_ ?_ zup_s (fun i i1 i2 i3 => ?_) (fun j => ?_) (fun j => ?_) (fun j => ?_) (fun j j1 j2 => ?_)⟩
        · rw [zup_i (by omega), zup_i (by omega), fb6 112 (by omega), gb4, if_pos rfl]
        · rw [zup_i (by omega), zup_s, eq3]
        · rw [zup_i i3, zup_i i2, fb6 112 (by omega), gb4, if_neg i1]
        · rw [zup_c (by omega), zup_c (by omega), fa6 14 (by omega), ga14]
        · rw [zup_c (by omega)]
          refine zup_a.trans ?_
          rw [fa6 15 (by omega), ga5 15 (by omega) (by omega)]
        · rw [zup_a, zup_c (by omega), fa6 13 (by omega), ga5 13 (by omega) (by omega)]
        · rw [zup_c (by omega), zup_c (by omega), fa6 j (by omega), ga5 j (by omega) (by omega)]
    have e0 : B4 112 0 = B 112 0 := by rw [gb4, if_neg (by omega)]
    have hgen : (A5 1 2 = 0 → A5 1 4 = 2 → A5 1 7 ≠ r.1) → zY ((lR_takeNumber 0 (w32 (B 112 0 - 1)) (zshl 1 r.1) A5).bind (fun r69_ => ((wrI (13 + 2) (a : Int) r69_.1 r69_.2).bind (fun M72 => ((some (zup M72 13 5 (w32 ((M72 13 5) + 1)))).bind (fun M80 => (some M80))))))) (lm_readStreet_c61 ((10 + 2 * a : Nat) : Int) B4) (zBd T s b A B) := fun hv => by
      unfold lm_readStreet_c61
      refine zY_m (zY_corner (n0 := B 112 0) x3 e0 ⟨b0, b0'⟩ (fun c5 c6 c7 c8 c9 => ?_)) ?_
      · obtain ⟨V, hV⟩ : ∃ V : Nat, A5 1 7 = (V : Int) := ⟨(A5 1 7).toNat, by omega⟩
        rw [hF, hV, zbar1 (by omega) (by omega), if_neg]
        have := hv c5 c6
        omega
      · intro r2 q3 n2
        refine hfin r2 q3 n2 (fun hg => ?_)
        have hg' := n2.2.2.1 hg
        rw [hg'.2.2.1]
        exact hv (n2.2.1.2.2 hg) hg'.2.2.2
    have h12' : B4 106 12 = A5 1 2 := x3.2.2.2.1
    have h10' : B4 106 10 = A5 1 4 := x3.2.2.2.2.2.1
    have h11' : A5 1 4 = 2 → B4 106 11 = zmin 99999 (A5 1 7) := x3.2.2.2.2.2.2.2.2.1
    refine zY_k lm_good_eq ?_
    by_cases c5 : A5 1 2 = 0
    · rw [zbo_t (h12'.trans c5)]
      refine zY_ke (by decide) ?_
      rw [h10']
      by_cases c6 : A5 1 4 = 2
      · refine zY_kt c6 ?_
        refine zY_k (rdI_n (i := 10 + 2 * a) sh_112 (by omega)) ?_
        rw [gb4, if_pos rfl, h11' c6]
        have hz : zmin 99999 (A5 1 7) = r.1 ↔ A5 1 7 = r.1 := by
          unfold zmin
          split <;> omega
        by_cases c7 : A5 1 7 = r.1
        · refine zY_kt (hz.mpr c7) ?_
          have hbar : zand (zshr (zshl 1 r.1) (A5 1 7)) 1 ≠ 0 := by
            rw [c7, hF, zbar1 (by omega) (by omega), if_pos rfl]
            decide
          obtain ⟨r2, B5, er, eb, q1, q2, q3⟩ := zY_bar (lo := 0) (hi := w32 (B 112 0 - 1)) (bar := zshl 1 r.1) x3 c5 c6 (by omega) hbar
          rw [er, eb]
          refine zY_l rfl ?_
          refine zY_k rfl ?_
          unfold lm_readStreet_c61
          have ec : lm_freshCorner B5 = some (0, B5) := by
            unfold lm_freshCorner
            refine zS_eq (zS_b (rdI_n (i := 0) sh_112 (by omega)) ?_)
            exact zS_b (lm_number_no (zPo_12 q2 q3)) (zS_r rfl)
          refine zY_k ec ?_
          exact hfin r2 (0, B5) (zPn_bad q2 q3 q1 rfl) (fun q => absurd q q3)
        · refine zY_ke (fun q => c7 (hz.mp q)) ?_
          exact hgen (fun _ _ => c7)
      · refine zY_ke c6 ?_
        exact hgen (fun _ q => absurd q c6)
    · rw [zbo_f (fun q => c5 (h12'.symm.trans q))]
      refine zY_kt rfl ?_
      exact hgen (fun q => absurd q c5)
end ZSW
