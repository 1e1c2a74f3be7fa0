/-! state. -/
def zSu (A B A' : Nat → Nat → Int) (r : Int × (Nat → Nat → Int)) : Prop := A' 1 1 = 0 ∧ r.2 106 12 = A' 1 2 ∧ r.2 106 13 = A' 1 3 ∧ r.2 106 5 = 0 ∧ (∀ e, e ≠ 1 → ¬ (13 ≤ e ∧ e ≤ 22) → A' e = A e) ∧ (∀ e, e ≠ 106 → e ≠ 112 → e ≠ 107 → r.2 e = B e) ∧ (A' 1 2 ≠ 0 → r.1 = -4 ∧ r.2 107 = B 107) ∧ (A' 1 2 = 0 → r.1 = r.2 107 9 ∧ wOk (r.2 107) ∧ zTold 13 A' (r.2 107) ∧ r.2 107 8 = 0)
theorem lT_makeEmpty_ok {A : Nat → Nat → Int} : zS (lT_makeEmpty 13 A) (fun A1 => (∀ e, e ≠ 13 → e ≠ 16 → A1 e = A e) ∧ (∀ j, j < 9 → A1 13 j = 0) ∧ ∀ x, x < 8 → A1 16 x = 0) := by
  unfold lT_makeEmpty
  rw [if_pos (show zis 6 13 = true from zis_6_13)]
  refine zS_b rfl (zS_b rfl (zS_b rfl (zS_b rfl (zS_b rfl (zS_b rfl (zS_b rfl (zS_b rfl (zS_b rfl ?_))))))))
  have hf : ∀ j, j < 9 → (zup (zup (zup (zup (zup (zup (zup (zup (zup A 13 0 0) 13 1 0) 13 2 0) 13 3 0) 13 4 0) 13 5 0) 13 6 0) 13 7 0) 13 8 0) 13 j = 0 := fun j hj => by
    have : j = 0 ∨ j = 1 ∨ j = 2 ∨ j = 3 ∨ j = 4 ∨ j = 5 ∨ j = 6 ∨ j = 7 ∨ j = 8 := by omega
    rcases this with rfl | rfl | rfl | rfl | rfl | rfl | rfl | rfl | rfl <;> simp (disch := omega) only [zup_i, zup_s]
  have hc : ∀ c, c ≠ 13 → (zup (zup (zup (zup (zup (zup (zup (zup (zup A 13 0 0) 13 1 0) 13 2 0) 13 3 0) 13 4 0) 13 5 0) 13 6 0) 13 7 0) 13 8 0) c = A c := fun c hc => by
    simp (disch := omega) only [zup_c]
  generalize (zup (zup (zup (zup (zup (zup (zup (zup (zup A 13 0 0) 13 1 0) 13 2 0) 13 3 0) 13 4 0) 13 5 0) 13 6 0) 13 7 0) 13 8 0) = N at hf hc ⊢
  refine zS_m (lY_fill_329_ok (n := 8) (sh_T3 zis_6_13) (by omega)) ?_
  intro N2 ⟨q1, q2⟩
  refine zS_r ⟨fun e h1 h2 => (q1 e h2).trans (hc e h1), fun j hj => ?_, fun x hx => q2 x hx⟩
  rw [q1 13 (by omega)]
  exact hf j hj
theorem lm_state_c30_ok : ∀ (m i : Nat) (B : Nat → Nat → Int) (f : Nat), i + m = 138 → ∃ B1, lm_state_c30 (m + 1 + f) (i : Int) B = (lm_advance B1).bind (fun M51 => lm_state_c54 zN M51) ∧ (∀ e, e ≠ 112 → B1 e = B e) ∧ (∀ j, j < i → B1 112 j = B 112 j) ∧ ∀ j, i ≤ j → j < 138 → B1 112 j = 0 := by
  intro m
  induction m with
  | zero =>
    intro i B f h
    refine ⟨B, ?_, fun _ _ => rfl, fun _ _ => rfl, fun j j1 j2 => by omega⟩
    rw [show 0 + 1 + f = f + 1 by omega, lm_state_c30, if_neg (by omega)]
  | succ m ih =>
    intro i B f h
    obtain ⟨B1, e1, b1, b2, b3⟩ := ih (i + 1) (zup B 112 i 0) f (by omega)
    have hb2 : ∀ j, j < i → B1 112 j = B 112 j := fun j hj => (b2 j (by omega)).trans (zup_i (by omega))
    have hbi : B1 112 i = 0 := (b2 i (by omega)).trans zup_s
    refine ⟨B1, ?_, fun e he => (b1 e he).trans (zup_c he), hb2, fun j j1 j2 => ?_⟩
    · rw [show m + 1 + 1 + f = (m + 1 + f) + 1 by omega, lm_state_c30, if_pos (by omega)]
      rw [show wrI 112 (i : Int) 0 B = some (zup B 112 i 0) from wrI_n sh_112 (by omega), Option.bind_some, w1 (by omega)]
      exact e1
    · by_cases c : j = i
      · rw [c]; exact hbi
      · exact b3 j (by omega) j2
section ZSA
variable {T : Nat → Int} {s : Nat} {A B : Nat → Nat → Int}
theorem zY_state (ht : zTd T s A B) (h1 : A 1 1 = (s : Int)) (h5 : B 106 5 = (s : Int)) : zY (lR_readAll 13 A) (lm_state B) (zSu A B) := by
  unfold lR_readAll lm_state
  rw [if_pos (show zis 6 13 = true from zis_6_13)]
  refine zY_lm lT_makeEmpty_ok ?_
  intro A1 ⟨a1, a2, a3⟩
  refine zY_l rfl (zY_l rfl (zY_l rfl (zY_k rfl (zY_k rfl (zY_k rfl (zY_k rfl (zY_k rfl ?_)))))))
  have ga : ∀ e, e ≠ 1 → zup (zup (zup A1 1 2 0) 1 3 (-1)) 1 6 0 e = A1 e := fun e he => by
    rw [zup_c he, zup_c he, zup_c he]
  have ga1 : zup (zup (zup A1 1 2 0) 1 3 (-1)) 1 6 0 1 1 = (s : Int) := by
    rw [zup_i (by omega), zup_i (by omega), zup_i (by omega), a1 1 (by omega) (by omega), h1]
  have ga2 : zup (zup (zup A1 1 2 0) 1 3 (-1)) 1 6 0 1 2 = 0 := by
    rw [zup_i (by omega), zup_i (by omega), zup_s]
  have ga3 : zup (zup (zup A1 1 2 0) 1 3 (-1)) 1 6 0 1 3 = -1 := by
    rw [zup_i (by omega), zup_s]
  have ga6 : zup (zup (zup A1 1 2 0) 1 3 (-1)) 1 6 0 1 6 = 0 := zup_s
  generalize zup (zup (zup A1 1 2 0) 1 3 (-1)) 1 6 0 = A2 at ga ga1 ga2 ga3 ga6 ⊢
  have e5 : B 106 5 = (s : Int) := h5
  have gb : ∀ e, e ≠ 106 → zup (zup (zup (zup (zup B 106 7 (B 106 5)) 106 5 0) 106 8 0) 106 12 0) 106 13 (-1) e = B e := fun e he => by
    rw [zup_c he, zup_c he, zup_c he, zup_c he, zup_c he]
  have gb5 : zup (zup (zup (zup (zup B 106 7 (B 106 5)) 106 5 0) 106 8 0) 106 12 0) 106 13 (-1) 106 5 = 0 := by
    rw [zup_i (by omega), zup_i (by omega), zup_i (by omega), zup_s]
  have gb7 : zup (zup (zup (zup (zup B 106 7 (B 106 5)) 106 5 0) 106 8 0) 106 12 0) 106 13 (-1) 106 7 = (s : Int) := by
    rw [zup_i (by omega), zup_i (by omega), zup_i (by omega), zup_i (by omega), zup_s, e5]
  have gb8 : zup (zup (zup (zup (zup B 106 7 (B 106 5)) 106 5 0) 106 8 0) 106 12 0) 106 13 (-1) 106 8 = 0 := by
    rw [zup_i (by omega), zup_i (by omega), zup_s]
  have gb12 : zup (zup (zup (zup (zup B 106 7 (B 106 5)) 106 5 0) 106 8 0) 106 12 0) 106 13 (-1) 106 12 = 0 := by
    rw [zup_i (by omega), zup_s]
  have gb13 : zup (zup (zup (zup (zup B 106 7 (B 106 5)) 106 5 0) 106 8 0) 106 12 0) 106 13 (-1) 106 13 = -1 := zup_s
  generalize zup (zup (zup (zup (zup B 106 7 (B 106 5)) 106 5 0) 106 8 0) 106 12 0) 106 13 (-1) = B1 at gb gb5 gb7 gb8 gb12 gb13 ⊢
  obtain ⟨B2, e2, b1, _, b3⟩ := lm_state_c30_ok 138 0 B1 9861 (by omega)
  have e2' : lm_state_c30 zN 0 B1 = (lm_advance B2).bind (fun M51 => lm_state_c54 zN M51) := e2
  rw [e2']
  have ht2 : zTd T s A2 B2 := zTd_cg ht (by rw [ga 2 (by omega), a1 2 (by omega) (by omega)]) (by rw [b1 110 (by omega), gb 110 (by omega)])
  refine zY_m (zY_token (b := 0) ht2 ga1 (by rw [b1 106 (by omega), gb7]) (by rw [b1 106 (by omega), gb8, ga6]) (by rw [ga6]; omega) (by rw [b1 106 (by omega), gb12, ga2]) (by rw [b1 106 (by omega), gb13, ga3])) ?_
  intro A3 B3 ⟨x3, f3, g3, _⟩
  have hA3 : ∀ e, e ≠ 1 → A3 e = A1 e := fun e he => (f3.1 e he).trans (ga e he)
  have hB3 : ∀ e, e ≠ 106 → B3 e = B2 e := f3.2.1
  have so : zSof 0 A3 B3 := by
    refine ⟨?_, ?_, Or.inl ⟨rfl, fun j hj => ?_, fun x hx => ?_, fun i hi => ?_⟩⟩
    · rw [hA3 13 (by omega)]; exact a2 4 (by omega)
    · rw [hB3 112 (by omega)]; exact b3 9 (by omega) (by omega)
    · rw [hA3 13 (by omega)]; exact a2 j hj
    · rw [hA3 16 (by omega)]; exact a3 x hx
    · rw [hB3 112 (by omega)]; exact b3 i (by omega) hi
  have hl := zY_loop (T := T) (s := s) 900 0 A3 B3 9099 9099 (by omega) x3 (g3.trans ga2) so
  have hl' : zY (lR_readAll_c25 13 zN 0 A3) (lm_state_c54 zN B3) (zStd A3 B3) := hl
  refine zY_mono hl' ?_
  intro A' r ⟨k1, k2, k3, k4, k5, k6, k7, k8⟩
  refine ⟨k1, k2, k3, ?_, fun e h1 h2 => ?_, fun e h1 h2 h3 => ?_, fun g => ⟨(k7 g).1, ?_⟩, k8⟩
  · rw [k4, f3.2.2, b1 106 (by omega), gb5]
  · rw [k5 e h1 h2, hA3 e h1, a1 e (by omega) (by omega)]
  · rw [k6 e h1 h2 h3, hB3 e h1, b1 e h2, gb e h1]
  · rw [(k7 g).2, hB3 107 (by omega), b1 107 (by omega), gb 107 (by omega)]
end ZSA
theorem lX_tail_ok {A1 : Nat → Nat → Int} {W' : Nat → Int} (hw : wOk W') (ht : zTold 13 A1 W') (h8 : W' 8 = 0) : zS ((lT_takeFrom 3 13 A1).bind (fun M32 => ((lA_removeAll 23 M32).bind (fun M39 => ((lX_settle M39).bind (fun M43 => (some ((M43 3 4), M43)))))))) (fun r => r.1 = W' 9 ∧ zTold 3 r.2 W' ∧ zActs 23 r.2 W' ∧ zNw r.2 W' ∧ ∀ e, e < 3 ∨ (12 < e ∧ e < 23) ∨ 36 < e → r.2 e = A1 e) := by
  refine zS_m (lT_takeFrom_ok zis_6_3 zis_6_13 (by omega) hw ht) ?_
  intro M1 ⟨a1, a2⟩
  have hrm : zS (lA_removeAll 23 M1) (fun M' => zActs 23 M' W' ∧ ∀ c, c < 23 ∨ 28 < c → M' c = M1 c) := by
    unfold lA_removeAll
    rw [if_pos (show zis 0 23 = true from zis_0_23)]
    refine zS_b rfl ?_
    refine zS_m (lA_playAgain_ok (a := 23) (M := zup M1 23 0 0) zis_0_23 hw (by rw [zup_s, h8]) (fun i hi => by rw [h8] at hi; exact absurd hi (Nat.not_lt_zero i))) ?_
    intro M' ⟨q1, q2⟩
    refine zS_r ⟨q1, fun c hc => ?_⟩
    funext j
    rw [q2 c j (by omega) (by omega), zup_c (by omega)]
  refine zS_m hrm ?_
  intro M2 ⟨b1, b2⟩
  have ht2 : zTold 3 M2 W' := zTold_cg a1 (fun i hi => b2 _ (by omega))
  refine zS_m (lX_settle_ok hw ht2 b1) ?_
  intro M3 ⟨d1, d2⟩
  have ht3 : zTold 3 M3 W' := zTold_cg ht2 (fun i hi => d2 _ (by omega))
  refine zS_r ⟨ht3.2.2.2.2.1, ht3, zActs_cg b1 (fun i hi => d2 _ (by omega)), d1, fun e he => ?_⟩
  show M3 e = A1 e
  rw [d2 e (by omega), b2 e (by omega), a2 e (by omega)]
theorem q_state {W : Nat → Int} {M : Nat → Nat → Int} (h : zInv W M) : zQ4 lX_state lm_state M := by
  have h0 := h
  obtain ⟨h1, h2, h3, h4, h5, ⟨t1, t2, t3, t4, t5, t6⟩, h7, h8⟩ := h
  have joint : ∀ B : Nat → Nat → Int, B 110 = M 110 → B 106 = M 106 → zY (lR_readAll 13 M) (lm_state B) (zSu M B) := fun B b1 b2 => by
    refine zY_state (T := M 2) (s := (M 1 1).toNat) ⟨by omega, rfl, fun i hi => ?_⟩ (by omega) (by rw [b2]; omega)
    rw [b1]
    exact t4 i hi
  obtain ⟨A1, r0, ea, er0, z1, z2, z3, z4, z5, z6, z7, z8⟩ := joint M rfl rfl
  have hdet : ∀ B : Nat → Nat → Int, B 110 = M 110 → B 106 = M 106 → zS (lm_state B) (zSu M B A1) := fun B b1 b2 => by
    obtain ⟨A2, r2, ea2, er2, q⟩ := joint B b1 b2
    rw [ea] at ea2
    have e := Option.some.inj ea2
    subst e
    exact ⟨r2, er2, q⟩
  show zS (lX_state M) (fun r => zS (lm_state r.2) (fun s => s.1 = r.1 ∧ ∃ W', zInv W' s.2))
  unfold lX_state
  refine zS_b ea ?_
  by_cases g : A1 1 2 = 0
  · refine zS_it g ?_
    obtain ⟨_, w1, w2, w3⟩ := z8 g
    obtain ⟨r, er, _, _, _, _, f⟩ := lX_tail_ok w1 w2 w3
    refine zS_e er ?_
    refine zS_mono (hdet r.2 (by rw [f 110 (by omega), z5 110 (by omega) (by omega)]) (by rw [f 106 (by omega), z5 106 (by omega) (by omega)])) ?_
    intro q ⟨_, y2, y3, y4, _, y6, _, y8⟩
    obtain ⟨v0, v1, v2, v3⟩ := y8 g
    obtain ⟨r', er', k1, k2, k3, k4, _⟩ := lX_tail_ok v1 v2 v3
    rw [er] at er'
    have e := Option.some.inj er'
    subst e
    refine ⟨v0.trans k1.symm, q.2 107, rfl, v1, zTold_cg k2 (fun i hi => y6 _ (by omega) (by omega) (by omega)), zActs_cg k3 (fun i hi => y6 _ (by omega) (by omega) (by omega)), zNw_cg k4 (fun c hc => y6 c (by omega) (by omega) (by omega)), ?_, zRw_cg h7 (fun c hc => ?_), zIg_cg h8 (fun c hc => ?_) ?_ ?_⟩
    · have e1 : q.2 1 = A1 1 := by rw [y6 1 (by omega) (by omega) (by omega), f 1 (by omega)]
      unfold zTp
      rw [e1, z1, y4, y2, y3]
      exact ⟨by omega, by omega, rfl, fun i hi => absurd hi (Nat.not_lt_zero i), rfl, rfl⟩
    · rw [y6 c (by omega) (by omega) (by omega), f c (by omega), z5 c (by omega) (by omega)]
    · rw [y6 c (by omega) (by omega) (by omega), f c (by omega), z5 c (by omega) (by omega)]
    · rw [y6 108 (by omega) (by omega) (by omega), f 108 (by omega), z5 108 (by omega) (by omega)]
    · rw [y6 109 (by omega) (by omega) (by omega), f 109 (by omega), z5 109 (by omega) (by omega)]
  · refine zS_ie g ?_
    refine zS_r ?_
    show zS (lm_state A1) (fun s => s.1 = -4 ∧ ∃ W', zInv W' s.2)
    refine zS_mono (hdet A1 (z5 110 (by omega) (by omega)) (z5 106 (by omega) (by omega))) ?_
    intro q ⟨_, y2, y3, y4, _, y6, y7, _⟩
    obtain ⟨v0, v1⟩ := y7 g
    have hc : ∀ c, c ≠ 1 → ¬ (13 ≤ c ∧ c ≤ 22) → c ≠ 106 → c ≠ 112 → c ≠ 107 → q.2 c = M c := fun c c1 c2 c3 c4 c5 => (y6 c c3 c4 c5).trans (z5 c c1 c2)
    refine ⟨v0, W, v1.trans ((z5 107 (by omega) (by omega)).trans h1), h2, zTold_cg h3 (fun i hi => hc _ (by omega) (by omega) (by omega) (by omega) (by omega)), zActs_cg h4 (fun i hi => hc _ (by omega) (by omega) (by omega) (by omega) (by omega)), zNw_cg h5 (fun c hh => hc c (by omega) (by omega) (by omega) (by omega) (by omega)), ?_, zRw_cg h7 (fun c hh => hc c (by omega) (by omega) (by omega) (by omega) (by omega)), zIg_cg h8 (fun c hh => hc c (by omega) (by omega) (by omega) (by omega) (by omega)) (hc 108 (by omega) (by omega) (by omega) (by omega) (by omega)) (hc 109 (by omega) (by omega) (by omega) (by omega) (by omega))⟩
    have e1 : q.2 1 = A1 1 := y6 1 (by omega) (by omega) (by omega)
    unfold zTp
    rw [e1, z1, y4, y2, y3]
    exact ⟨by omega, by omega, rfl, fun i hi => absurd hi (Nat.not_lt_zero i), rfl, rfl⟩
