/-! Both read a name. -/
section ZNM
variable {T : Nat → Int} {s b : Nat}
/-- behind a walk, of which i corners had been read -/
def zWlk (T : Nat → Int) (s b c i : Nat) (n0 : Int) (A B A' B' : Nat → Nat → Int) : Prop := zLx T s b A' B' ∧ (∀ e, e ≠ 1 → e ≠ 20 → e ≠ 21 → A' e = A e) ∧ (∀ e, e ≠ 106 → e ≠ 112 → B' e = B e) ∧ B' 106 5 = B 106 5 ∧ (A' 1 2 = 0 → A 1 2 = 0) ∧ (∀ j, j ≠ c → A' 20 j = A 20 j) ∧ (∀ j, j < 8 * c + i → A' 21 j = A 21 j) ∧ (∀ j, j ≠ 6 → j ≠ 42 + 12 * c + 3 → ¬ (42 + 12 * c + 4 + i ≤ j ∧ j < 42 + 12 * c + 12) → B' 112 j = B 112 j) ∧ (A' 1 2 = 0 → ∃ l : Nat, i ≤ l ∧ l ≤ 8 ∧ A' 20 c = (l : Int) ∧ B' 112 (42 + 12 * c + 3) = (l : Int) ∧ B' 112 6 = ((c + 1 : Nat) : Int) ∧ ∀ x, i ≤ x → x < l → A' 21 (8 * c + x) = B' 112 (42 + 12 * c + 4 + x) ∧ 0 ≤ B' 112 (42 + 12 * c + 4 + x) ∧ B' 112 (42 + 12 * c + 4 + x) < n0)
theorem zWlk_stop {A B : Nat → Nat → Int} {c i : Nat} {n0 : Int} (h : zLx T s b A B) (hc : c < 5) (hi8 : i ≤ 8) (e20 : A 20 c = (i : Int)) (e3 : B 112 (42 + 12 * c + 3) = (i : Int)) : zWlk T s b c i n0 A B A (zup B 112 6 ((c + 1 : Nat) : Int)) := by
  refine ⟨zLx_cg h rfl rfl (zup_c (by omega)) (zup_c (by omega)), fun _ _ _ _ => rfl, fun e h1 h2 => zup_c h2, by rw [zup_c (by omega)], fun q => q, fun _ _ => rfl, fun _ _ => rfl, fun j j1 _ _ => zup_i j1, fun _ => ⟨i, Nat.le_refl i, hi8, e20, ?_, zup_s, fun x x1 x2 => by omega⟩⟩
  rw [zup_i (by omega)]
  exact e3
theorem zY_walk {c : Nat} {n0 : Int} (hc : c < 5) (hn : 1 ≤ n0 ∧ n0 ≤ 8) : ∀ (m i : Nat) (A B : Nat → Nat → Int) (f1 f2 : Nat), i + m = 8 → zLx T s b A B → A 13 0 = n0 → B 112 0 = n0 → A 20 c = (i : Int) → B 112 (42 + 12 * c + 3) = (i : Int) → B 112 6 = (c : Int) → zY (lR_readWalk_c9 13 (c : Int) (m + 1 + f1) (i : Int) A) (lm_readName_c64 (m + 1 + f2) ((42 + 12 * c : Nat) : Int) B) (zWlk T s b c i n0 A B) := by
  obtain ⟨_, _, _, _, _, _, _, _, _, _, _, _, _, _, ew⟩ := zwd_e
  have hk3 : w32 (((42 + 12 * c : Nat) : Int) + 3) = ((42 + 12 * c + 3 : Nat) : Int) := by rw [w32_eq (by omega) (by omega)]; omega
  have hk4 : w32 (((42 + 12 * c : Nat) : Int) + 4) = ((42 + 12 * c + 4 : Nat) : Int) := by rw [w32_eq (by omega) (by omega)]; omega
  intro m
  induction m with
  | zero =>
    intro i A B f1 f2 him h ea0 eb0 e20 e3 e6
    rw [show 0 + 1 + f1 = f1 + 1 by omega, show 0 + 1 + f2 = f2 + 1 by omega, lR_readWalk_c9, lm_readName_c64]
    refine zY_le (by omega) ?_
    unfold lR_readWalk_c68
    refine zY_l (lR_isWord_ok h (by omega)) ?_
    refine zY_k (lm_is_ok h (by omega) ew) ?_
    by_cases hi : zwi 5016 A = true
    · rw [zbo_t hi, if_neg (by decide), if_neg (by decide), hk3]
      refine zY_k (rdI_n (i := 42 + 12 * c + 3) sh_112 (by omega)) ?_
      rw [e3, if_pos (by omega)]
      refine zY_m (zY_fail (x := 3) h (by decide)) ?_
      intro A' B' ⟨q1, q2⟩
      unfold lm_readName_c91
      refine zY_k (lm_takes_no (w := 5016) q1.1 (by omega) ew (fun q => q2 (zwi_1.mp q).1.1)) ?_
      rw [if_pos rfl]
      refine zY_r ⟨q1.1, fun e h1 _ _ => q1.2.1.1 e h1, fun e h1 _ => q1.2.1.2.1 e h1, q1.2.1.2.2, q1.2.2, fun j _ => by rw [q1.2.1.1 20 (by omega)], fun j _ => by rw [q1.2.1.1 21 (by omega)], fun j _ _ _ => ?_, fun q => absurd q q2⟩
      show B' 112 j = _
      rw [q1.2.1.2.1 112 (by omega)]
    · rw [zbo_f hi, if_pos rfl, if_pos rfl]
      refine zY_k (rdI_n (i := 6) sh_112 (by omega)) ?_
      rw [e6, w1 (by omega)]
      refine zY_k (wrI_n (i := 6) sh_112 (by omega)) ?_
      exact zY_r (zWlk_stop h hc (by omega) e20 e3)
  | succ m ih =>
    intro i A B f1 f2 him h ea0 eb0 e20 e3 e6
    rw [show m + 1 + 1 + f1 = (m + 1 + f1) + 1 by omega, show m + 1 + 1 + f2 = (m + 1 + f2) + 1 by omega, lR_readWalk_c9, lm_readName_c64]
    refine zY_lt (by omega) ?_
    refine zY_l (lR_isWord_ok h (by omega)) ?_
    refine zY_k (lm_is_ok h (by omega) ew) ?_
    by_cases hi : zwi 5016 A = true
    · rw [zbo_t hi]
      refine zY_le (by decide) (zY_ke (by decide) ?_)
      rw [hk3]
      refine zY_k (rdI_n (i := 42 + 12 * c + 3) sh_112 (by omega)) ?_
      rw [e3]
      refine zY_ke (by omega) ?_
      unfold lm_readName_c91
      refine zY_m (zY_take h (by omega) (by omega) ew hi) ?_
      intro A1 q ⟨q1, p1, _⟩
      rw [q1]
      refine zY_ke (by decide) ?_
      have fa1 : ∀ c, c ≠ 1 → A1 c = A c := p1.2.1.1
      have fb1 : ∀ c, c ≠ 106 → q.2 c = B c := p1.2.1.2.1
      have fc1 : q.2 106 5 = B 106 5 := p1.2.1.2.2
      have x1 := p1.1
      have hg1 := p1.2.2
      generalize q.2 = B1 at fb1 fc1 x1 ⊢
      rw [hk3, hk4]
      refine zY_k (rdI_n (i := 42 + 12 * c + 3) sh_112 (by omega)) ?_
      rw [fb1 112 (by omega), e3, fa1 13 (by omega), ea0]
      refine zY_m (zY_corner (n0 := n0) x1 (by rw [fb1 112 (by omega)]; exact eb0) hn (fun _ _ c6 c7 _ => zshr_0 c7 (by omega))) ?_
      intro r q2 n1
      have eq2 := n1.1
      have fa2 : ∀ c, c ≠ 1 → r.2 c = A c := fun c hc => (n1.2.1.2.1.1 c hc).trans (fa1 c hc)
      have fb2 : ∀ c, c ≠ 106 → q2.2 c = B c := fun c hc => (n1.2.1.2.1.2.1 c hc).trans (fb1 c hc)
      have fc2 : q2.2 106 5 = B 106 5 := n1.2.1.2.1.2.2.trans fc1
      have ec8 : w32 (w32 ((c : Int) * 8) + (i : Int)) = ((8 * c + i : Nat) : Int) := by simp (disch := omega) only [w32_eq]; omega
      have ek4 : w32 (((42 + 12 * c + 4 : Nat) : Int) + (i : Int)) = ((42 + 12 * c + 4 + i : Nat) : Int) := by rw [w32_eq (by omega) (by omega)]; omega
      rw [ec8, ek4, w1 (by omega)]
      refine zY_l (wrI_n (i := 8 * c + i) (sh_T8 zis_6_13) (by omega)) ?_
      refine zY_l (wrI_n (i := c) (sh_T7 zis_6_13) (by omega)) ?_
      refine zY_k (wrI_n (i := 42 + 12 * c + 4 + i) sh_112 (by omega)) ?_
      refine zY_k (rdI_n (i := 42 + 12 * c + 3) sh_112 (by omega)) ?_
      have e112 : zup q2.2 112 (42 + 12 * c + 4 + i) q2.1 112 (42 + 12 * c + 3) = (i : Int) := by
        rw [zup_i (by omega), fb2 112 (by omega), e3]
      rw [e112, w1 (by omega)]
      refine zY_k (wrI_n (i := 42 + 12 * c + 3) sh_112 (by omega)) ?_
      have ha : ∀ e, e ≠ 20 → e ≠ 21 → zup (zup r.2 (13 + 8) (8 * c + i) r.1) (13 + 7) c ((i + 1 : Nat) : Int) e = r.2 e := fun e h1 h2 => (zup_c h1).trans (zup_c h2)
      have ha20 : ∀ j, zup (zup r.2 (13 + 8) (8 * c + i) r.1) (13 + 7) c ((i + 1 : Nat) : Int) 20 j = if j = c then ((i + 1 : Nat) : Int) else A 20 j := fun j => zup_a.trans (by rw [zup_c (by omega), fa2 20 (by omega)])
      have ha21 : ∀ j, zup (zup r.2 (13 + 8) (8 * c + i) r.1) (13 + 7) c ((i + 1 : Nat) : Int) 21 j = if j = 8 * c + i then r.1 else A 21 j := fun j => by
        rw [zup_c (by omega)]
        refine zup_a.trans ?_
        rw [fa2 21 (by omega)]
      have hb : ∀ e, e ≠ 112 → zup (zup q2.2 112 (42 + 12 * c + 4 + i) q2.1) 112 (42 + 12 * c + 3) ((i + 1 : Nat) : Int) e = q2.2 e := fun e h1 => (zup_c h1).trans (zup_c h1)
      have hb112 : ∀ j, zup (zup q2.2 112 (42 + 12 * c + 4 + i) q2.1) 112 (42 + 12 * c + 3) ((i + 1 : Nat) : Int) 112 j = if j = 42 + 12 * c + 3 then ((i + 1 : Nat) : Int) else if j = 42 + 12 * c + 4 + i then r.1 else B 112 j := fun j => by
        rw [zup_a, zup_a, fb2 112 (by omega), eq2]
      generalize zup (zup r.2 (13 + 8) (8 * c + i) r.1) (13 + 7) c ((i + 1 : Nat) : Int) = A2 at ha ha20 ha21 ⊢
      generalize zup (zup q2.2 112 (42 + 12 * c + 4 + i) q2.1) 112 (42 + 12 * c + 3) ((i + 1 : Nat) : Int) = B2 at hb hb112 ⊢
      have x2 : zLx T s b A2 B2 := zLx_cg n1.2.1.1 (ha 1 (by omega) (by omega)) (ha 2 (by omega) (by omega)) (hb 106 (by omega)) (hb 110 (by omega))
      refine zY_mono (ih (i + 1) A2 B2 f1 f2 (by omega) x2 ?_ ?_ ?_ ?_ ?_) ?_
      · rw [ha 13 (by omega) (by omega), fa2 13 (by omega), ea0]
      · rw [hb112, if_neg (by omega), if_neg (by omega), eb0]
      · rw [ha20, if_pos rfl]
      · rw [hb112, if_pos rfl]
      · rw [hb112, if_neg (by omega), if_neg (by omega), e6]
      · intro A' B' ⟨z1, z2, z3, z4, z5, z6, z7, z8, z9⟩
        have eA1 : A2 1 = r.2 1 := ha 1 (by omega) (by omega)
        refine ⟨z1, fun e h1 h2 h3 => ?_, fun e h1 h2 => ?_, ?_, fun g => ?_, fun j hj => ?_, fun j hj => ?_, fun j j1 j2 j3 => ?_, fun g => ?_⟩
        · rw [z2 e h1 h2 h3, ha e h2 h3, fa2 e h1]
        · rw [z3 e h1 h2, hb e h2, fb2 e h1]
        · rw [z4, hb 106 (by omega), fc2]
        · have g1 := z5 g
          rw [eA1] at g1
          exact hg1 (n1.2.1.2.2 g1)
        · rw [z6 j hj, ha20, if_neg hj]
        · rw [z7 j (by omega), ha21, if_neg (by omega)]
        · rw [z8 j j1 j2 (by omega), hb112, if_neg j2, if_neg (by omega)]
        · have g1 := z5 g
          rw [eA1] at g1
          have hb1 := n1.2.2.1 g1
          have e21 : A' 21 (8 * c + i) = r.1 := by rw [z7 _ (by omega), ha21, if_pos rfl]
          have e112 : B' 112 (42 + 12 * c + 4 + i) = r.1 := by rw [z8 _ (by omega) (by omega) (by omega), hb112, if_neg (by omega), if_pos rfl]
          obtain ⟨l, l1, l2, l3, l4, l5, l6⟩ := z9 g
          refine ⟨l, Nat.le_of_succ_le l1, l2, l3, l4, l5, fun x x1 x2 => ?_⟩
          by_cases cx : x = i
          · rw [cx, e21, e112]
            exact ⟨rfl, hb1.1, Int.lt_of_le_sub_one hb1.2.1⟩
          · exact l6 x (Nat.lt_of_le_of_ne x1 (fun q => cx q.symm)) x2
    · rw [zbo_f hi]
      refine zY_lt rfl (zY_kt rfl ?_)
      unfold lR_readWalk_c68
      refine zY_l (lR_isWord_ok h (by omega)) ?_
      rw [zbo_f hi, if_pos rfl]
      refine zY_k (rdI_n (i := 6) sh_112 (by omega)) ?_
      rw [e6, w1 (by omega)]
      refine zY_k (wrI_n (i := 6) sh_112 (by omega)) ?_
      exact zY_r (zWlk_stop h hc (by omega) e20 e3)
end ZNM
