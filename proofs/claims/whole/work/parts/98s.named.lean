/-! Both read a whole name. -/
section ZND
variable {T : Nat → Int} {s b : Nat} {A B : Nat → Nat → Int}
set_option maxHeartbeats 1000000 in
theorem zY_name {a b' c d : Nat} (h : zLx T s b A B) (hk : zK a b' c d A (B 112)) (c0 : A 1 2 = 0) (hi : zwi 5012 A = true) : zY (lR_readName 13 A) (lm_readNext B) (zBd T s b A B) := by
  obtain ⟨_, _, _, _, _, e1, e2, e3, e4, _, _, e7, e8, e9, _⟩ := zwd_e
  obtain ⟨⟨⟨g0, g1, g2, g3, g5, g6, g7, g8⟩, ⟨k4, k5, k6, k7, k8⟩, ⟨b0, b0', _⟩, h4, h5, h6, h7⟩, _, _, hnn, _⟩ := id hk
  have hkw : zKw4 A := Or.inr (Or.inr (Or.inl hi))
  have hx0 : ¬ (zwi 5008 A = true) := fun q => ((zwi_x h).1 q).2.1 hi
  have hx1 : ¬ (zwi 5010 A = true) := fun q => ((zwi_x h).2.1 q).1 hi
  have hx := (zwi_x h).2.2 hi
  unfold lR_readName
  rw [if_pos (show zis 6 13 = true from zis_6_13), g7]
  by_cases ca : c = 5
  · rw [if_neg (by omega)]
    refine zY_ls (zY_mono (zY_full h hkw (Or.inr (Or.inr (Or.inl ⟨hi, by omega⟩)))) ?_)
    intro A' B' ⟨q1, q2⟩
    exact zBd_po q1 q2
  · have hf : ¬ zFul A B := by
      intro q
      rcases q with q | q | q | q
      · exact hx0 q.1
      · exact hx1 q.1
      · have := q.2; omega
      · exact hx q.1
    have hc5 : c < 5 := by omega
    rw [if_pos (by omega), lm_readNext_go h hkw hf]
    unfold lm_readNext_c63
    refine zY_k lm_good_eq ?_
    have h12 : B 106 12 = A 1 2 := h.2.2.2.1
    rw [zbo_t (h12.trans c0)]
    refine zY_ke (by decide) ?_
    refine zY_k (lm_takes_no h (by omega) e1 hx0) ?_
    refine zY_kt rfl ?_
    refine zY_k (lm_takes_no h (by omega) e2 hx1) ?_
    refine zY_kt rfl ?_
    refine zY_m (zY_take h (by omega) (by omega) e3 hi) ?_
    intro A1 q ⟨q1, p1, _⟩
    rw [q1]
    refine zY_ke (by decide) ?_
    refine zY_ks ?_
    have fa1 : ∀ c, c ≠ 1 → A1 c = A c := p1.2.1.1
    have fb1 : ∀ c, c ≠ 106 → q.2 c = B c := p1.2.1.2.1
    have fc1 : q.2 106 5 = B 106 5 := p1.2.1.2.2
    have x1 := p1.1
    generalize q.2 = B1 at fb1 fc1 x1 ⊢
    unfold lm_readName
    refine zY_k (rdI_n (i := 6) sh_112 (by omega)) ?_
    rw [fb1 112 (by omega), k6, show w32 (42 + w32 (12 * (c : Int))) = ((42 + 12 * c : Nat) : Int) by simp (disch := omega) only [w32_eq]; omega, show w32 (((42 + 12 * c : Nat) : Int) + 1) = ((42 + 12 * c + 1 : Nat) : Int) by rw [w32_eq (by omega) (by omega)]; omega, show w32 (((42 + 12 * c : Nat) : Int) + 2) = ((42 + 12 * c + 2 : Nat) : Int) by rw [w32_eq (by omega) (by omega)]; omega]
    refine zY_m (zY_word x1 (by omega) (by omega) e7) ?_
    intro A2 B2 p2
    have fa2 : ∀ c, c ≠ 1 → A2 c = A c := fun c hc => (p2.2.1.1 c hc).trans (fa1 c hc)
    have fb2 : ∀ c, c ≠ 106 → B2 c = B c := fun c hc => (p2.2.1.2.1 c hc).trans (fb1 c hc)
    have fc2 : B2 106 5 = B 106 5 := p2.2.1.2.2.trans fc1
    rw [fa2 13 (by omega), g0]
    refine zY_m (zY_corner (n0 := B 112 0) p2.1 (by rw [fb2 112 (by omega)]) ⟨b0, b0'⟩ (fun _ _ c6 c7 _ => zshr_0 c7 (by omega))) ?_
    intro r1 q1 n1
    have eq1 := n1.1
    have fa3 : ∀ c, c ≠ 1 → r1.2 c = A c := fun c hc => (n1.2.1.2.1.1 c hc).trans (fa2 c hc)
    have fb3 : ∀ c, c ≠ 106 → q1.2 c = B c := fun c hc => (n1.2.1.2.1.2.1 c hc).trans (fb2 c hc)
    have fc3 : q1.2 106 5 = B 106 5 := n1.2.1.2.1.2.2.trans fc2
    refine zY_l (wrI_n (i := c) (sh_T4 zis_6_13) (by omega)) ?_
    refine zY_k (wrI_n (i := 42 + 12 * c) sh_112 (by omega)) ?_
    have x4 := zLx_cg (A' := zup r1.2 (13 + 4) c r1.1) (B' := zup q1.2 112 (42 + 12 * c) q1.1) n1.2.1.1 (zup_c (by omega)) (zup_c (by omega)) (zup_c (by omega)) (zup_c (by omega))
    have ga4 : ∀ e, e ≠ 1 → e ≠ 17 → zup r1.2 (13 + 4) c r1.1 e = A e := fun e h1 h2 => (zup_c h2).trans (fa3 e h1)
    have ga4v : ∀ j, zup r1.2 (13 + 4) c r1.1 17 j = if j = c then r1.1 else A 17 j := fun j => zup_a.trans (by rw [fa3 17 (by omega)])
    have ga41 : zup r1.2 (13 + 4) c r1.1 1 = r1.2 1 := zup_c (by omega)
    have gb4 : ∀ e, e ≠ 106 → e ≠ 112 → zup q1.2 112 (42 + 12 * c) q1.1 e = B e := fun e h1 h2 => (zup_c h2).trans (fb3 e h1)
    have gb4v : ∀ j, zup q1.2 112 (42 + 12 * c) q1.1 112 j = if j = 42 + 12 * c then r1.1 else B 112 j := fun j => zup_a.trans (by rw [fb3 112 (by omega), eq1])
    have gc4 : zup q1.2 112 (42 + 12 * c) q1.1 106 5 = B 106 5 := by rw [zup_c (by omega)]; exact fc3
    generalize zup r1.2 (13 + 4) c r1.1 = A4 at x4 ga4 ga4v ga41 ⊢
    generalize zup q1.2 112 (42 + 12 * c) q1.1 = B4 at x4 gb4 gb4v gc4 ⊢
    refine zY_told x4 (by omega) (by omega) e8 (by omega) (by omega) ?_
    intro A5 B5 r2 q2 p5 n2
    have eq2 := n2.1
    have fa5 : ∀ e, e ≠ 1 → r2.2 e = A4 e := fun e he => (n2.2.1.2.1.1 e he).trans (p5.2.1.1 e he)
    have fb5 : ∀ e, e ≠ 106 → q2.2 e = B4 e := fun e he => (n2.2.1.2.1.2.1 e he).trans (p5.2.1.2.1 e he)
    have fc5 : q2.2 106 5 = B 106 5 := n2.2.1.2.1.2.2.trans (p5.2.1.2.2.trans gc4)
    have hg5 : r2.2 1 2 = 0 → r1.2 1 2 = 0 := fun g => by
      have q := p5.2.2 (n2.2.1.2.2 g)
      rw [ga41] at q
      exact q
    refine zY_l (wrI_n (i := c) (sh_T5 zis_6_13) (by omega)) ?_
    refine zY_k (wrI_n (i := 42 + 12 * c + 1) sh_112 (by omega)) ?_
    have x6 := zLx_cg (A' := zup r2.2 (13 + 5) c r2.1) (B' := zup q2.2 112 (42 + 12 * c + 1) q2.1) n2.2.1.1 (zup_c (by omega)) (zup_c (by omega)) (zup_c (by omega)) (zup_c (by omega))
    have ga6 : ∀ e, e ≠ 1 → e ≠ 18 → zup r2.2 (13 + 5) c r2.1 e = A4 e := fun e h1 h2 => (zup_c h2).trans (fa5 e h1)
    have ga6v : ∀ j, zup r2.2 (13 + 5) c r2.1 18 j = if j = c then r2.1 else A 18 j := fun j => zup_a.trans (by rw [fa5 18 (by omega), ga4 18 (by omega) (by omega)])
    have ga61 : zup r2.2 (13 + 5) c r2.1 1 = r2.2 1 := zup_c (by omega)
    have gb6 : ∀ e, e ≠ 106 → e ≠ 112 → zup q2.2 112 (42 + 12 * c + 1) q2.1 e = B e := fun e h1 h2 => (zup_c h2).trans ((fb5 e h1).trans (gb4 e h1 h2))
    have gb6v : ∀ j, zup q2.2 112 (42 + 12 * c + 1) q2.1 112 j = if j = 42 + 12 * c + 1 then r2.1 else B4 112 j := fun j => zup_a.trans (by rw [fb5 112 (by omega), eq2])
    have gc6 : zup q2.2 112 (42 + 12 * c + 1) q2.1 106 5 = B 106 5 := by rw [zup_c (by omega)]; exact fc5
    generalize zup r2.2 (13 + 5) c r2.1 = A6 at x6 ga6 ga6v ga61 ⊢
    generalize zup q2.2 112 (42 + 12 * c + 1) q2.1 = B6 at x6 gb6 gb6v gc6 ⊢
    refine zY_told x6 (by omega) (by omega) e9 (by omega) (by omega) ?_
    intro A7 B7 r3 q3 p7 n3
    have eq3 := n3.1
    have fa7 : ∀ e, e ≠ 1 → r3.2 e = A6 e := fun e he => (n3.2.1.2.1.1 e he).trans (p7.2.1.1 e he)
    have fb7 : ∀ e, e ≠ 106 → q3.2 e = B6 e := fun e he => (n3.2.1.2.1.2.1 e he).trans (p7.2.1.2.1 e he)
    have fc7 : q3.2 106 5 = B 106 5 := n3.2.1.2.1.2.2.trans (p7.2.1.2.2.trans gc6)
    have hg7 : r3.2 1 2 = 0 → r2.2 1 2 = 0 := fun g => by
      have q := p7.2.2 (n3.2.1.2.2 g)
      rw [ga61] at q
      exact q
    refine zY_l (wrI_n (i := c) (sh_T6 zis_6_13) (by omega)) ?_
    refine zY_k (wrI_n (i := 42 + 12 * c + 2) sh_112 (by omega)) ?_
    unfold lR_readWalk
    rw [if_pos (show zis 6 13 = true from zis_6_13)]
    have hwr : wrI (13 + 7) (c : Int) 0 (zup r3.2 (13 + 6) c r3.1) = some (zup (zup r3.2 (13 + 6) c r3.1) (13 + 7) c 0) := wrI_n (i := c) (sh_T7 zis_6_13) (by omega)
    rw [hwr, Option.bind_some]
    have x8 := zLx_cg (A' := zup (zup r3.2 (13 + 6) c r3.1) (13 + 7) c 0) (B' := zup q3.2 112 (42 + 12 * c + 2) q3.1) n3.2.1.1 ((zup_c (by omega)).trans (zup_c (by omega))) ((zup_c (by omega)).trans (zup_c (by omega))) (zup_c (by omega)) (zup_c (by omega))
    have ga8 : ∀ e, e ≠ 1 → e ≠ 19 → e ≠ 20 → zup (zup r3.2 (13 + 6) c r3.1) (13 + 7) c 0 e = A6 e := fun e h1 h2 h3 => (zup_c h3).trans ((zup_c h2).trans (fa7 e h1))
    have ga8v : ∀ j, zup (zup r3.2 (13 + 6) c r3.1) (13 + 7) c 0 19 j = if j = c then r3.1 else A 19 j := fun j => by
      rw [zup_c (by omega)]
      exact zup_a.trans (by rw [fa7 19 (by omega), ga6 19 (by omega) (by omega), ga4 19 (by omega) (by omega)])
    have ga8w : ∀ j, zup (zup r3.2 (13 + 6) c r3.1) (13 + 7) c 0 20 j = if j = c then 0 else A 20 j := fun j => by
      refine zup_a.trans ?_
      rw [zup_c (by omega), fa7 20 (by omega), ga6 20 (by omega) (by omega), ga4 20 (by omega) (by omega)]
    have ga81 : zup (zup r3.2 (13 + 6) c r3.1) (13 + 7) c 0 1 = r3.2 1 := (zup_c (by omega)).trans (zup_c (by omega))
    have gb8 : ∀ e, e ≠ 106 → e ≠ 112 → zup q3.2 112 (42 + 12 * c + 2) q3.1 e = B e := fun e h1 h2 => (zup_c h2).trans ((fb7 e h1).trans (gb6 e h1 h2))
    have gb8v : ∀ j, zup q3.2 112 (42 + 12 * c + 2) q3.1 112 j = if j = 42 + 12 * c + 2 then r3.1 else B6 112 j := fun j => zup_a.trans (by rw [fb7 112 (by omega), eq3])
    have gc8 : zup q3.2 112 (42 + 12 * c + 2) q3.1 106 5 = B 106 5 := by rw [zup_c (by omega)]; exact fc7
    generalize zup (zup r3.2 (13 + 6) c r3.1) (13 + 7) c 0 = A8 at x8 ga8 ga8v ga8w ga81 ⊢
    generalize zup q3.2 112 (42 + 12 * c + 2) q3.1 = B8 at x8 gb8 gb8v gc8 ⊢
    have v0 : B8 112 (42 + 12 * c) = r1.1 := by rw [gb8v, if_neg (by omega), gb6v, if_neg (by omega), gb4v, if_pos rfl]
    have v1 : B8 112 (42 + 12 * c + 1) = r2.1 := by rw [gb8v, if_neg (by omega), gb6v, if_pos rfl]
    have v2 : B8 112 (42 + 12 * c + 2) = r3.1 := by rw [gb8v, if_pos rfl]
    have vo : ∀ j, j ≠ 42 + 12 * c → j ≠ 42 + 12 * c + 1 → j ≠ 42 + 12 * c + 2 → B8 112 j = B 112 j := fun j h1 h2 h3 => by rw [gb8v, if_neg h3, gb6v, if_neg h2, gb4v, if_neg h1]
    obtain ⟨A', B', ea, eb, z1, z2, z3, z4, z5, z6, z7, z8, z9⟩ := zY_walk (T := T) (s := s) (b := b) (n0 := B 112 0) hc5 ⟨b0, b0'⟩ 8 0 A8 B8 9991 9991 (by omega) x8 (by rw [ga8 13 (by omega) (by omega) (by omega), ga6 13 (by omega) (by omega), ga4 13 (by omega) (by omega), g0]) (vo 0 (by omega) (by omega) (by omega)) ((ga8w c).trans (if_pos rfl)) (by rw [vo _ (by omega) (by omega) (by omega)]; exact hnn.2 c (Nat.le_refl c) hc5) (by rw [vo 6 (by omega) (by omega) (by omega), k6])
    have ea' : lR_readWalk_c9 13 (c : Int) zN 0 A8 = some A' := ea
    have eb' : lm_readName_c64 zN ((42 + 12 * c : Nat) : Int) B8 = some B' := eb
    rw [ea', eb', Option.bind_some]
    refine zY_l rfl ?_
    have fo : ∀ e, e ≠ 1 → ¬ (17 ≤ e ∧ e ≤ 21) → A' e = A e := fun e h1 h2 => by
      rw [z2 e h1 (by omega) (by omega), ga8 e h1 (by omega) (by omega), ga6 e h1 (by omega), ga4 e h1 (by omega)]
    rw [fo 13 (by omega) (by omega), g7, w1 (by omega)]
    refine zY_r ⟨zLx_cg z1 (zup_c (by omega)) (zup_c (by omega)) rfl rfl, fun e h1 h2 => ?_, fun e h1 h2 => ?_, ?_, ?_, ?_, fun hg => ?_⟩
    · rw [zup_c (by omega), fo e h1 (by omega)]
    · rw [z3 e h1 h2, gb8 e h1 h2]
    · rw [z4, gc8]
    · rw [zup_i (by omega), fo 13 (by omega) (by omega)]
    · rw [z8 9 (by omega) (by omega) (by omega), vo 9 (by omega) (by omega) (by omega)]
    · have hg' : A' 1 2 = 0 := by
        have q : zup A' 13 7 ((c + 1 : Nat) : Int) 1 2 = 0 := hg
        rw [zup_c (by omega)] at q
        exact q
      have gg3 : r3.2 1 2 = 0 := by
        have q := z5 hg'
        rw [ga81] at q
        exact q
      have hb3 := n3.2.2.1 gg3
      have hb2 := n2.2.2.1 (hg7 gg3)
      have hb1 := n1.2.2.1 (hg5 (hg7 gg3))
      have w0 : B' 112 (42 + 12 * c) = r1.1 := (z8 _ (by omega) (by omega) (by omega)).trans v0
      have w1 : B' 112 (42 + 12 * c + 1) = r2.1 := (z8 _ (by omega) (by omega) (by omega)).trans v1
      have w2 : B' 112 (42 + 12 * c + 2) = r3.1 := (z8 _ (by omega) (by omega) (by omega)).trans v2
      have hbnd : 0 ≤ r1.1 ∧ r1.1 < B 112 0 ∧ 0 ≤ r2.1 ∧ r2.1 ≤ 40 ∧ 0 ≤ r3.1 ∧ r3.1 ≤ 59 := by omega
      have t17 : ∀ j, A' 17 j = if j = c then r1.1 else A 17 j := fun j => by
        rw [z2 17 (by omega) (by omega) (by omega), ga8 17 (by omega) (by omega) (by omega), ga6 17 (by omega) (by omega), ga4v]
      have t18 : ∀ j, A' 18 j = if j = c then r2.1 else A 18 j := fun j => by
        rw [z2 18 (by omega) (by omega) (by omega), ga8 18 (by omega) (by omega) (by omega), ga6v]
      have t19 : ∀ j, A' 19 j = if j = c then r3.1 else A 19 j := fun j => by
        rw [z2 19 (by omega) (by omega) (by omega), ga8v]
      have t21 : ∀ j, j < 8 * c → A' 21 j = A 21 j := fun j hj => by
        rw [z7 j (by omega), ga8 21 (by omega) (by omega) (by omega), ga6 21 (by omega) (by omega), ga4 21 (by omega) (by omega)]
      have wo : ∀ i, ¬ (42 + 12 * c ≤ i ∧ i < 42 + 12 * c + 12) → i ≠ 6 → B' 112 i = B 112 i := fun i i1 i2 => by
        rw [z8 i i2 (by omega) (by omega), vo i (by omega) (by omega) (by omega)]
      have to20 : ∀ j, j ≠ c → A' 20 j = A 20 j := fun j hj => by
        rw [z6 j hj, ga8w, if_neg hj]
      have to13 : ∀ j, zup A' 13 7 ((c + 1 : Nat) : Int) 13 j = if j = 7 then ((c + 1 : Nat) : Int) else A 13 j := fun j => by
        rw [zup_a, fo 13 (by omega) (by omega)]
      have to4 : ∀ j, 14 ≤ j → j ≤ 22 → ¬ (17 ≤ j ∧ j ≤ 21) → zup A' 13 7 ((c + 1 : Nat) : Int) j = A j := fun j j1 j2 j3 => by
        rw [zup_c (by omega), fo j (by omega) j3]
      have tc : ∀ e, e ≠ 13 → zup A' 13 7 ((c + 1 : Nat) : Int) e = A' e := fun e he => zup_c he
      have ne17 : (17 : Nat) ≠ 13 := by omega
      have ne18 : (18 : Nat) ≠ 13 := by omega
      have ne19 : (19 : Nat) ≠ 13 := by omega
      have ne20 : (20 : Nat) ≠ 13 := by omega
      have ne21 : (21 : Nat) ≠ 13 := by omega
      obtain ⟨l, l1, l2, l3, l4, l5, l6⟩ := z9 hg'
      refine ⟨a, b', c + 1, d, zK_name (l := l) hk hc5 ?_ l4 l2 (fun i hi => ?_) l5 wo ⟨?_, ?_, ?_, ?_⟩ (fun j hj => ⟨?_, ?_, ?_, ?_⟩) (fun j hj => ?_) to13 to4⟩
      · rw [w0, w1, w2]
        exact hbnd
      · rw [tc 21 ne21]
        exact l6 i (Nat.zero_le i) hi
      · rw [tc 17 ne17, t17, if_pos rfl, w0]
      · rw [tc 18 ne18, t18, if_pos rfl, w1]
      · rw [tc 19 ne19, t19, if_pos rfl, w2]
      · rw [tc 20 ne20, l3, l4]
      · rw [tc 17 ne17, t17, if_neg hj]
      · rw [tc 18 ne18, t18, if_neg hj]
      · rw [tc 19 ne19, t19, if_neg hj]
      · rw [tc 20 ne20, to20 j hj]
      · rw [tc 21 ne21, t21 j hj]
end ZND
