/-! Both read the first line, a street, a well. -/
def zBd (T : Nat → Int) (s b : Nat) (A B A' B' : Nat → Nat → Int) : Prop := zLx T s b A' B' ∧ (∀ e, e ≠ 1 → ¬ (13 ≤ e ∧ e ≤ 22) → A' e = A e) ∧ (∀ e, e ≠ 106 → e ≠ 112 → B' e = B e) ∧ B' 106 5 = B 106 5 ∧ A' 13 4 = A 13 4 ∧ B' 112 9 = B 112 9 ∧ (A' 1 2 = 0 → ∃ a b c d, zK a b c d A' (B' 112))
section ZHD
variable {T : Nat → Int} {s b : Nat} {A B : Nat → Nat → Int}
theorem zwd_e : zwd 5018 = zwd 5003 ∧ zwd 5019 = zwd 5004 ∧ zwd 5020 = zwd 5005 ∧ zwd 5021 = zwd 5006 ∧ zwd 5022 = zwd 5007 ∧ zwd 5023 = zwd 5008 ∧ zwd 5024 = zwd 5010 ∧ zwd 5025 = zwd 5012 ∧ zwd 5026 = zwd 5017 ∧ zwd 5027 = zwd 5009 ∧ zwd 5028 = zwd 5011 ∧ zwd 5029 = zwd 5013 ∧ zwd 5030 = zwd 5014 ∧ zwd 5031 = zwd 5015 ∧ zwd 5032 = zwd 5016 := by decide +kernel
theorem zwd_l : zwl 5008 = 6 ∧ zwl 5010 = 4 ∧ zwl 5012 = 4 ∧ zwl 5017 = 8 ∧ zwc 5010 0 ≠ zwc 5012 0 := by decide +kernel
theorem zPn_bad {lo hi : Int} {r q : Int × (Nat → Nat → Int)} (h : zPo T s b A B r.2 q.2) (g : r.2 1 2 ≠ 0) (r0 : r.1 = 0) (q0 : q.1 = 0) : zPn T s b lo hi A B r q := ⟨q0.trans r0.symm, h, fun e => absurd e g, fun _ => r0⟩
theorem zPn_b {lo hi : Int} {r q : Int × (Nat → Nat → Int)} (h : zPn T s b lo hi A B r q) (hlo : 0 ≤ lo) (hhi : lo ≤ hi) : 0 ≤ r.1 ∧ r.1 ≤ hi := by
  obtain ⟨_, _, h1, h2⟩ := h
  by_cases c : r.2 1 2 = 0
  · have := h1 c
    omega
  · have := h2 c
    omega
theorem zY_corner {n0 bar : Int} (h : zLx T s b A B) (e0 : B 112 0 = n0) (hn : 1 ≤ n0 ∧ n0 ≤ 8) (hb : A 1 2 = 0 → A 1 4 = 2 → A 1 7 < 8 → 0 ≤ A 1 7 → A 1 7 ≤ n0 - 1 → zand (zshr bar (A 1 7)) 1 = 0) : zY (lR_takeNumber 0 (w32 (n0 - 1)) bar A) (lm_freshCorner B) (zPn T s b 0 (n0 - 1) A B) := by
  unfold lm_freshCorner
  refine zY_k (rdI_n (i := 0) sh_112 (by omega)) ?_
  rw [e0, w32_eq (by omega) (by omega)]
  obtain ⟨r, q, er, eq, h⟩ := zY_num (lo := 0) (hi := n0 - 1) h (by omega) (by omega) hb
  rw [er]
  exact zY_k eq (zY_r h)
theorem zshr_0 {x : Int} (h0 : 0 ≤ x) (h1 : x < 32) : zand (zshr 0 x) 1 = 0 := by
  obtain ⟨k, rfl⟩ : ∃ k : Nat, x = (k : Int) := ⟨x.toNat, by omega⟩
  have e := zbit_nat (a := 0) (k := k) (by omega) (by omega)
  rw [Nat.zero_testBit] at e
  exact e
/-- a word and a number -/
theorem zY_told {w w' : Nat} {lo hi : Int} {γ δ : Type} {k : Int × (Nat → Nat → Int) → Option γ} {l : Int × (Nat → Nat → Int) → Option δ} {R : γ → δ → Prop} (h : zLx T s b A B) (hw : 5003 ≤ w ∧ w < 5033) (hw' : 5003 ≤ w' ∧ w' < 5033) (e : zwd w' = zwd w) (hlo : lo ≤ 99999) (hhi : hi < 99999) (kk : ∀ (A1 B1 : Nat → Nat → Int) (r q : Int × (Nat → Nat → Int)), zPo T s b A B A1 B1 → zPn T s b lo hi A1 B1 r q → zY (k r) (l q) R) : zY ((lR_takeWord w A).bind (fun M => (lR_takeNumber lo hi 0 M).bind k)) ((lm_told w' lo hi B).bind l) R := by
  obtain ⟨A1, B1, ea, eb, p1⟩ := zY_word h hw hw' e
  obtain ⟨r, q, er, eq, p2⟩ := zY_num (bar := 0) (lo := lo) (hi := hi) p1.1 hlo hhi (fun _ _ c _ _ => zshr_0 (p1.1.2.2.2.2.2.2.2.2.2.2.2.2.2.1) (by omega))
  have et : lm_told w' lo hi B = some q := by
    unfold lm_told
    rw [if_pos hw']
    exact zS_eq (zS_b eb (zS_b eq (zS_r rfl)))
  rw [ea, et]
  refine zY_l rfl ?_
  rw [er]
  exact kk A1 B1 r q p1 p2
set_option maxHeartbeats 1000000 in
theorem zY_head (h : zLx T s b A B) (h1 : ∀ j, j < 9 → A 13 j = 0) (h2 : ∀ x, x < 8 → A 16 x = 0) (h3 : ∀ i, i < 138 → B 112 i = 0) : zY (lR_readHead 13 A) (lm_readFirst B) (zBd T s b A B) := by
  obtain ⟨w1, w2, w3, w4, w5, _⟩ := zwd_e
  unfold lR_readHead lm_readFirst
  rw [if_pos (show zis 6 13 = true from zis_6_13)]
  refine zY_m (zY_word h (by omega) (by omega) w1) ?_
  intro A1 B1 p1
  refine zY_told p1.1 (by omega) (by omega) w2 (by omega) (by omega) ?_
  intro A2 B2 r1 q1 p2 n1
  refine zY_l rfl ?_
  refine zY_k (wrI_n (i := 0) sh_112 (by omega)) ?_
  have x1 := zLx_cg (A' := zup r1.2 13 0 r1.1) (B' := zup q1.2 112 0 q1.1) n1.2.1.1 (zup_c (by omega)) (zup_c (by omega)) (zup_c (by omega)) (zup_c (by omega))
  refine zY_told x1 (by omega) (by omega) w3 (by omega) (by omega) ?_
  intro A3 B3 r2 q2 p3 n2
  refine zY_l rfl ?_
  refine zY_k (wrI_n (i := 1) sh_112 (by omega)) ?_
  have x2 := zLx_cg (A' := zup r2.2 13 1 r2.1) (B' := zup q2.2 112 1 q2.1) n2.2.1.1 (zup_c (by omega)) (zup_c (by omega)) (zup_c (by omega)) (zup_c (by omega))
  refine zY_told x2 (by omega) (by omega) w4 (by omega) (by omega) ?_
  intro A4 B4 r3 q3 p4 n3
  refine zY_l rfl ?_
  refine zY_k (wrI_n (i := 2) sh_112 (by omega)) ?_
  have x3 := zLx_cg (A' := zup r3.2 13 2 r3.1) (B' := zup q3.2 112 2 q3.1) n3.2.1.1 (zup_c (by omega)) (zup_c (by omega)) (zup_c (by omega)) (zup_c (by omega))
  refine zY_told x3 (by omega) (by omega) w5 (by omega) (by omega) ?_
  intro A5 B5 r4 q4 p5 n4
  refine zY_l rfl ?_
  refine zY_k (wrI_n (i := 3) sh_112 (by omega)) ?_
  have x4 := zLx_cg (A' := zup r4.2 13 3 r4.1) (B' := zup q4.2 112 3 q4.1) n4.2.1.1 (zup_c (by omega)) (zup_c (by omega)) (zup_c (by omega)) (zup_c (by omega))
  -- what stays
  have fa1 : ∀ c, c ≠ 1 → r1.2 c = A c := fun c hc => (n1.2.1.2.1.1 c hc).trans ((p2.2.1.1 c hc).trans (p1.2.1.1 c hc))
  have fb1 : ∀ c, c ≠ 106 → q1.2 c = B c := fun c hc => (n1.2.1.2.1.2.1 c hc).trans ((p2.2.1.2.1 c hc).trans (p1.2.1.2.1 c hc))
  have fc1 : q1.2 106 5 = B 106 5 := n1.2.1.2.1.2.2.trans (p2.2.1.2.2.trans p1.2.1.2.2)
  have fa2 : ∀ c, c ≠ 1 → r2.2 c = zup r1.2 13 0 r1.1 c := fun c hc => (n2.2.1.2.1.1 c hc).trans (p3.2.1.1 c hc)
  have fb2 : ∀ c, c ≠ 106 → q2.2 c = zup q1.2 112 0 q1.1 c := fun c hc => (n2.2.1.2.1.2.1 c hc).trans (p3.2.1.2.1 c hc)
  have fc2 : q2.2 106 5 = q1.2 106 5 := n2.2.1.2.1.2.2.trans (p3.2.1.2.2.trans (by rw [zup_c (by omega)]))
  have fa3 : ∀ c, c ≠ 1 → r3.2 c = zup r2.2 13 1 r2.1 c := fun c hc => (n3.2.1.2.1.1 c hc).trans (p4.2.1.1 c hc)
  have fb3 : ∀ c, c ≠ 106 → q3.2 c = zup q2.2 112 1 q2.1 c := fun c hc => (n3.2.1.2.1.2.1 c hc).trans (p4.2.1.2.1 c hc)
  have fc3 : q3.2 106 5 = q2.2 106 5 := n3.2.1.2.1.2.2.trans (p4.2.1.2.2.trans (by rw [zup_c (by omega)]))
  have fa4 : ∀ c, c ≠ 1 → r4.2 c = zup r3.2 13 2 r3.1 c := fun c hc => (n4.2.1.2.1.1 c hc).trans (p5.2.1.1 c hc)
  have fb4 : ∀ c, c ≠ 106 → q4.2 c = zup q3.2 112 2 q3.1 c := fun c hc => (n4.2.1.2.1.2.1 c hc).trans (p5.2.1.2.1 c hc)
  have fc4 : q4.2 106 5 = q3.2 106 5 := n4.2.1.2.1.2.2.trans (p5.2.1.2.2.trans (by rw [zup_c (by omega)]))
  have ga : ∀ c, c ≠ 1 → c ≠ 13 → zup r4.2 13 3 r4.1 c = A c := fun c h1 h2 => by
    rw [zup_c h2, fa4 c h1, zup_c h2, fa3 c h1, zup_c h2, fa2 c h1, zup_c h2, fa1 c h1]
  have ga13 : ∀ j, 4 ≤ j → zup r4.2 13 3 r4.1 13 j = A 13 j := fun j hj => by
    rw [zup_i (by omega), fa4 13 (by omega), zup_i (by omega), fa3 13 (by omega), zup_i (by omega), fa2 13 (by omega), zup_i (by omega), fa1 13 (by omega)]
  have gb : ∀ c, c ≠ 106 → c ≠ 112 → zup q4.2 112 3 q4.1 c = B c := fun c h1 h2 => by
    rw [zup_c h2, fb4 c h1, zup_c h2, fb3 c h1, zup_c h2, fb2 c h1, zup_c h2, fb1 c h1]
  have gb112 : ∀ j, 4 ≤ j → zup q4.2 112 3 q4.1 112 j = B 112 j := fun j hj => by
    rw [zup_i (by omega), fb4 112 (by omega), zup_i (by omega), fb3 112 (by omega), zup_i (by omega), fb2 112 (by omega), zup_i (by omega), fb1 112 (by omega)]
  have va3 : zup r4.2 13 3 r4.1 13 3 = r4.1 := zup_s
  have va2 : zup r4.2 13 3 r4.1 13 2 = r3.1 := by rw [zup_i (by omega), fa4 13 (by omega), zup_s]
  have va1 : zup r4.2 13 3 r4.1 13 1 = r2.1 := by rw [zup_i (by omega), fa4 13 (by omega), zup_i (by omega), fa3 13 (by omega), zup_s]
  have va0 : zup r4.2 13 3 r4.1 13 0 = r1.1 := by rw [zup_i (by omega), fa4 13 (by omega), zup_i (by omega), fa3 13 (by omega), zup_i (by omega), fa2 13 (by omega), zup_s]
  have vb3 : zup q4.2 112 3 q4.1 112 3 = q4.1 := zup_s
  have vb2 : zup q4.2 112 3 q4.1 112 2 = q3.1 := by rw [zup_i (by omega), fb4 112 (by omega), zup_s]
  have vb1 : zup q4.2 112 3 q4.1 112 1 = q2.1 := by rw [zup_i (by omega), fb4 112 (by omega), zup_i (by omega), fb3 112 (by omega), zup_s]
  have vb0 : zup q4.2 112 3 q4.1 112 0 = q1.1 := by rw [zup_i (by omega), fb4 112 (by omega), zup_i (by omega), fb3 112 (by omega), zup_i (by omega), fb2 112 (by omega), zup_s]
  have e1 := n1.1
  have e2 := n2.1
  have e3 := n3.1
  have e4 := n4.1
  refine zY_r ⟨x4, fun e h1 h2 => ga e h1 (by omega), gb, ?_, ga13 4 (by omega), gb112 9 (by omega), fun hg => ?_⟩
  · show zup q4.2 112 3 q4.1 106 5 = _
    rw [zup_c (by omega), fc4, fc3, fc2, fc1]
  · have g4 : r4.2 1 2 = 0 := by
      have q : zup r4.2 13 3 r4.1 1 2 = 0 := hg
      rw [zup_c (by omega)] at q
      exact q
    have g3 : r3.2 1 2 = 0 := by
      have q := p5.2.2 (n4.2.1.2.2 g4)
      rw [zup_c (by omega)] at q
      exact q
    have g2 : r2.2 1 2 = 0 := by
      have q := p4.2.2 (n3.2.1.2.2 g3)
      rw [zup_c (by omega)] at q
      exact q
    have g1 : r1.2 1 2 = 0 := by
      have q := p3.2.2 (n2.2.1.2.2 g2)
      rw [zup_c (by omega)] at q
      exact q
    have b1 := n1.2.2.1 g1
    have b2 := n2.2.2.1 g2
    have b3 := n3.2.2.1 g3
    have b4 := n4.2.2.1 g4
    refine ⟨0, 0, 0, 0, zK_0 (fun j j1 j2 => ?_) (fun x hx => ?_) (fun i i1 i2 => ?_) ?_ ?_ ?_ ?_ ?_⟩
    · exact (ga13 j (by omega)).trans (h1 j (by omega))
    · show zup r4.2 13 3 r4.1 16 x = 0
      rw [ga 16 (by omega) (by omega)]
      exact h2 x hx
    · exact (gb112 i (by omega)).trans (h3 i (by omega))
    · exact va0.trans (e1.symm.trans vb0.symm)
    · exact va1.trans (e2.symm.trans vb1.symm)
    · exact va2.trans (e3.symm.trans vb2.symm)
    · exact va3.trans (e4.symm.trans vb3.symm)
    · show 1 ≤ zup q4.2 112 3 q4.1 112 0 ∧ zup q4.2 112 3 q4.1 112 0 ≤ 8 ∧ 1 ≤ zup q4.2 112 3 q4.1 112 1 ∧ zup q4.2 112 3 q4.1 112 1 ≤ 20 ∧ 0 ≤ zup q4.2 112 3 q4.1 112 2 ∧ zup q4.2 112 3 q4.1 112 2 ≤ 3 ∧ 0 ≤ zup q4.2 112 3 q4.1 112 3 ∧ zup q4.2 112 3 q4.1 112 3 ≤ 10
      rw [vb0, vb1, vb2, vb3, e1, e2, e3, e4]
      omega
end ZHD
