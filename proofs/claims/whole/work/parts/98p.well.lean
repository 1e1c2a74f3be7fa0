/-! Both read a well. -/
section ZWE
variable {T : Nat → Int} {s b : Nat} {A B : Nat → Nat → Int}
set_option maxHeartbeats 1000000 in
theorem zY_well {a b' c d : Nat} (h : zLx T s b A B) (hk : zK a b' c d A (B 112)) (c0 : A 1 2 = 0) (hi : zwi 5010 A = true) : zY (lR_readWell 13 A) (lm_readNext B) (zBd T s b A B) := by
  obtain ⟨_, _, _, _, _, e1, e2, e3, e4, _, e6, _⟩ := zwd_e
  obtain ⟨⟨⟨g0, g1, g2, g3, g5, g6, g7, g8⟩, ⟨k4, k5, k6, k7, k8⟩, ⟨b0, b0', _⟩, h4, h5, _⟩, _, hwl, _⟩ := id hk
  have hkw : zKw4 A := Or.inr (Or.inl hi)
  have hx := (zwi_x h).2.1 hi
  have hx0 : ¬ (zwi 5008 A = true) := fun q => ((zwi_x h).1 q).1 hi
  unfold lR_readWell
  rw [if_pos (show zis 6 13 = true from zis_6_13), g6]
  by_cases ca : b' = 4
  · rw [if_neg (by omega)]
    refine zY_ls (zY_mono (zY_full h hkw (Or.inr (Or.inl ⟨hi, by omega⟩))) ?_)
    intro A' B' ⟨q1, q2⟩
    exact zBd_po q1 q2
  · have hf : ¬ zFul A B := by
      intro q
      rcases q with q | q | q | q
      · exact hx0 q.1
      · have := q.2; omega
      · exact hx.1 q.1
      · exact hx.2 q.1
    rw [if_pos (by omega), lm_readNext_go h hkw hf]
    unfold lm_readNext_c63
    refine zY_k lm_good_eq ?_
    have h12 : B 106 12 = A 1 2 := h.2.2.2.1
    rw [zbo_t (h12.trans c0)]
    refine zY_ke (by decide) ?_
    refine zY_k (lm_takes_no h (by omega) e1 hx0) ?_
    refine zY_kt rfl ?_
    refine zY_m (zY_take h (by omega) (by omega) e2 hi) ?_
    intro A1 q ⟨q1, p1, _⟩
    rw [q1]
    refine zY_ke (by decide) ?_
    have fa1 : ∀ c, c ≠ 1 → A1 c = A c := p1.2.1.1
    have fb1 : ∀ c, c ≠ 106 → q.2 c = B c := p1.2.1.2.1
    have fc1 : q.2 106 5 = B 106 5 := p1.2.1.2.2
    have x1 := p1.1
    generalize q.2 = B1 at fb1 fc1 x1 ⊢
    refine zY_k (rdI_n (i := 5) sh_112 (by omega)) ?_
    rw [fb1 112 (by omega), k5, fa1 13 (by omega), g0, show w32 (34 + w32 (2 * (b' : Int))) = ((34 + 2 * b' : Nat) : Int) by simp (disch := omega) only [w32_eq]; omega, show w32 (((34 + 2 * b' : Nat) : Int) + 1) = ((34 + 2 * b' + 1 : Nat) : Int) by rw [w32_eq (by omega) (by omega)]; omega]
    refine zY_m (zY_corner (n0 := B 112 0) x1 (by rw [fb1 112 (by omega)]) ⟨b0, b0'⟩ (fun _ _ c6 c7 _ => zshr_0 c7 (by omega))) ?_
    intro r q2 n1
    have hr := zPn_b n1 (by omega) (by omega)
    obtain ⟨F, hF⟩ : ∃ F : Nat, r.1 = (F : Int) := ⟨r.1.toNat, by omega⟩
    have eq2 := n1.1
    have fa2 : ∀ c, c ≠ 1 → r.2 c = A c := fun c hc => (n1.2.1.2.1.1 c hc).trans (fa1 c hc)
    have fb2 : ∀ c, c ≠ 106 → q2.2 c = B c := fun c hc => (n1.2.1.2.1.2.1 c hc).trans (fb1 c hc)
    have fc2 : q2.2 106 5 = B 106 5 := n1.2.1.2.1.2.2.trans fc1
    refine zY_k (wrI_n (i := 34 + 2 * b') sh_112 (by omega)) ?_
    have x2 := zLx_cg (A' := r.2) (B' := zup q2.2 112 (34 + 2 * b') q2.1) n1.2.1.1 rfl rfl (zup_c (by omega)) (zup_c (by omega))
    refine zY_told2 x2 (by omega) (by omega) e6 ?_
    intro A3 B4 p3
    have fa3 : ∀ c, c ≠ 1 → A3 c = A c := fun c hc => (p3.2.1.1 c hc).trans (fa2 c hc)
    have fb4 : ∀ c, c ≠ 106 → B4 c = zup q2.2 112 (34 + 2 * b') q2.1 c := p3.2.1.2.1
    have fc4 : B4 106 5 = B 106 5 := p3.2.1.2.2.trans (by rw [zup_c (by omega)]; exact fc2)
    have hg3 : A3 1 2 = 0 → r.2 1 2 = 0 := p3.2.2
    rw [hF]
    refine zY_l (rdI_n (i := F) (sh_T3 zis_6_13) (by omega)) ?_
    have e16 : A3 (13 + 3) F = A 16 F := by
      show A3 16 F = A 16 F
      rw [fa3 16 (by omega)]
    rw [e16]
    have gb4 : ∀ j, B4 112 j = if j = 34 + 2 * b' then r.1 else B 112 j := fun j => by
      rw [fb4 112 (by omega), zup_a, fb2 112 (by omega), eq2]
    have gb : ∀ c, c ≠ 106 → c ≠ 112 → B4 c = B c := fun c h1 h2 => by
      rw [fb4 c h1, zup_c h2, fb2 c h1]
    refine zY_m (zY_num (lo := 1) (hi := 20) (bar := 0) p3.1 (by omega) (by omega) (fun _ _ c6 c7 _ => zshr_0 (by omega) (by omega))) ?_
    intro r2 q3 n2
    have eq3 := n2.1
    have fa6 : ∀ c, c ≠ 1 → r2.2 c = A c := fun c hc => (n2.2.1.2.1.1 c hc).trans (fa3 c hc)
    have fb6 : ∀ c, c ≠ 106 → q3.2 c = B4 c := n2.2.1.2.1.2.1
    have fc6 : q3.2 106 5 = B 106 5 := n2.2.1.2.1.2.2.trans fc4
    refine zY_l (wrI_n (i := F) (sh_T3 zis_6_13) (by omega)) ?_
    refine zY_l rfl ?_
    refine zY_k (wrI_n (i := 34 + 2 * b' + 1) sh_112 (by omega)) ?_
    refine zY_k (rdI_n (i := 5) sh_112 (by omega)) ?_
    have e13 : zup r2.2 (13 + 3) F (w32 (A 16 F + r2.1)) 13 6 = (b' : Int) := by
      rw [zup_c (by omega), fa6 13 (by omega), g6]
    have e112 : zup q3.2 112 (34 + 2 * b' + 1) q3.1 112 5 = (b' : Int) := by
      rw [zup_i (by omega), fb6 112 (by omega), gb4, if_neg (by omega), k5]
    rw [e13, e112, w1 (by omega)]
    refine zY_k (wrI_n (i := 5) sh_112 (by omega)) ?_
    refine zY_r ⟨zLx_cg n2.2.1.1 ?_ ?_ ?_ ?_, fun e h1 h2 => ?_, fun e h1 h2 => ?_, ?_, ?_, ?_, fun hg => ?_⟩
    · rw [zup_c (by omega), zup_c (by omega)]
    · rw [zup_c (by omega), zup_c (by omega)]
    · rw [zup_c (by omega), zup_c (by omega)]
    · rw [zup_c (by omega), zup_c (by omega)]
    · rw [zup_c (by omega), zup_c (by omega), fa6 e h1]
    · rw [zup_c h2, zup_c h2, fb6 e h1, gb e h1 h2]
    · rw [zup_c (by omega), zup_c (by omega), fc6]
    · rw [zup_i (by omega), zup_c (by omega), fa6 13 (by omega)]
    · rw [zup_i (by omega), zup_i (by omega), fb6 112 (by omega), gb4, if_neg (by omega)]
    · have hg' : r2.2 1 2 = 0 := by
        have q : zup (zup r2.2 (13 + 3) F (w32 (A 16 F + r2.1))) 13 6 ((b' + 1 : Nat) : Int) 1 2 = 0 := hg
        rw [zup_c (by omega), zup_c (by omega)] at q
        exact q
      have hb2 := n2.2.2.1 hg'
      have hg1 : r.2 1 2 = 0 := hg3 (n2.2.1.2.2 hg')
      have hb1 := n1.2.2.1 hg1
      refine ⟨a, b' + 1, c, d, zK_well (f := F) (v := r2.1) hk (by omega) (by omega) ⟨hb2.1, hb2.2.1⟩ ?_ ?_ zup_s (fun i i1 i2 i3 => ?_) (fun j => ?_) (fun j => ?_) (fun j j1 j2 j3 => ?_)⟩
      · rw [zup_i (by omega), zup_i (by omega), fb6 112 (by omega), gb4, if_pos rfl, hF]
      · rw [zup_i (by omega), zup_s, eq3]
      · rw [zup_i i3, zup_i i2, fb6 112 (by omega), gb4, if_neg i1]
      · rw [zup_c (by omega)]
        refine zup_a.trans ?_
        rw [fa6 16 (by omega)]
      · rw [zup_a, zup_c (by omega), fa6 13 (by omega)]
      · rw [zup_c (by omega), zup_c (by omega), fa6 j (by omega)]
end ZWE
