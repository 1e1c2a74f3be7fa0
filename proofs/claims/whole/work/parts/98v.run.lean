/-! The law's run from its first row. -/
section ZRN
variable {sc : zSc} {q j pc : Nat} {L : zL} {S : List zV} {A : zM} {x : Option zV × zM}
theorem zx_step {i : Instr} {len pc' : Nat} {L' : zL} {S' : List zV} {A' : zM} (hd : decode (zcode j) pc = .ok (i, len)) (hr : zret j S i len = none) (hs : zs1 sc q j pc L S A i len = some (pc', L', S', A')) (k : ∃ n, zex sc n q j pc' L' S' A' = some x) : ∃ n, zex sc n q j pc L S A = some x := by
  obtain ⟨n, h⟩ := k
  refine ⟨n + 1, ?_⟩
  have hz : zstep sc q j pc L S A i len = some (pc', L', S', A') := by
    unfold zstep
    rw [hs]
  unfold zex
  simp only [hd, hr, hz]
  exact h
theorem zx_new {idx C : Nat} {e : Nat × Nat × Nat} (hd : decode (zcode j) pc = .ok (.new idx, 3)) (hc : zcls j = C) (hf : (zKK C).find? (fun e => e.1 == idx) = some e) (hA : A.1.length < 5000) (k : ∃ n, zex sc n q j (pc + 3) L (.inr (.inr A.1.length) :: S) (zmk A (10 + e.2.1) (zNF e.2.1)) = some x) : ∃ n, zex sc n q j pc L S A = some x := by
  refine zx_step hd (by cases S <;> rfl) ?_ k
  unfold zs1
  show zs0 sc q j pc L S A (.new idx) 3 = _
  unfold zs0
  show (match (zKK (zcls j)).find? (fun e => e.1 == idx) with
    | some e => if 3 = 3 ∧ A.1.length < 5000 then some (pc + 3, L, (Sum.inr (Sum.inr A.1.length) : zV) :: S, zmk A (10 + e.2.1) (zNF e.2.1)) else none
    | none => (none : Option (Nat × zL × List zV × zM))) = _
  rw [hc]
  simp only [hf]
  rw [if_pos ⟨trivial, hA⟩]
theorem zx_dup {v : zV} (hd : decode (zcode j) pc = .ok (.dup, 1)) (hv : zcat v = 1) (k : ∃ n, zex sc n q j (pc + 1) L (v :: v :: S) A = some x) : ∃ n, zex sc n q j pc L (v :: S) A = some x := zx_step hd rfl (by show (if 1 = 1 ∧ zcat v = 1 then _ else none) = _; rw [if_pos ⟨rfl, hv⟩]) k
theorem zx_astore {m : Fin 4} {r : Nat} {L' : zL} (hd : decode (zcode j) pc = .ok (.astore_n m, 1)) (hn : (m : Nat) < zml j) (hL : zs_1 L m (.inr (.inr r)) = L') (k : ∃ n, zex sc n q j (pc + 1) L' S A = some x) : ∃ n, zex sc n q j pc L (.inr (.inr r) :: S) A = some x := by
  refine zx_step hd rfl ?_ k
  show (if _ then some (pc + 1, _, S, A) else none) = _
  rw [if_pos ⟨rfl, hn⟩, ← hL]
  rfl
theorem zstep_spe {idx C : Nat} (hc : zcls j = C) (h : ((zOK C).find? (fun e => e.1 == idx)).isSome = false) {r : Nat} : zstep sc q j pc L (.inr (.inr r) :: S) A (.invokespecial idx) 3 = none := by
  unfold zstep
  have h1 : zs1 sc q j pc L (.inr (.inr r) :: S) A (.invokespecial idx) 3 = none := by
    unfold zs1
    show zs0 sc q j pc L (.inr (.inr r) :: S) A (.invokespecial idx) 3 = none
    unfold zs0
    show (if 3 = 3 ∧ 1 ≤ q ∧ r < 5000 ∧ ((S.map zcat).sum ≤ 8) ∧ ((zOK (zcls j)).find? (fun e => e.1 == idx)).isSome = true then some (pc + 3, L, S, A) else none) = _
    rw [hc, h, if_neg (fun z => Bool.false_ne_true z.2.2.2.2)]
  rw [h1, zs2_n2 rfl, zs3_n2 rfl]
theorem zcall_p {idx C c m : Nat} {as rest : List zV} (hc : zcls j = C) (hl : zlx C idx = some c) (hk : zkd c = 2 ∧ znp c + 1 = m) (hS : m ≤ S.length ∧ (S.take m).reverse = as ∧ S.drop m = rest) (hcat : (rest.map zcat).sum ≤ 8) : zcall j S (.invokespecial idx) 3 = some (c, as, rest) := by
  obtain ⟨e, h1, h2⟩ := zlx_of hl
  unfold zcall
  show (match (zLK (zcls j)).find? (fun e => e.1 == idx) with
      | some e => _
      | none => none) = _
  rw [hc]
  simp only [h1, h2]
  have e1 : znp c + (if 2 = 0 then 0 else 1) = m := hk.2
  rw [e1, hS.2.1, hS.2.2, if_pos ⟨hk.1, hS.1, hcat⟩]
theorem zx_init {idx C c r k0 n0 : Nat} {A' : zM} (hd : decode (zcode j) pc = .ok (.invokespecial idx, 3)) (hc : zcls j = C) (ho : ((zOK C).find? (fun e => e.1 == idx)).isSome = false) (hl : zlx C idx = some c) (hk : zkd c = 2 ∧ znp c + 1 = 1) (hcat : (S.map zcat).sum ≤ 8) (hR : zrk c [.inr (.inr r)] = k0) (hq : k0 < q) (hm : 1 ≤ zml c) (hr : r < 5000) (h : zex sc n0 k0 c 0 (zarg (zml c) [.inr (.inr r)]) [] A = some (none, A')) (k : ∃ n, zex sc n q j (pc + 3) L S A' = some x) : ∃ n, zex sc n q j pc L (.inr (.inr r) :: S) A = some x := by
  obtain ⟨n, hn⟩ := k
  refine ⟨n0 + n + 1, ?_⟩
  have g1 := zex_up n0 (n0 + n) _ _ _ _ _ _ _ h (by omega)
  have g2 := zex_up n (n0 + n) _ _ _ _ _ _ _ hn (by omega)
  have hcall : zcall j (.inr (.inr r) :: S) (.invokespecial idx) 3 = some (c, [.inr (.inr r)], S) := zcall_p hc hl hk ⟨by show 1 ≤ S.length + 1; omega, rfl, rfl⟩ hcat
  have hs : zstep sc q j pc L (.inr (.inr r) :: S) A (.invokespecial idx) 3 = none := zstep_spe hc ho
  have hret : zret j (.inr (.inr r) :: S) (.invokespecial idx) 3 = none := rfl
  have hv : zrv A c [.inr (.inr r)] = true := by
    unfold zrv
    rw [hk.1]
    exact decide_eq_true hr
  unfold zex
  simp only [hd, hret, hs, hcall]
  rw [if_pos ⟨by rw [hR]; exact hq, by show 1 ≤ zml c; exact hm, hv⟩, hR]
  simp only [g1]
  exact g2
end ZRN
theorem zl_len : zSH1.length = 106 ∧ zSH.length = 130 ∧ zsl zSH ≤ 7302250 := by decide +kernel
theorem z_law {sc : zSc} (h : zWp sc 20 331 16 [some (.inr (.inr 5001)), some (.inr (.inr 0)), some (.inr (.inr 106)), none] [] zM0 (fun v _ => v = some (.inl 1))) : ∃ n M', zex sc n 20 331 0 [some (.inr (.inr 5001)), none, none, none] [] ([], [], fun _ _ => 0) = some (some (.inl 1), zA M') := by
  obtain ⟨n1, r, M', h1, h2⟩ := h
  subst h2
  have hfin : ∃ n, zex sc n 20 331 16 [some (.inr (.inr 5001)), some (.inr (.inr 0)), some (.inr (.inr 106)), none] [] (zA zM0) = some (some (.inl 1), zA M') := ⟨n1, h1⟩
  have hX : zex sc 20000 3 76 0 (zarg (zml 76) [.inr (.inr 0)]) [] (zmk ([], [], fun _ _ => 0) 17 9) = some (none, (zSH1, zGG1, zM1)) := by
    have e : zml 76 = 2 := by decide +kernel
    rw [e]
    exact zex_mono _ _ _ _ _ _ _ _ zIX_ok
  have hM : zex sc 20000 1 175 0 (zarg (zml 175) [.inr (.inr 106)]) [] (zmk (zSH1, zGG1, zM1) 18 40) = some (none, zA zM0) := by
    have e : zml 175 = 1 := by decide +kernel
    rw [e]
    exact zex_mono _ _ _ _ _ _ _ _ zIM_ok
  suffices hh : ∃ n, zex sc n 20 331 0 [some (.inr (.inr 5001)), none, none, none] [] ([], [], fun _ _ => 0) = some (some (.inl 1), zA M') by
    obtain ⟨n, hn⟩ := hh
    exact ⟨n, M', hn⟩
  have e7 : (10 + 7, zNF 7) = (17, 9) := by decide +kernel
  have e8 : (10 + 8, zNF 8) = (18, 40) := by decide +kernel
  refine zx_new (e := (7, 7, 1018)) (zDk zD_331_0_ok 0 rfl) zc_331 (by decide +kernel) (by show 0 < 5000; omega) ?_
  rw [show zmk (([], [], fun _ _ => 0) : zM) (10 + 7) (zNF 7) = zmk ([], [], fun _ _ => 0) 17 9 by rw [(Prod.mk.inj e7).2]]
  refine zx_dup (zDk zD_331_0_ok 1 rfl) rfl ?_
  refine zx_init (c := 76) (k0 := 3) (r := 0) (zDk zD_331_0_ok 2 rfl) zc_331 (by decide +kernel) (by decide +kernel) (by decide +kernel) (by decide) (by decide +kernel) (by omega) (by decide +kernel) (by omega) hX ?_
  refine zx_astore (zDk zD_331_0_ok 3 rfl) (by rw [zm_331]; decide) rfl ?_
  refine zx_new (e := (10, 8, 5152)) (zDk zD_331_0_ok 4 rfl) zc_331 (by decide +kernel) (by show zSH1.length < 5000; rw [zl_len.1]; omega) ?_
  rw [show zmk ((zSH1, zGG1, zM1) : zM) (10 + 8) (zNF 8) = zmk (zSH1, zGG1, zM1) 18 40 by rw [(Prod.mk.inj e8).2], zl_len.1]
  refine zx_dup (zDk zD_331_0_ok 5 rfl) rfl ?_
  refine zx_init (c := 175) (k0 := 1) (r := 106) (zDk zD_331_0_ok 6 rfl) zc_331 (by decide +kernel) (by decide +kernel) (by decide +kernel) (by decide) (by decide +kernel) (by omega) (by decide +kernel) (by omega) hM ?_
  exact zx_astore (zDk zD_331_0_ok 7 rfl) (by rw [zm_331]; decide) rfl hfin
theorem z_all {L : Nat} {xs : Nat → Int32} (hL : L ≤ 3072) : zWp (L + 1, fun i => (xs i).toInt) 20 331 16 [some (.inr (.inr 5001)), some (.inr (.inr 0)), some (.inr (.inr 106)), none] [] zM0 (fun v _ => v = some (.inl 1)) := by
  refine E_iconst (pc := 16) (zDk zD_331_0_ok 8 rfl) (by decide +kernel) ?_
  refine W_istore_n (pc := 17) (ml := 4) (L' := [some (.inr (.inr 5001)), some (.inr (.inr 0)), some (.inr (.inr 106)), some (.inl 0)]) (zDk zD_331_0_ok 9 rfl) zm_331 (by decide) rfl ?_
  refine ok_lQ_law_c18 (Nat.le_refl 20) _ zN 0 zM0 ?_
  have h := zlaw_loop (fun W M h => q_state h) (L := L) (X := fun i => (xs i).toInt) hL (fun i => ⟨by have := Int32.le_toInt (xs i); omega, by have := Int32.toInt_lt (xs i); omega⟩) zN 0 (zM0 107) zM0 zInv_0 (by omega) (by show L < 0 + 6 * 10000; omega)
  exact zS_mono h (fun r e => by show some (Sum.inl r.1) = _; rw [e])
