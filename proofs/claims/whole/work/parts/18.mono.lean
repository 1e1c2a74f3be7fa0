/-! What runs without a script runs with one. -/
theorem zlen_mono {f : Nat → Int} {sc : zSc} {A : zM} {c : Nat} {n : Int} (h : zlen (0, f) A c = some n) : zlen sc A c = some n := by
  unfold zlen at h ⊢
  split at h
  · rename_i t N hA
    exact h
  · rename_i hA
    have h0 : ¬ (c = 5001 ∧ 0 < (0, f).1) := fun z => absurd (show 0 < 0 from z.2) (by decide)
    rw [if_neg h0] at h
    by_cases hc : c = 5001
    · subst hc
      rw [if_neg (by omega)] at h
      cases h
    · show (if c = 5001 ∧ 0 < sc.1 then _ else _) = _
      rw [if_neg (fun z => hc z.1)]
      exact h
theorem zald_mono {f : Nat → Int} {sc : zSc} {A : zM} {i : Instr} {c : Nat} {x : Int} {v : zV} (h : zald (0, f) A i c x = some v) : zald sc A i c x = some v := by
  unfold zald at h ⊢
  split at h
  · rename_i t N hA
    exact h
  · rename_i hA
    split at h
    · split at h
      · rename_i hz
        have := hz.2.2
        have e0 : (((0, f) : zSc).1 : Int) = 0 := rfl
        omega
      · cases h
    · exact h
    · cases h
set_option maxHeartbeats 4000000 in
theorem zs0_mono {f : Nat → Int} {sc : zSc} {q j pc len pc' : Nat} {L L' : zL} {S S' : List zV} {A A' : zM} {i : Instr} (h : zs0 (0, f) q j pc L S A i len = some (pc', L', S', A')) : zs0 sc q j pc L S A i len = some (pc', L', S', A') := by
  unfold zs0 at h
  split at h
  all_goals first
    | exact h
    | (split at h
       · rename_i n hn
         unfold zs0
         simp only [zlen_mono hn]
         exact h
       · cases h)
    | cases h
theorem zs1_mono {f : Nat → Int} {sc : zSc} {q j pc len : Nat} {L : zL} {S : List zV} {A : zM} {i : Instr} {x : Nat × zL × List zV × zM} (h : zs1 (0, f) q j pc L S A i len = some x) : zs1 sc q j pc L S A i len = some x := by
  obtain ⟨pc', L', S', A'⟩ := x
  unfold zs1 at h ⊢
  cases h1 : zpush i len (zcls j) with
  | some v => simp only [h1] at h ⊢; exact h
  | none =>
    cases h2 : zload i len with
    | some v => simp only [h1, h2] at h ⊢; exact h
    | none =>
      cases h3 : zstor i len with
      | some v => simp only [h1, h2, h3] at h ⊢; exact h
      | none =>
        cases h4 : zb32 i with
        | some v => simp only [h1, h2, h3, h4] at h ⊢; exact h
        | none =>
          cases h5 : zb64 i with
          | some v => simp only [h1, h2, h3, h4, h5] at h ⊢; exact h
          | none =>
            cases h6 : zu32 i with
            | some v => simp only [h1, h2, h3, h4, h5, h6] at h ⊢; exact h
            | none => simp only [h1, h2, h3, h4, h5, h6] at h ⊢; exact zs0_mono h
theorem zald_i {sc : zSc} {A : zM} {i : Instr} {c : Nat} {x : Int} {v : zV} (h : zald sc A i c x = some v) : i = .iaload ∨ i = .baload ∨ i = .laload ∨ i = .aaload := by
  unfold zald at h
  repeat' split at h
  all_goals first | (cases h; done) | simp
theorem zast_i {A A' : zM} {i : Instr} {c : Nat} {x : Int} {v : zV} (h : zast A i c x v = some A') : i = .iastore ∨ i = .bastore ∨ i = .lastore ∨ i = .aastore := by
  unfold zast at h
  repeat' split at h
  all_goals first | (cases h; done) | simp
theorem zald_no {sc : zSc} {A : zM} {i : Instr} {c : Nat} {x : Int} (h : i = .iastore ∨ i = .bastore ∨ i = .lastore ∨ i = .aastore) : zald sc A i c x = none := by
  unfold zald
  rcases h with rfl | rfl | rfl | rfl <;> split <;> simp
theorem zstep_mono {f : Nat → Int} {sc : zSc} {q j pc len : Nat} {L : zL} {S : List zV} {A : zM} {i : Instr} {x : Nat × zL × List zV × zM} (h : zstep (0, f) q j pc L S A i len = some x) : zstep sc q j pc L S A i len = some x := by
  unfold zstep at h ⊢
  cases h1 : zs1 (0, f) q j pc L S A i len with
  | some r =>
    rw [h1] at h
    rw [zs1_mono h1]
    exact h
  | none =>
    rw [h1] at h
    cases h2 : zs2 (0, f) pc L S A i len with
    | some r =>
      simp only [h2] at h
      unfold zs2 at h2
      split at h2
      · split at h2
        · rename_i x0 c0 S0 _ v hv
          have h3 : zs1 sc q j pc L (.inl x0 :: .inr (.inr c0) :: S0) A i len = none := by
            rcases zald_i hv with rfl | rfl | rfl | rfl <;> rfl
          rw [h3]
          unfold zs2
          simp only [zald_mono (sc := sc) hv, h2]
          exact h
        · cases h2
      · cases h2
    | none =>
      simp only [h2] at h
      unfold zs3 at h
      split at h
      · split at h
        · rename_i v x0 c0 S0 _ A1 hv
          have h3 : zs1 sc q j pc L (v :: .inl x0 :: .inr (.inr c0) :: S0) A i len = none := by
            rcases zast_i hv with rfl | rfl | rfl | rfl <;> rfl
          rw [h3]
          have h4 : zs2 sc pc L (v :: .inl x0 :: .inr (.inr c0) :: S0) A i len = none := by
            unfold zs2
            split
            · rw [zald_no (zast_i hv)]
            · rfl
          rw [h4]
          unfold zs3
          simp only [hv]
          exact h
        · cases h
      · cases h
theorem zs2_no {sc : zSc} {pc len : Nat} {L : zL} {S : List zV} {A : zM} {i : Instr} (h : ¬ (i = .iaload ∨ i = .baload ∨ i = .laload ∨ i = .aaload)) : zs2 sc pc L S A i len = none := by
  unfold zs2
  split
  · rename_i x c S0
    cases hz : zald sc A i c x with
    | none => rfl
    | some v => exact absurd (zald_i hz) h
  · rfl
theorem zstep_call {sc sc' : zSc} {q j pc len : Nat} {L : zL} {S : List zV} {A : zM} {i : Instr} {y : Nat × List zV × List zV} (h : zcall j S i len = some y) : zstep sc q j pc L S A i len = zstep sc' q j pc L S A i len := by
  have hi : (∃ k, i = .invokestatic k) ∨ (∃ k, i = .invokevirtual k) ∨ (∃ k, i = .invokespecial k) := by
    unfold zcall at h
    split at h
    · rename_i hh
      repeat' split at hh
      all_goals first | (cases hh; done) | simp
    · cases h
  unfold zstep
  have e1 : zs1 sc q j pc L S A i len = zs1 sc' q j pc L S A i len := by
      rcases hi with ⟨k, rfl⟩ | ⟨k, rfl⟩ | ⟨k, rfl⟩
      · rfl
      · rfl
      · unfold zs1 zs0
        cases S with
        | nil => rfl
        | cons v S => rcases v with x | x | x <;> rfl
  rw [e1, zs2_no (by rcases hi with ⟨k, rfl⟩ | ⟨k, rfl⟩ | ⟨k, rfl⟩ <;> simp), zs2_no (by rcases hi with ⟨k, rfl⟩ | ⟨k, rfl⟩ | ⟨k, rfl⟩ <;> simp)]
theorem zex_mono {f : Nat → Int} {sc : zSc} : ∀ (n q j pc : Nat) (L : zL) (S : List zV) (A : zM) (x : Option zV × zM), zex (0, f) n q j pc L S A = some x → zex sc n q j pc L S A = some x
  | 0, _, _, _, _, _, _, _, h => by cases h
  | n + 1, q, j, pc, L, S, A, x, h => by
    unfold zex at h ⊢
    split at h
    · cases h
    · rename_i i len hd
      split at h
      · exact h
      · split at h
        · rename_i pc' L' S' A1 hs
          rw [zstep_mono hs]
          exact zex_mono n q j pc' L' S' A1 x h
        · rename_i hs
          split at h
          · rename_i c as rest hc
            rw [zstep_call (sc' := (0, f)) hc, hs]
            split at h
            · rename_i hk
              split at h
              · rename_i r A1 hr
                have h1 := zex_mono (sc := sc) n _ c 0 _ [] A (r, A1) hr
                have h2 := zex_mono (sc := sc) n q j (pc + 3) L _ A1 x h
                simp only [hc, if_pos hk, h1]
                exact h2
              · cases h
            · cases h
          · cases h
