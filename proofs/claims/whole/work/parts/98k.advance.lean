/-! Tokens, of the reference. -/
section ZAV
variable {T : Nat → Int} {s : Nat} {A B : Nat → Nat → Int}
theorem zTd_cg {A' B' : Nat → Nat → Int} (h : zTd T s A B) (ha : A' 2 = A 2) (hb : B' 110 = B 110) : zTd T s A' B' := by
  unfold zTd at h ⊢
  rw [ha, hb]
  exact h
theorem lm_see_ok {j : Nat} (ht : zTd T s A B) (h7 : B 106 7 = (s : Int)) : lm_see (j : Int) B = some (if j < s then T j else -1) := by
  obtain ⟨hs, _, hB⟩ := ht
  unfold lm_see
  rw [h7]
  by_cases c : j < s
  · rw [if_pos (show (j : Int) < (s : Int) by omega), if_pos c, rdB_110 (by omega) (by omega), Int.toNat_natCast]
    show some (zand (B 110 j) 255) = _
    obtain ⟨t0, t1, t2⟩ := hB j c
    rw [zand_255, t2]
    congr 1
    split <;> omega
  · rw [if_neg (show ¬ ((j : Int) < (s : Int)) by omega), if_neg c]
theorem lm_advance_c83_ok {st e : Nat} (ht : zTd T s A B) (h7 : B 106 7 = (s : Int)) (h8 : B 106 8 = (st : Int)) (hse : st ≤ e) (hes : e ≤ s) (hk : ∀ i, st ≤ i → i < e → zknd (T i) = 1) (hk2 : e < s → zknd (T e) ≠ 1) : zS (lm_advance_c83 zN B) (fun B' => (∀ c, c ≠ 106 → B' c = B c) ∧ (∀ f, f ≠ 8 → f ≠ 10 → B' 106 f = B 106 f) ∧ B' 106 8 = (e : Int) ∧ B' 106 10 = 1) := by
  have hs := ht.1
  refine loopI (fun m (_ : Nat) N => lm_advance_c83 m N) (fun i N => (∀ c, c ≠ 106 → N c = B c) ∧ (∀ f, f ≠ 8 → N 106 f = B 106 f) ∧ N 106 8 = (i : Int)) st e hse ⟨fun _ _ => rfl, fun _ _ => rfl, h8⟩ ?_ ?_ zN (zN_gt (by omega))
  · intro m i N i1 i2 ⟨b1, b2, b3⟩ kk
    show zS (lm_advance_c83 (m + 1) N) _
    rw [lm_advance_c83, b3]
    refine zS_b (lm_see_ok (zTd_cg ht rfl (b1 110 (by omega))) ((b2 7 (by omega)).trans h7)) ?_
    rw [if_pos (by omega)]
    refine zS_b lm_in_eq ?_
    rw [zbo_t (zknd_1.mp (hk i i1 i2)), if_neg (by decide)]
    refine zS_b rfl ?_
    rw [w1 (by omega)]
    exact kk _ ⟨fun c hc => (zup_c hc).trans (b1 c hc), fun f hf => (zup_i hf).trans (b2 f hf), zup_s⟩
  · intro m N ⟨b1, b2, b3⟩
    show zS (lm_advance_c83 (m + 1) N) _
    rw [lm_advance_c83, b3]
    refine zS_b (lm_see_ok (zTd_cg ht rfl (b1 110 (by omega))) ((b2 7 (by omega)).trans h7)) ?_
    refine zS_b lm_in_eq ?_
    rw [zbo_f (by
      by_cases c : e < s
      · rw [if_pos c]
        exact fun q => hk2 c (zknd_1.mpr q)
      · rw [if_neg c]
        omega), if_pos rfl]
    refine zS_b rfl ?_
    exact zS_r ⟨fun c hc => (zup_c hc).trans (b1 c hc), fun f f1 f2 => (zup_i f2).trans (b2 f f1), (zup_i (by omega)).trans b3, zup_s⟩
theorem zmin_up {w t : Int} (hw : 0 ≤ w ∧ w ≤ 1000000) (ht : 48 ≤ t ∧ t ≤ 57) : zmin 99999 (w32 (w32 (w32 (10 * zmin 99999 w) + t) - 48)) = zmin 99999 (zmin 1000000 (w * 10 + t - 48)) := by
  have h : 0 ≤ zmin 99999 w ∧ zmin 99999 w ≤ 99999 := by
    unfold zmin
    split <;> omega
  simp (disch := omega) only [w32_eq]
  unfold zmin
  repeat' split
  all_goals omega
theorem lm_advance_c144_ok {st e : Nat} (ht : zTd T s A B) (h7 : B 106 7 = (s : Int)) (h8 : B 106 8 = (st : Int)) (h11 : B 106 11 = 0) (hse : st ≤ e) (hes : e ≤ s) (hk : ∀ i, st ≤ i → i < e → zknd (T i) = 2) (hk2 : e < s → zknd (T e) ≠ 2) : zS (lm_advance_c144 zN B) (fun B' => (∀ c, c ≠ 106 → B' c = B c) ∧ (∀ f, f ≠ 8 → f ≠ 10 → f ≠ 11 → B' 106 f = B 106 f) ∧ B' 106 8 = (e : Int) ∧ B' 106 10 = 2 ∧ B' 106 11 = zmin 99999 (zvv T st (e - st))) := by
  have hs := ht.1
  refine loopI (fun m (_ : Nat) N => lm_advance_c144 m N) (fun i N => (∀ c, c ≠ 106 → N c = B c) ∧ (∀ f, f ≠ 8 → f ≠ 11 → N 106 f = B 106 f) ∧ N 106 8 = (i : Int) ∧ N 106 11 = zmin 99999 (zvv T st (i - st))) st e hse ⟨fun _ _ => rfl, fun _ _ _ => rfl, h8, ?_⟩ ?_ ?_ zN (zN_gt (by omega))
  · rw [h11, show st - st = 0 by omega]; rfl
  · intro m i N i1 i2 ⟨b1, b2, b3, b4⟩ kk
    have hsee : lm_see (i : Int) N = some (T i) := by
      rw [lm_see_ok (zTd_cg ht rfl (b1 110 (by omega))) ((b2 7 (by omega) (by omega)).trans h7), if_pos (by omega)]
    show zS (lm_advance_c144 (m + 1) N) _
    rw [lm_advance_c144, b3]
    refine zS_b hsee ?_
    refine zS_b lm_in_eq ?_
    have qt := zknd_2.mp (hk i i1 i2)
    rw [zbo_t qt, if_neg (by decide)]
    refine zS_b hsee ?_
    refine zS_b rfl ?_
    have qb : 0 ≤ zvv T st (i - st) ∧ zvv T st (i - st) ≤ 1000000 := zvv_b (fun j hj => zknd_2.mp (hk _ (by omega) (by omega)))
    rw [b4, zmin_up qb qt]
    refine zS_b rfl ?_
    rw [zup_i (show 8 ≠ 11 by omega), b3, w1 (by omega)]
    refine kk _ ⟨fun c hc => (zup_c hc).trans ((zup_c hc).trans (b1 c hc)), fun f f1 f2 => (zup_i f1).trans ((zup_i f2).trans (b2 f f1 f2)), zup_s, (zup_i (by omega)).trans (zup_s.trans ?_)⟩
    rw [show i + 1 - st = (i - st) + 1 by omega]
    show _ = zmin 99999 (zmin 1000000 (zvv T st (i - st) * 10 + T (st + (i - st)) - 48))
    rw [show st + (i - st) = i by omega]
  · intro m N ⟨b1, b2, b3, b4⟩
    show zS (lm_advance_c144 (m + 1) N) _
    rw [lm_advance_c144, b3]
    refine zS_b (lm_see_ok (zTd_cg ht rfl (b1 110 (by omega))) ((b2 7 (by omega) (by omega)).trans h7)) ?_
    refine zS_b lm_in_eq ?_
    rw [zbo_f (by
      by_cases c : e < s
      · rw [if_pos c]
        exact fun q => hk2 c (zknd_2.mpr q)
      · rw [if_neg c]
        omega), if_pos rfl]
    refine zS_b rfl ?_
    exact zS_r ⟨fun c hc => (zup_c hc).trans (b1 c hc), fun f f1 f2 f3 => (zup_i f2).trans (b2 f f1 f3), (zup_i (by omega)).trans b3, zup_s, (zup_i (by omega)).trans b4⟩
/-- what the reference holds when it has gone on -/
def zAd (st : Nat) (k : Int) (e : Nat) (v : Int) (B B' : Nat → Nat → Int) : Prop := (∀ c, c ≠ 106 → B' c = B c) ∧ (∀ f, f < 8 ∨ 11 < f → B' 106 f = B 106 f) ∧ B' 106 8 = (e : Int) ∧ B' 106 9 = (st : Int) ∧ B' 106 10 = k ∧ (k = 2 → B' 106 11 = zmin 99999 v)
theorem lm_advance_ok {b st e : Nat} {k v : Int} (ht : zTd T s A B) (h7 : B 106 7 = (s : Int)) (h8 : B 106 8 = (b : Int)) (hf : zTf T s b st) (he : zTe T s st k e v) : zS (lm_advance B) (zAd st k e v B) := by
  have hs := ht.1
  have hB := ht.2.2
  obtain ⟨f1, f2, f3, f4⟩ := hf
  obtain ⟨e1, e2, e3⟩ := he
  unfold lm_advance
  refine loopI (fun m (_ : Nat) N => lm_advance_c0 m N) (fun i N => (∀ c, c ≠ 106 → N c = B c) ∧ (∀ f, f ≠ 8 → N 106 f = B 106 f) ∧ N 106 8 = (i : Int)) b st f1 ⟨fun _ _ => rfl, fun _ _ => rfl, h8⟩ ?_ ?_ zN (zN_gt (by omega))
  · intro m i N i1 i2 ⟨b1, b2, b3⟩ kk
    have hsee : lm_see (i : Int) N = some (T i) := by
      rw [lm_see_ok (zTd_cg ht rfl (b1 110 (by omega))) ((b2 7 (by omega)).trans h7), if_pos (by omega)]
    show zS (lm_advance_c0 (m + 1) N) _
    rw [lm_advance_c0, b3, w1 (by omega)]
    have hgo : zS (lm_advance_c0 m (zup N 106 8 ((i + 1 : Nat) : Int))) (zAd st k e v B) := kk _ ⟨fun c hc => (zup_c hc).trans (b1 c hc), fun f hf => (zup_i hf).trans (b2 f hf), zup_s⟩
    refine zS_b hsee ?_
    refine zS_if (fun c => zS_b rfl hgo) (fun c1 => ?_)
    refine zS_b hsee ?_
    refine zS_it (by have := f3 i i1 i2; omega) ?_
    exact zS_b rfl hgo
  · intro m N ⟨b1, b2, b3⟩
    have hsee : lm_see (st : Int) N = some (if st < s then T st else -1) := lm_see_ok (zTd_cg ht rfl (b1 110 (by omega))) ((b2 7 (by omega)).trans h7)
    show zS (lm_advance_c0 (m + 1) N) _
    rw [lm_advance_c0, b3]
    refine zS_b hsee ?_
    have hX : (if st < s then T st else -1) ≠ 32 ∧ (if st < s then T st else -1) ≠ 10 := by
      by_cases c : st < s
      · rw [if_pos c]; exact f4 c
      · rw [if_neg c]; omega
    refine zS_ie hX.1 ?_
    refine zS_b hsee ?_
    refine zS_ie hX.2 ?_
    refine zS_b rfl ?_
    have g0 : ∀ c, c ≠ 106 → zup N 106 9 (st : Int) c = B c := fun c hc => (zup_c hc).trans (b1 c hc)
    have g1 : ∀ f, f ≠ 8 → f ≠ 9 → zup N 106 9 (st : Int) 106 f = B 106 f := fun f q1 q2 => (zup_i q2).trans (b2 f q1)
    have g8 : zup N 106 9 (st : Int) 106 8 = (st : Int) := (zup_i (by omega)).trans b3
    have g9 : zup N 106 9 (st : Int) 106 9 = (st : Int) := zup_s
    generalize zup N 106 9 (st : Int) = N2 at g0 g1 g8 g9 ⊢
    have ht2 : zTd T s A N2 := zTd_cg ht rfl (g0 110 (by omega))
    have h72 : N2 106 7 = (s : Int) := (g1 7 (by omega) (by omega)).trans h7
    rw [g8]
    refine zS_b (lm_see_ok ht2 h72) ?_
    rcases e3 with ⟨q1, q2, q3, q4⟩ | ⟨q1, q2, q3, q4, q5, q6⟩
    · rw [if_neg (show ¬ st < s by omega), if_pos rfl]
      refine zS_b rfl ?_
      refine zS_r ⟨fun c hc => (zup_c hc).trans (g0 c hc), fun f hf => (zup_i (by omega)).trans (g1 f (by omega) (by omega)), (zup_i (by omega)).trans (g8.trans (by rw [q3])), (zup_i (by omega)).trans g9, zup_s.trans q2.symm, fun q => by omega⟩
    · have hT := hB st q1
      rw [if_pos q1, if_neg (by omega)]
      refine zS_b lm_in_eq ?_
      by_cases c1 : zknd (T st) = 1
      · rw [zbo_t (zknd_1.mp c1), if_neg (by decide)]
        have hk1 : k = 1 := q3.trans c1
        subst hk1
        obtain ⟨r1, r2⟩ := q4 (Or.inl rfl)
        refine zS_mono (lm_advance_c83_ok ht2 h72 g8 e1 e2 r1 r2) ?_
        intro B' ⟨a1, a2, a3, a4⟩
        exact ⟨fun c hc => (a1 c hc).trans (g0 c hc), fun f hf => (a2 f (by omega) (by omega)).trans (g1 f (by omega) (by omega)), a3, (a2 9 (by omega) (by omega)).trans g9, a4, fun q => by omega⟩
      rw [zbo_f (fun q => c1 (zknd_1.mpr q)), if_pos rfl]
      refine zS_b lm_in_eq ?_
      by_cases c2 : zknd (T st) = 2
      · rw [zbo_t (zknd_2.mp c2), if_neg (by decide)]
        have hk1 : k = 2 := q3.trans c2
        subst hk1
        obtain ⟨r1, r2⟩ := q4 (Or.inr rfl)
        refine zS_b rfl ?_
        refine zS_mono (lm_advance_c144_ok (B := zup N2 106 11 0) (zTd_cg ht2 rfl (zup_c (by omega))) ((zup_i (by omega)).trans h72) ((zup_i (by omega)).trans g8) zup_s e1 e2 r1 r2) ?_
        intro B' ⟨a1, a2, a3, a4, a5⟩
        refine ⟨fun c hc => (a1 c hc).trans ((zup_c hc).trans (g0 c hc)), fun f hf => (a2 f (by omega) (by omega) (by omega)).trans ((zup_i (by omega)).trans (g1 f (by omega) (by omega))), a3, (a2 9 (by omega) (by omega) (by omega)).trans ((zup_i (by omega)).trans g9), a4, fun _ => ?_⟩
        rw [a5, q6, if_pos rfl]
      rw [zbo_f (fun q => c2 (zknd_2.mpr q)), if_pos rfl]
      have ek := zknd_3 c1 c2
      have ee : e = st + 1 := q5 (by omega) (by omega)
      have hend : ∀ y : Int, k = y → zS ((some (zup N2 106 10 y)).bind (fun M226 => ((some (zup M226 106 8 (w32 ((M226 106 8) + 1)))).bind (fun M236 => (some M236))))) (zAd st k e v B) := fun y hy => by
        refine zS_b rfl ?_
        rw [zup_i (show 8 ≠ 10 by omega), g8, w1 (by omega)]
        refine zS_b rfl ?_
        refine zS_r ⟨fun c hc => (zup_c hc).trans ((zup_c hc).trans (g0 c hc)), fun f hf => (zup_i (by omega)).trans ((zup_i (by omega)).trans (g1 f (by omega) (by omega))), zup_s.trans (by rw [ee]), (zup_i (by omega)).trans ((zup_i (by omega)).trans g9), (zup_i (by omega)).trans (zup_s.trans hy.symm), fun q => absurd (q3.symm.trans q) c2⟩
      by_cases c3 : T st = 59
      · rw [if_pos c3]
        exact hend 3 (by rw [q3, ek, if_pos c3])
      · rw [if_neg c3]
        exact hend 4 (by rw [q3, ek, if_neg c3])
end ZAV
