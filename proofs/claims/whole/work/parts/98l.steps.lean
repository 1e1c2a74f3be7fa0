/-! Both read a word, a number, a stop. -/
def zLb (s b : Nat) (a c : Nat → Int) : Prop := a 1 = (s : Int) ∧ c 7 = (s : Int) ∧ c 12 = a 2 ∧ c 13 = a 3 ∧ c 10 = a 4 ∧ c 9 = a 5 ∧ c 8 = a 6 ∧ (a 4 = 2 → c 11 = zmin 99999 (a 7)) ∧ (b : Int) ≤ a 5 ∧ a 5 ≤ a 6 ∧ a 6 ≤ (s : Int) ∧ (a 4 ≠ 0 → a 5 < a 6) ∧ 0 ≤ a 7 ∧ a 7 ≤ 1000000
def zLx (T : Nat → Int) (s b : Nat) (A B : Nat → Nat → Int) : Prop := zTd T s A B ∧ zLb s b (A 1) (B 106)
def zFq (A B A' B' : Nat → Nat → Int) : Prop := (∀ c, c ≠ 1 → A' c = A c) ∧ (∀ c, c ≠ 106 → B' c = B c) ∧ B' 106 5 = B 106 5
def zPo (T : Nat → Int) (s b : Nat) (A B A' B' : Nat → Nat → Int) : Prop := zLx T s b A' B' ∧ zFq A B A' B' ∧ (A' 1 2 = 0 → A 1 2 = 0)
section ZST
variable {T : Nat → Int} {s b : Nat} {A B : Nat → Nat → Int}
theorem zFq_r : zFq A B A B := ⟨fun _ _ => rfl, fun _ _ => rfl, rfl⟩
theorem zFq_t {A1 B1 A2 B2 : Nat → Nat → Int} (h : zFq A B A1 B1) (k : zFq A1 B1 A2 B2) : zFq A B A2 B2 := ⟨fun c hc => (k.1 c hc).trans (h.1 c hc), fun c hc => (k.2.1 c hc).trans (h.2.1 c hc), k.2.2.trans h.2.2⟩
theorem zPo_r (h : zLx T s b A B) : zPo T s b A B A B := ⟨h, zFq_r, fun q => q⟩
theorem zPo_t {A1 B1 A2 B2 : Nat → Nat → Int} (h : zPo T s b A B A1 B1) (k : zPo T s b A1 B1 A2 B2) : zPo T s b A B A2 B2 := ⟨k.1, zFq_t h.2.1 k.2.1, fun q => h.2.2 (k.2.2 q)⟩
theorem zLx_cg {A' B' : Nat → Nat → Int} (h : zLx T s b A B) (a1 : A' 1 = A 1) (a2 : A' 2 = A 2) (b1 : B' 106 = B 106) (b2 : B' 110 = B 110) : zLx T s b A' B' := by
  refine ⟨zTd_cg h.1 a2 b2, ?_⟩
  rw [a1, b1]
  exact h.2
theorem zLx_le {b' : Nat} (hb : b ≤ b') (h : zLx T s b' A B) : zLx T s b A B := by
  obtain ⟨h0, h1, h2, h3, h4, h5, h6, h7, h8, h9, h10⟩ := h
  exact ⟨h0, h1, h2, h3, h4, h5, h6, h7, h8, by omega, h10⟩
theorem lm_good_eq {M : Nat → Nat → Int} : lm_good M = some (zbo (M 106 12 = 0)) := by
  unfold lm_good zbo
  split <;> rfl
theorem zTe_b {st e : Nat} {k v : Int} (h : zTe T s st k e v) : (k ≠ 0 → st < e) ∧ 0 ≤ v ∧ v ≤ 1000000 := by
  obtain ⟨e1, e2, e3⟩ := h
  rcases e3 with ⟨q1, q2, q3, q4⟩ | ⟨q1, q2, q3, q4, q5, q6⟩
  · refine ⟨fun q => absurd q2 q, ?_⟩
    rw [q4]
    omega
  · refine ⟨fun _ => q2, ?_⟩
    rw [q6]
    by_cases c : k = 2
    · rw [if_pos c]
      have r := (q4 (Or.inr c)).1
      exact zvv_b (fun j hj => zknd_2.mp ((r _ (by omega) (by omega)).trans c))
    · rw [if_neg c]
      omega
theorem zY_token (ht : zTd T s A B) (h1 : A 1 1 = (s : Int)) (h7 : B 106 7 = (s : Int)) (e8 : B 106 8 = A 1 6) (hb : (b : Int) ≤ A 1 6 ∧ A 1 6 ≤ (s : Int)) (h12 : B 106 12 = A 1 2) (h13 : B 106 13 = A 1 3) : zY (lR_takeToken A) (lm_advance B) (fun A' B' => zLx T s b A' B' ∧ zFq A B A' B' ∧ A' 1 2 = A 1 2 ∧ A' 1 3 = A 1 3) := by
  obtain ⟨b0, hb0⟩ : ∃ b0 : Nat, A 1 6 = (b0 : Int) := ⟨(A 1 6).toNat, by omega⟩
  obtain ⟨A', ea, st, k, e, v, hf, he, a1, a2, a3, a4, a5, a6⟩ := lR_takeToken_ok (T := T) h1 ht.2.1 hb0 ht.1 (by omega)
  obtain ⟨B', eb, c1, c2, c3, c4, c5, c6⟩ := lm_advance_ok ht h7 (e8.trans hb0) hf he
  have hq := zTe_b he
  refine ⟨A', B', ea, eb, ⟨zTd_cg ht (a1 2 (by omega)) (c1 110 (by omega)), ?_⟩, ⟨a1, c1, c2 5 (by omega)⟩, a2 2 (by omega), a2 3 (by omega)⟩
  obtain ⟨f1, f2, _, _⟩ := hf
  obtain ⟨e1, e2, _⟩ := he
  unfold zLb
  rw [a2 1 (by omega), a2 2 (by omega), a2 3 (by omega), c2 7 (by omega), c2 12 (by omega), c2 13 (by omega), a3, a4, a5, a6, c3, c4, c5]
  exact ⟨h1, h7, h12, h13, rfl, rfl, rfl, c6, by omega, by omega, by omega, fun q => by have := hq.1 q; omega, hq.2⟩
theorem lR_fail_no {x : Int} (h : A 1 2 ≠ 0) : lR_fail x A = some A := by
  unfold lR_fail
  rw [if_neg h]
theorem lm_errs_no {x : Int} (h : B 106 12 ≠ 0) : lm_errs x B = some B := by
  unfold lm_errs
  rw [lm_good_eq, zbo_f h]
  rfl
theorem zY_fail {x : Int} (h : zLx T s b A B) (hx : x ≠ 0) : zY (lR_fail x A) (lm_errs x B) (fun A' B' => zPo T s b A B A' B' ∧ A' 1 2 ≠ 0) := by
  have h12 : B 106 12 = A 1 2 := h.2.2.2.1
  by_cases c : A 1 2 = 0
  · unfold lR_fail lm_errs
    refine zY_lt c ?_
    refine zY_k lm_good_eq ?_
    rw [zbo_t (h12.trans c), if_neg (by decide)]
    refine zY_l rfl (zY_l rfl (zY_k rfl (zY_k rfl ?_)))
    obtain ⟨ht, h1, h2, h3, h4, h5, h6, h7, h8, h9⟩ := h
    refine zY_r ⟨⟨⟨zTd_cg ht ?_ ?_, ?_⟩, ⟨fun c hc => (zup_c hc).trans (zup_c hc), fun c hc => (zup_c hc).trans (zup_c hc), (zup_i (by omega)).trans (zup_i (by omega))⟩, fun _ => c⟩, ?_⟩
    · rw [zup_c (by omega), zup_c (by omega)]
    · rw [zup_c (by omega), zup_c (by omega)]
    · unfold zLb
      simp (disch := omega) only [zup_s, zup_i]
      exact ⟨h1, h2, trivial, h6, h5, h6, h7, h8, h9⟩
    · rw [zup_i (by omega), zup_s]
      exact hx
  · rw [lR_fail_no c, lm_errs_no (by rw [h12]; exact c)]
    exact zY_r ⟨zPo_r h, c⟩
/-- the token is this word -/
def zwi (w : Nat) (A : Nat → Nat → Int) : Bool := decide (A 1 2 = 0 ∧ A 1 4 = 1 ∧ A 1 6 - A 1 5 = (zwl w : Int)) && zwe (A 2) (A 1 5).toNat w
theorem zwi_e {w w' : Nat} (h : zwd w' = zwd w) : zwi w' A = zwi w A := by
  unfold zwi zwe zwl zwc
  rw [h]
theorem zwi_1 {w : Nat} : zwi w A = true ↔ (A 1 2 = 0 ∧ A 1 4 = 1 ∧ A 1 6 - A 1 5 = (zwl w : Int)) ∧ zwe (A 2) (A 1 5).toNat w = true := by
  unfold zwi
  rw [Bool.and_eq_true, decide_eq_true_eq]
theorem lR_isWord_ok {w : Nat} (h : zLx T s b A B) (hw : 5003 ≤ w ∧ w < 5033) : lR_isWord w A = some (zbo (zwi w A = true)) := by
  have q := zwl_b hw
  obtain ⟨⟨hs, hT, _⟩, h1, h2, h3, h4, h5, h6, h7, h8, h9, h10, h11, h12, h13⟩ := h
  unfold lR_isWord
  refine zS_eq ?_
  rw [if_pos hw]
  refine zS_if (fun c1 => ?_) (fun c1 => zS_r (by rw [zbo_f]; rw [zwi_1]; exact fun e => c1 e.1.1))
  refine zS_if (fun c2 => ?_) (fun c2 => zS_r (by rw [zbo_f]; rw [zwi_1]; exact fun e => c2 e.1.2.1))
  refine zS_b (lS_length_ok hw) ?_
  rw [w32_eq (by omega) (by omega)]
  refine zS_if (fun c3 => ?_) (fun c3 => zS_r (by rw [zbo_f]; rw [zwi_1]; exact fun e => c3 e.1.2.2))
  refine zS_e (lR_isWord_c35_ok (T := A 2) (st := (A 1 5).toNat) hw rfl (by omega) (by omega)) ?_
  refine zbo_congr ?_
  rw [zwi_1]
  exact ⟨fun e => ⟨⟨c1, c2, c3⟩, e⟩, fun e => e.2⟩
theorem lm_is_ok {w w' : Nat} (h : zLx T s b A B) (hw : 5003 ≤ w' ∧ w' < 5033) (e : zwd w' = zwd w) : lm_is w' B = some (zbo (zwi w A = true)) := by
  have q := zwl_b hw
  rw [← zwi_e e]
  have ht := h.1
  obtain ⟨_, h1, h2, h3, h4, h5, h6, h7, h8, h9, h10, h11, h12, h13⟩ := h
  have hs := ht.1
  unfold lm_is
  refine zS_eq ?_
  rw [if_pos hw]
  refine zS_b lm_good_eq ?_
  have hno : ¬ (zwi w' A = true) → zS (lm_is_c39 w' B zN 0 0) (fun y => y = zbo (zwi w' A = true)) := fun hn => zS_e (lm_is_c39_0 (i := 0) (m := 9999) hw) (by rw [zbo_f hn])
  rw [h3]
  by_cases c1 : A 1 2 = 0
  · rw [zbo_t c1, if_neg (by decide)]
    rw [h5]
    refine zS_if (fun c2 => ?_) (fun c2 => hno (by rw [zwi_1]; exact fun e => c2 e.1.2.1))
    refine zS_b (lS_length_ok hw) ?_
    rw [h6, h7, w32_eq (by omega) (by omega)]
    refine zS_if (fun c3 => ?_) (fun c3 => hno (by rw [zwi_1]; exact fun e => c3 e.1.2.2))
    have ht' : zTd (A 2) s A B := ⟨ht.1, rfl, by rw [ht.2.1]; exact ht.2.2⟩
    refine zS_e (lm_is_c39_ok (T := A 2) (st := (A 1 5).toNat) hw ht' (by rw [h6]; omega) (by omega)) ?_
    refine zbo_congr ?_
    rw [zwi_1]
    exact ⟨fun e => ⟨⟨c1, c2, c3⟩, e⟩, fun e => e.2⟩
  · rw [zbo_f c1, if_pos rfl]
    exact hno (by rw [zwi_1]; exact fun e => c1 e.1.1)
theorem zY_tok2 (h : zLx T s b A B) : zY (lR_takeToken A) (lm_advance B) (fun A' B' => zPo T s b A B A' B' ∧ A' 1 2 = A 1 2) := by
  have h0 := h
  obtain ⟨ht, h1, h2, h3, h4, h5, h6, h7, h8, h9, h10, h11, h12, h13⟩ := h
  refine zY_mono (zY_token (b := b) ht h1 h2 h7 ⟨by omega, h11⟩ h3 h4) ?_
  intro A' B' ⟨q1, q2, q3, _⟩
  exact ⟨⟨q1, q2, fun q => q3.symm.trans q⟩, q3⟩
theorem zY_go {w : Nat} (h : zLx T s b A B) (hw : 5003 ≤ w ∧ w < 5033) (hi : zwi w A = true) : zY (lR_takeWord w A) (lm_advance B) (fun A' B' => zPo T s b A B A' B' ∧ A' 1 2 = A 1 2) := by
  unfold lR_takeWord
  rw [if_pos hw]
  refine zY_l (lR_isWord_ok h hw) ?_
  rw [zbo_t hi, if_neg (by decide)]
  obtain ⟨A', B', ea, eb, q⟩ := zY_tok2 h
  refine zY_l ea ?_
  rw [eb]
  exact zY_r q
theorem zY_take {w w' : Nat} (h : zLx T s b A B) (hw : 5003 ≤ w ∧ w < 5033) (hw' : 5003 ≤ w' ∧ w' < 5033) (e : zwd w' = zwd w) (hi : zwi w A = true) : zY (lR_takeWord w A) (lm_takes w' B) (fun A' q => q.1 = 1 ∧ zPo T s b A B A' q.2 ∧ A' 1 2 = A 1 2) := by
  obtain ⟨A', B', ea, eb, q⟩ := zY_go h hw hi
  rw [ea]
  unfold lm_takes
  rw [if_pos hw']
  refine zY_k (lm_is_ok h hw' e) ?_
  rw [zbo_t hi, if_neg (by decide)]
  refine zY_k eb ?_
  rw [if_pos (Or.inr rfl)]
  exact zY_r ⟨rfl, q⟩
theorem lm_takes_no {w w' : Nat} (h : zLx T s b A B) (hw' : 5003 ≤ w' ∧ w' < 5033) (e : zwd w' = zwd w) (hi : ¬ (zwi w A = true)) : lm_takes w' B = some (0, B) := by
  unfold lm_takes
  rw [if_pos hw', lm_is_ok h hw' e, zbo_f hi]
  rfl
theorem zY_word {w w' : Nat} (h : zLx T s b A B) (hw : 5003 ≤ w ∧ w < 5033) (hw' : 5003 ≤ w' ∧ w' < 5033) (e : zwd w' = zwd w) : zY (lR_takeWord w A) (lm_needs w' B) (zPo T s b A B) := by
  unfold lm_needs
  rw [if_pos hw']
  by_cases hi : zwi w A = true
  · obtain ⟨A', q, ea, eb, q1, q2, _⟩ := zY_take h hw hw' e hi
    rw [ea]
    refine zY_k eb ?_
    rw [q1, if_neg (by decide)]
    exact zY_r q2
  · unfold lR_takeWord
    rw [if_pos hw]
    refine zY_l (lR_isWord_ok h hw) ?_
    rw [zbo_f hi, if_pos rfl]
    refine zY_k (lm_takes_no h hw' e hi) ?_
    rw [if_pos rfl]
    refine zY_m (zY_fail h (by decide)) ?_
    intro A' B' q
    exact zY_r q.1
/-- a number -/
def zPn (T : Nat → Int) (s b : Nat) (lo hi : Int) (A B : Nat → Nat → Int) (r q : Int × (Nat → Nat → Int)) : Prop := q.1 = r.1 ∧ zPo T s b A B r.2 q.2 ∧ (r.2 1 2 = 0 → lo ≤ r.1 ∧ r.1 ≤ hi ∧ r.1 = A 1 7 ∧ A 1 4 = 2) ∧ (r.2 1 2 ≠ 0 → r.1 = 0)
theorem lm_number_c47_no {lo hi : Int} (h : B 106 12 ≠ 0) : lm_number_c47 lo hi B = some (0, B) := by
  unfold lm_number_c47
  rw [lm_good_eq, zbo_f h]
  rfl
theorem lm_number_c20_no {lo hi : Int} (h : B 106 12 ≠ 0) : lm_number_c20 lo hi B = some (0, B) := by
  unfold lm_number_c20
  rw [lm_good_eq, zbo_f h]
  refine zS_eq (zS_b rfl (zS_it rfl ?_))
  exact zS_e (lm_number_c47_no h) rfl
theorem lm_number_no {lo hi : Int} (h : B 106 12 ≠ 0) : lm_number lo hi B = some (0, B) := by
  unfold lm_number
  rw [lm_good_eq, zbo_f h]
  refine zS_eq (zS_b rfl (zS_it rfl ?_))
  exact zS_e (lm_number_c20_no h) rfl
theorem zPo_12 {A' B' : Nat → Nat → Int} (h : zPo T s b A B A' B') (q : A' 1 2 ≠ 0) : B' 106 12 ≠ 0 := by
  have e : B' 106 12 = A' 1 2 := h.1.2.2.2.1
  rw [e]
  exact q
theorem zY_numfail {x lo hi : Int} {l : (Nat → Nat → Int) → Option (Int × (Nat → Nat → Int))} (h : zLx T s b A B) (hx : x ≠ 0) (hl : ∀ B', B' 106 12 ≠ 0 → l B' = some (0, B')) : zY ((lR_fail x A).bind (fun M => some ((0 : Int), M))) ((lm_errs x B).bind l) (zPn T s b lo hi A B) := by
  refine zY_m (zY_fail h hx) ?_
  intro A' B' ⟨q1, q2⟩
  rw [hl B' (zPo_12 q1 q2)]
  exact zY_r ⟨rfl, q1, fun q => absurd q q2, fun _ => rfl⟩
theorem zY_num {lo hi bar : Int} (h : zLx T s b A B) (hlo : lo ≤ 99999) (hhi : hi < 99999) (hb : A 1 2 = 0 → A 1 4 = 2 → A 1 7 < 8 → lo ≤ A 1 7 → A 1 7 ≤ hi → zand (zshr bar (A 1 7)) 1 = 0) : zY (lR_takeNumber lo hi bar A) (lm_number lo hi B) (zPn T s b lo hi A B) := by
  have h0 := h
  obtain ⟨ht, h1, h2, h3, h4, h5, h6, h7, h8, h9, h10, h11, h12, h13, h14⟩ := h
  by_cases c1 : A 1 2 = 0
  · unfold lR_takeNumber lm_number
    rw [if_pos c1]
    refine zY_k lm_good_eq ?_
    rw [zbo_t (h3.trans c1)]
    refine zY_ke (by decide) ?_
    rw [h5]
    by_cases c2 : A 1 4 = 2
    · rw [if_pos c2, if_pos c2]
      have hv := h8 c2
      unfold lm_number_c20
      have hg : zY (lR_takeNumber_c51 lo hi bar (A 1 7) 0 A) ((lm_good B).bind (fun v21 => (if v21 = 0 then lm_number_c47 lo hi B else ((lm_in (B 106 11) lo hi B).bind (fun v36 => if v36 = 0 then (lm_errs 2 B).bind (fun M44 => lm_number_c47 lo hi M44) else lm_number_c47 lo hi B))))) (zPn T s b lo hi A B) ∧ (¬ (lo ≤ A 1 7 ∧ A 1 7 ≤ hi) → zY (lR_takeNumber_c51 lo hi bar (A 1 7) 1 A) ((lm_good B).bind (fun v21 => (if v21 = 0 then lm_number_c47 lo hi B else ((lm_in (B 106 11) lo hi B).bind (fun v36 => if v36 = 0 then (lm_errs 2 B).bind (fun M44 => lm_number_c47 lo hi M44) else lm_number_c47 lo hi B))))) (zPn T s b lo hi A B)) := by
        have hr : ∀ o : Int, (lo ≤ A 1 7 ∧ A 1 7 ≤ hi → o = 0) → zY (lR_takeNumber_c51 lo hi bar (A 1 7) o A) ((lm_good B).bind (fun v21 => (if v21 = 0 then lm_number_c47 lo hi B else ((lm_in (B 106 11) lo hi B).bind (fun v36 => if v36 = 0 then (lm_errs 2 B).bind (fun M44 => lm_number_c47 lo hi M44) else lm_number_c47 lo hi B))))) (zPn T s b lo hi A B) := fun o ho => by
          refine zY_k lm_good_eq ?_
          rw [zbo_t (h3.trans c1)]
          refine zY_ke (by decide) ?_
          rw [hv]
          refine zY_k lm_in_eq ?_
          unfold lR_takeNumber_c51
          by_cases c3 : lo ≤ A 1 7 ∧ A 1 7 ≤ hi
          · rw [if_neg (by omega), if_neg (by omega), if_pos (ho c3)]
            have ez : zmin 99999 (A 1 7) = A 1 7 := by
              unfold zmin
              rw [if_pos (by omega)]
            rw [ez, zbo_t c3]
            refine zY_ke (by decide) ?_
            unfold lm_number_c47
            refine zY_k lm_good_eq ?_
            rw [zbo_t (h3.trans c1)]
            refine zY_ke (by decide) ?_
            refine zY_m (zY_tok2 h0) ?_
            intro A' B' ⟨q1, q2⟩
            refine zY_r ⟨hv.trans ez, q1, fun _ => ⟨c3.1, c3.2, rfl, c2⟩, fun q => absurd (q2.trans c1) q⟩
          · have ez : ¬ (lo ≤ zmin 99999 (A 1 7) ∧ zmin 99999 (A 1 7) ≤ hi) := by
              unfold zmin
              split <;> omega
            rw [zbo_f ez]
            refine zY_kt rfl ?_
            have hf := zY_numfail (x := 2) (lo := lo) (hi := hi) (l := fun M44 => lm_number_c47 lo hi M44) h0 (by decide) (fun B' q => lm_number_c47_no q)
            by_cases c4 : A 1 7 < lo
            · rw [if_pos c4]; exact hf
            · rw [if_neg c4]
              refine zY_lt (by omega) ?_
              exact hf
        exact ⟨hr 0 (fun _ => rfl), fun hn => hr 1 (fun q => absurd q hn)⟩
      by_cases c3 : A 1 7 < 8
      · rw [if_pos c3]
        by_cases c4 : zand (zshr bar (A 1 7)) 1 = 0
        · rw [if_pos c4]
          exact hg.1
        · rw [if_neg c4]
          exact hg.2 (fun q => c4 (hb c1 c2 c3 q.1 q.2))
      · rw [if_neg c3]
        exact hg.1
    · rw [if_neg c2, if_neg c2]
      exact zY_numfail (l := fun M17 => lm_number_c20 lo hi M17) h0 (by decide) (fun B' q => lm_number_c20_no q)
  · unfold lR_takeNumber
    rw [if_neg c1, lm_number_no (by rw [h3]; exact c1)]
    exact zY_r ⟨rfl, zPo_r h0, fun q => absurd q c1, fun _ => rfl⟩
theorem zY_bar {lo hi bar : Int} (h : zLx T s b A B) (c1 : A 1 2 = 0) (c2 : A 1 4 = 2) (c3 : A 1 7 < 8) (c4 : zand (zshr bar (A 1 7)) 1 ≠ 0) : zY (lR_takeNumber lo hi bar A) (lm_errs 2 B) (fun r B' => r.1 = 0 ∧ zPo T s b A B r.2 B' ∧ r.2 1 2 ≠ 0) := by
  unfold lR_takeNumber lR_takeNumber_c51
  rw [if_pos c1, if_pos c2, if_pos c3, if_neg c4]
  obtain ⟨A', B', ea, eb, q1, q2⟩ := zY_fail (x := 2) h (by decide)
  rw [ea, eb]
  have hr : zY ((some A').bind (fun M72 => some ((0 : Int), M72))) (some B') (fun r B' => r.1 = 0 ∧ zPo T s b A B r.2 B' ∧ r.2 1 2 ≠ 0) := zY_r ⟨rfl, q1, q2⟩
  by_cases d1 : A 1 7 < lo
  · rw [if_pos d1]; exact hr
  rw [if_neg d1]
  by_cases d2 : hi < A 1 7
  · rw [if_pos d2]; exact hr
  rw [if_neg d2, if_neg (by decide)]
  exact hr
/-- the end of a line -/
theorem lm_readLine_c41_no (h : B 106 12 ≠ 0) : lm_readLine_c41 B = some (zup B 112 9 (w32 (B 112 9 + 1))) := by
  unfold lm_readLine_c41
  rw [lm_good_eq, zbo_f h]
  refine zS_eq (zS_b rfl (zS_it rfl ?_))
  refine zS_b (rdI_n (i := 9) sh_112 (by omega)) ?_
  refine zS_b (wrI_n (i := 9) sh_112 (by omega)) ?_
  exact zS_r rfl
theorem zY_stop (h : zLx T s b A B) : zY (lR_takeStop A) (lm_readLine_c21 B) (fun A' B' => ∃ B1, zPo T s b A B A' B1 ∧ (A' 1 2 = 0 → (b : Int) + 1 ≤ A' 1 5) ∧ B' = zup B1 112 9 (w32 (B1 112 9 + 1))) := by
  have h0 := h
  obtain ⟨ht, h1, h2, h3, h4, h5, h6, h7, h8, h9, h10, h11, h12, h13, h14⟩ := h
  unfold lR_takeStop lm_readLine_c21
  refine zY_k lm_good_eq ?_
  by_cases c1 : A 1 2 = 0
  · rw [if_pos c1, zbo_t (h3.trans c1)]
    refine zY_ke (by decide) ?_
    rw [h5]
    by_cases c2 : A 1 4 = 3
    · rw [if_pos c2, if_pos c2]
      unfold lm_readLine_c41
      refine zY_k lm_good_eq ?_
      rw [zbo_t (h3.trans c1)]
      refine zY_ke (by decide) ?_
      refine zY_m (zY_token (b := b + 1) ht h1 h2 h7 ⟨by omega, h11⟩ h3 h4) ?_
      intro A' B' ⟨q1, q2, q3, _⟩
      refine zY_k (rdI_n (i := 9) sh_112 (by omega)) ?_
      refine zY_k (wrI_n (i := 9) sh_112 (by omega)) ?_
      exact zY_r ⟨B', ⟨zLx_le (by omega) q1, q2, fun q => q3.symm.trans q⟩, fun _ => by have q : ((b + 1 : Nat) : Int) ≤ A' 1 5 := q1.2.2.2.2.2.2.2.2.2.1; omega, rfl⟩
    · rw [if_neg c2, if_neg c2]
      refine zY_m (zY_fail h0 (by decide)) ?_
      intro A' B' ⟨q1, q2⟩
      rw [lm_readLine_c41_no (zPo_12 q1 q2)]
      exact zY_r ⟨B', q1, fun q => absurd q q2, rfl⟩
  · have c3 : B 106 12 ≠ 0 := by rw [h3]; exact c1
    rw [if_neg c1, zbo_f c3, lR_fail_no c1]
    refine zY_kt rfl ?_
    rw [lm_readLine_c41_no c3]
    exact zY_r ⟨B, zPo_r h0, fun q => absurd q c1, rfl⟩
end ZST
