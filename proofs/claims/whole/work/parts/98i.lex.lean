/-! Two that read alike: rules; the words. -/
def zY {α β : Type} (f : Option α) (g : Option β) (R : α → β → Prop) : Prop := ∃ a b, f = some a ∧ g = some b ∧ R a b
theorem zY_r {α β : Type} {a : α} {b : β} {R : α → β → Prop} (h : R a b) : zY (some a) (some b) R := ⟨a, b, rfl, rfl, h⟩
theorem zY_m {α β γ δ : Type} {f : Option α} {g : Option β} {P : α → β → Prop} {k : α → Option γ} {l : β → Option δ} {R : γ → δ → Prop} (h : zY f g P) (kk : ∀ a b, P a b → zY (k a) (l b) R) : zY (f.bind k) (g.bind l) R := by
  obtain ⟨a, b, ea, eb, hp⟩ := h
  rw [ea, eb]
  exact kk a b hp
theorem zY_l {α β γ : Type} {f : Option α} {a : α} {g : Option β} {k : α → Option γ} {R : γ → β → Prop} (h : f = some a) (kk : zY (k a) g R) : zY (f.bind k) g R := by
  rw [h]
  exact kk
theorem zY_k {α β δ : Type} {f : Option α} {b : β} {g : Option β} {l : β → Option δ} {R : α → δ → Prop} (h : g = some b) (kk : zY f (l b) R) : zY f (g.bind l) R := by
  rw [h]
  exact kk
theorem zY_lm {α β γ : Type} {f : Option α} {g : Option β} {P : α → Prop} {k : α → Option γ} {R : γ → β → Prop} (h : zS f P) (kk : ∀ a, P a → zY (k a) g R) : zY (f.bind k) g R := by
  obtain ⟨a, ea, hp⟩ := h
  rw [ea]
  exact kk a hp
theorem zY_km {α β δ : Type} {f : Option α} {g : Option β} {P : β → Prop} {l : β → Option δ} {R : α → δ → Prop} (h : zS g P) (kk : ∀ b, P b → zY f (l b) R) : zY f (g.bind l) R := by
  obtain ⟨b, eb, hp⟩ := h
  rw [eb]
  exact kk b hp
theorem zY_mono {α β : Type} {f : Option α} {g : Option β} {R R' : α → β → Prop} (h : zY f g R) (k : ∀ a b, R a b → R' a b) : zY f g R' := by
  obtain ⟨a, b, ea, eb, hr⟩ := h
  exact ⟨a, b, ea, eb, k a b hr⟩
theorem zY_lt {α β : Type} {c : Prop} [Decidable c] {a b : Option α} {g : Option β} {R : α → β → Prop} (hc : c) (h : zY a g R) : zY (if c then a else b) g R := by rwa [if_pos hc]
theorem zY_le {α β : Type} {c : Prop} [Decidable c] {a b : Option α} {g : Option β} {R : α → β → Prop} (hc : ¬ c) (h : zY b g R) : zY (if c then a else b) g R := by rwa [if_neg hc]
theorem zY_kt {α β : Type} {c : Prop} [Decidable c] {a b : Option β} {f : Option α} {R : α → β → Prop} (hc : c) (h : zY f a R) : zY f (if c then a else b) R := by rwa [if_pos hc]
theorem zY_ke {α β : Type} {c : Prop} [Decidable c] {a b : Option β} {f : Option α} {R : α → β → Prop} (hc : ¬ c) (h : zY f b R) : zY f (if c then a else b) R := by rwa [if_neg hc]
theorem zY_s {α β : Type} {f : Option α} {g : Option β} {P : α → Prop} {Q : β → Prop} (h : zS f P) (k : zS g Q) : zY f g (fun a b => P a ∧ Q b) := by
  obtain ⟨a, ea, hp⟩ := h
  obtain ⟨b, eb, hq⟩ := k
  exact ⟨a, b, ea, eb, hp, hq⟩
theorem zSH_no {c : Nat} (h : 130 ≤ c) : zSH[c]? = none := List.getElem?_eq_none (by
  have e : zSH.length = 130 := by decide +kernel
  omega)
/-- a word's letters -/
def zwd (w : Nat) : List Int32 := zBY.getD (w - 5003) []
def zwl (w : Nat) : Nat := (zwd w).length
def zwc (w i : Nat) : Int := ((zwd w).getD i 0).toInt
theorem zwd_all : (List.range 30).all (fun i => decide (0 < (zBY.getD i []).length ∧ (zBY.getD i []).length < 100) && (List.range (zBY.getD i []).length).all (fun j => decide (97 ≤ ((zBY.getD i []).getD j 0).toInt ∧ ((zBY.getD i []).getD j 0).toInt ≤ 122))) = true := by decide +kernel
theorem zwl_b {w : Nat} (h : 5003 ≤ w ∧ w < 5033) : 0 < zwl w ∧ zwl w < 100 := by
  have q := List.all_eq_true.mp zwd_all (w - 5003) (List.mem_range.mpr (by omega))
  rw [Bool.and_eq_true] at q
  exact of_decide_eq_true q.1
theorem zwc_b {w i : Nat} (h : 5003 ≤ w ∧ w < 5033) (hi : i < zwl w) : 97 ≤ zwc w i ∧ zwc w i ≤ 122 := by
  have q := List.all_eq_true.mp zwd_all (w - 5003) (List.mem_range.mpr (by omega))
  rw [Bool.and_eq_true] at q
  exact of_decide_eq_true (List.all_eq_true.mp q.2 i (List.mem_range.mpr hi))
theorem lnA_w {w : Nat} (h : 5003 ≤ w ∧ w < 5033) : lnA (w + 37) = some (zwl w : Int) := by
  have q := zwl_b h
  unfold lnA
  rw [zSH_no (by omega)]
  show (if 5040 ≤ w + 37 ∧ w + 37 < 5070 then some (w32 (zBY.getD (w + 37 - 5040) []).length) else none) = _
  rw [if_pos (by omega), show w + 37 - 5040 = w - 5003 by omega]
  show some (w32 (zwl w : Int)) = _
  rw [w32_eq (by omega) (by omega)]
theorem lS_length_ok {w : Nat} {M : Nat → Nat → Int} (h : 5003 ≤ w ∧ w < 5033) : lS_length w M = some (zwl w : Int) := by
  have q := zwl_b h
  have e : lS_coder w M = some 0 := by
    unfold lS_coder
    rw [if_pos h, if_pos (by decide)]
  unfold lS_length
  rw [if_pos h, lnA_w h]
  show (lS_coder w M).bind (fun v6 => some (zshr (zwl w : Int) v6)) = _
  rw [e]
  show some (zshr (zwl w : Int) ((0 : Nat) : Int)) = _
  rw [zshr_nat (by omega) (by omega), Nat.shiftRight_zero]
theorem zchar_all : (List.range 26).all (fun k => decide (zi2c (zand ((97 + k : Nat) : Int) 255) = ((97 + k : Nat) : Int))) = true := by decide +kernel
theorem zchar {x : Int} (h : 97 ≤ x ∧ x ≤ 122) : zi2c (zand x 255) = x := by
  have q := List.all_eq_true.mp zchar_all (x - 97).toNat (List.mem_range.mpr (by omega))
  have e := of_decide_eq_true q
  rw [show ((97 + (x - 97).toNat : Nat) : Int) = x by omega] at e
  exact e
theorem lS_charAt_ok {w i : Nat} {M : Nat → Nat → Int} (h : 5003 ≤ w ∧ w < 5033) (hi : i < zwl w) : lS_charAt w (i : Int) M = some (zwc w i) := by
  have q := zwl_b h
  have qc := zwc_b h hi
  have e1 : lS_isLatin1 w M = some 1 := by
    unfold lS_isLatin1
    rw [if_pos h]
  have e2 : lS_checkIndex (i : Int) (zwl w : Int) M = some () := by
    unfold lS_checkIndex lP_checkIndex
    rw [if_neg (by omega), if_pos (by omega)]
    rfl
  have e3 : rdB (w + 37) (i : Int) M = some (zwc w i) := by
    unfold rdB
    have z1 : ∀ k, zin k (w + 37) (i : Int) = false := fun k => by
      unfold zin
      rw [zSH_no (by omega)]
    rw [z1, z1, if_neg (by decide), show w + 37 - 5040 = w - 5003 by omega]
    rw [if_pos ⟨zSH_no (by omega), by omega, by omega, by omega, by
      show (i : Int) < ((zwl w : Nat) : Int)
      omega⟩]
    rfl
  have e4 : lL_charAt (w + 37) (i : Int) M = some (zwc w i) := by
    unfold lL_charAt
    refine zS_eq (zS_b (lnA_w h) (zS_b e2 (zS_b e3 ?_)))
    rw [zchar qc]
    exact zS_it (by omega) (zS_r rfl)
  unfold lS_charAt
  rw [if_pos h]
  refine zS_eq (zS_b e1 (zS_ie (by decide) (zS_b e4 ?_)))
  exact zS_it (by omega) (zS_r rfl)
/-- the signs from there on are the word -/
def zwe (T : Nat → Int) (st w : Nat) : Bool := zal (zwl w) (fun i => decide (T (st + i) = zwc w i))
theorem zwe_f {T : Nat → Int} {st w i : Nat} (hi : i < zwl w) (h : T (st + i) ≠ zwc w i) : ¬ (zwe T st w = true) := fun e => h (of_decide_eq_true (zal_1.mp e i hi))
theorem zal_s {k : Nat} {f : Nat → Bool} : zal (k + 1) f = (zal k f && f k) := rfl
theorem lR_isWord_c35_ok {T : Nat → Int} {A : Nat → Nat → Int} {w st : Nat} (h : 5003 ≤ w ∧ w < 5033) (hT : A 2 = T) (h5 : A 1 5 = (st : Int)) (hs : st + zwl w ≤ 900) : lR_isWord_c35 w A zN 0 = some (zbo (zwe T st w = true)) := by
  have q := zwl_b h
  refine zS_eq ?_
  refine zS_gen (fun Q hQ => ?_)
  refine loopI (A := Unit) (fun m i _ => lR_isWord_c35 w A m (i : Int)) (fun i _ => zal i (fun i => decide (T (st + i) = zwc w i)) = true) (a0 := ()) 0 (zwl w) (by omega) rfl ?_ ?_ zN (zN_gt (by omega))
  · intro m i _ _ hi hI k
    have k := k ()
    show zS (lR_isWord_c35 w A (m + 1) (i : Int)) Q
    rw [lR_isWord_c35]
    refine zS_b (lS_length_ok h) ?_
    refine zS_it (by omega) ?_
    have e : w32 (A 1 5 + (i : Int)) = ((st + i : Nat) : Int) := by
      rw [h5, w32_eq (by omega) (by omega)]
      omega
    rw [e]
    refine zS_b (rdI_n sh_2 (by omega)) ?_
    refine zS_b (lS_charAt_ok h hi) ?_
    rw [hT]
    by_cases c : T (st + i) = zwc w i
    · rw [if_pos c, w1 (by omega)]
      exact k (by rw [zal_s, hI, decide_eq_true c]; rfl)
    · rw [if_neg c]
      exact zS_r (hQ _ (by rw [zbo_f (zwe_f hi c)]))
  · intro m _ hI
    show zS (lR_isWord_c35 w A (m + 1) (zwl w : Int)) Q
    rw [lR_isWord_c35]
    refine zS_b (lS_length_ok h) ?_
    refine zS_ie (by omega) ?_
    exact zS_r (hQ _ (by rw [zbo_t (show zwe T st w = true from hI)]))
/-- tape of both -/
def zTd (T : Nat → Int) (s : Nat) (A B : Nat → Nat → Int) : Prop := s ≤ 900 ∧ A 2 = T ∧ (∀ i, i < s → 0 ≤ T i ∧ T i < 256 ∧ B 110 i = if T i < 128 then T i else T i - 256)
theorem lm_is_c39_0 {B : Nat → Nat → Int} {w i m : Nat} (h : 5003 ≤ w ∧ w < 5033) : lm_is_c39 w B (m + 1) 0 (i : Int) = some 0 := by
  rw [lm_is_c39]
  refine zS_eq (zS_b (lS_length_ok h) ?_)
  refine zS_if (fun _ => zS_it rfl (zS_it (Or.inl rfl) (zS_r rfl))) (fun _ => zS_it (Or.inl rfl) (zS_r rfl))
theorem zsgn {t z : Int} (h0 : 0 ≤ t) (h1 : t < 256) (hz : 97 ≤ z ∧ z ≤ 122) : (if t < 128 then t else t - 256) = z ↔ t = z := by
  split <;> omega
theorem lm_is_c39_ok {T : Nat → Int} {s : Nat} {A B : Nat → Nat → Int} {w st : Nat} (h : 5003 ≤ w ∧ w < 5033) (ht : zTd T s A B) (h9 : B 106 9 = (st : Int)) (hs : st + zwl w ≤ s) : lm_is_c39 w B zN 1 0 = some (zbo (zwe T st w = true)) := by
  have q := zwl_b h
  obtain ⟨hs9, _, hB⟩ := ht
  refine zS_eq ?_
  refine zS_gen (fun Q hQ => ?_)
  refine loopI (A := Int) (fun m i y => lm_is_c39 w B m y (i : Int)) (fun i y => y = zbo (zal i (fun i => decide (T (st + i) = zwc w i)) = true)) (a0 := 1) 0 (zwl w) (by omega) (by rw [zbo_t]; rfl) ?_ ?_ zN (zN_gt (by omega))
  · intro m i y _ hi hI k
    show zS (lm_is_c39 w B (m + 1) y (i : Int)) Q
    by_cases c0 : zal i (fun i => decide (T (st + i) = zwc w i)) = true
    · rw [zbo_t c0] at hI
      subst hI
      rw [lm_is_c39]
      refine zS_b (lS_length_ok h) ?_
      refine zS_it (by omega) ?_
      refine zS_ie (by decide) ?_
      have e : w32 (B 106 9 + (i : Int)) = ((st + i : Nat) : Int) := by
        rw [h9, w32_eq (by omega) (by omega)]
        omega
      rw [e]
      refine zS_b (rdB_110 (by omega) (by omega)) ?_
      rw [Int.toNat_natCast]
      refine zS_b (lS_charAt_ok h hi) ?_
      obtain ⟨t0, t1, t2⟩ := hB (st + i) (by omega)
      have qc := zwc_b h hi
      have hiff : B 110 (st + i) = zwc w i ↔ T (st + i) = zwc w i := by
        rw [t2]
        exact zsgn t0 t1 qc
      rw [w1 (by omega)]
      by_cases c : T (st + i) = zwc w i
      · rw [if_pos (hiff.mpr c)]
        exact k 1 (by rw [zbo_t]; rw [zal_s, c0, decide_eq_true c]; rfl)
      · rw [if_neg (fun e => c (hiff.mp e))]
        exact k 0 (by rw [zbo_f]; rw [zal_s, decide_eq_false c]; simp)
    · rw [zbo_f c0] at hI
      subst hI
      rw [lm_is_c39_0 h]
      refine zS_r (hQ _ ?_)
      rw [zbo_f]
      intro e
      exact c0 (zal_1.mpr (fun j hj => zal_1.mp e j (by omega)))
  · intro m y hI
    show zS (lm_is_c39 w B (m + 1) y (zwl w : Int)) Q
    rw [lm_is_c39]
    refine zS_b (lS_length_ok h) ?_
    refine zS_ie (by omega) ?_
    have e : y = zbo (zwe T st w = true) := hI
    rw [e, if_pos zbo_01]
    exact zS_r (hQ _ rfl)
