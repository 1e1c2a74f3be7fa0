/-! What a lifted method is made of, and the rules from it to a run. -/
def zS {α : Type} (o : Option α) (Q : α → Prop) : Prop := ∃ x, o = some x ∧ Q x
theorem zS_bind {α β : Type} {o : Option α} {g : α → Option β} {Q : β → Prop} (h : zS (o.bind g) Q) : ∃ x, o = some x ∧ zS (g x) Q := by
  obtain ⟨y, e, hq⟩ := h
  cases o with
  | none => cases e
  | some x => exact ⟨x, rfl, y, e, hq⟩
theorem zS_t {α : Type} {c : Prop} [Decidable c] {a b : Option α} {Q : α → Prop} (h : zS (if c then a else b) Q) (hc : c) : zS a Q := by rwa [if_pos hc] at h
theorem zS_f {α : Type} {c : Prop} [Decidable c] {a b : Option α} {Q : α → Prop} (h : zS (if c then a else b) Q) (hc : ¬ c) : zS b Q := by rwa [if_neg hc] at h
theorem zS_c {α : Type} {c : Prop} [Decidable c] {a : Option α} {Q : α → Prop} (h : zS (if c then a else none) Q) : c ∧ zS a Q := by
  by_cases hc : c
  · exact ⟨hc, zS_t h hc⟩
  · obtain ⟨y, e, _⟩ := zS_f h hc
    cases e
theorem zS_some {α : Type} {x : α} {Q : α → Prop} (h : zS (some x) Q) : Q x := by
  obtain ⟨y, e, hq⟩ := h
  cases e
  exact hq
theorem zS_none {α : Type} {Q : α → Prop} (h : zS (none : Option α) Q) : False := by
  obtain ⟨y, e, _⟩ := h
  cases e
theorem zS_mono {α : Type} {o : Option α} {Q Q' : α → Prop} (h : zS o Q) (k : ∀ x, Q x → Q' x) : zS o Q' := by
  obtain ⟨y, e, hq⟩ := h
  exact ⟨y, e, k y hq⟩
/-- an object of a class -/
def zis (ci c : Nat) : Bool := decide (zSH[c]? = some (10 + ci, zNF ci))
def zin (k c : Nat) (x : Int) : Bool := match zSH[c]? with
  | some (t, n) => decide (t = k ∧ 0 ≤ x ∧ x < n)
  | none => false
def rdI (c : Nat) (x : Int) (M : Nat → Nat → Int) : Option Int := if zin 0 c x = true then some (M c x.toNat) else none
def rdL (c : Nat) (x : Int) (M : Nat → Nat → Int) : Option Int := if zin 2 c x = true then some (M c x.toNat) else none
def rdB (c : Nat) (x : Int) (M : Nat → Nat → Int) : Option Int := if zin 1 c x = true ∨ zin 3 c x = true then some (M c x.toNat) else if zSH[c]? = none ∧ 5040 ≤ c ∧ c < 5070 ∧ 0 ≤ x ∧ x < (zBY.getD (c - 5040) []).length then some ((zBY.getD (c - 5040) []).getD x.toNat 0).toInt else none
def rdA (c : Nat) (x : Int) : Option Nat := if (zin 4 c x = true ∨ zin 5 c x = true) ∧ zgld zGG c x.toNat ≤ 5000 then some (zgld zGG c x.toNat) else none
def wrI (c : Nat) (x y : Int) (M : Nat → Nat → Int) : Option (Nat → Nat → Int) := if zin 0 c x = true then some (zup M c x.toNat y) else none
def wrL (c : Nat) (x y : Int) (M : Nat → Nat → Int) : Option (Nat → Nat → Int) := if zin 2 c x = true then some (zup M c x.toNat y) else none
def wrB (c : Nat) (x y : Int) (M : Nat → Nat → Int) : Option (Nat → Nat → Int) := if zin 1 c x = true then some (zup M c x.toNat (zi2b y)) else if zin 3 c x = true ∧ (y = 0 ∨ y = 1) then some (zup M c x.toNat y) else none
def lnA (c : Nat) : Option Int := match zSH[c]? with
  | some (t, n) => if t < 6 then some (w32 n) else none
  | none => if 5040 ≤ c ∧ c < 5070 then some (w32 (zBY.getD (c - 5040) []).length) else none
def cpA (a : Nat) (sp : Int) (b : Nat) (dp n : Int) (M : Nat → Nat → Int) : Option (Nat → Nat → Int) := match zSH[a]?, zSH[b]? with
  | some (t0, n0), some (t1, n1) => if t0 = t1 ∧ (t0 = 0 ∨ t0 = 2) ∧ 0 ≤ sp ∧ 0 ≤ dp ∧ 0 ≤ n ∧ sp + n ≤ n0 ∧ dp + n ≤ n1 then some (zcpy M a sp.toNat b dp.toNat n.toNat) else none
  | _, _ => none
def rb (x : Int) : Option Int := if x = 0 ∨ x = 1 then some x else none
def rc (x : Int) : Option Int := if 0 ≤ x ∧ x < 65536 then some x else none
def rby (x : Int) : Option Int := if -128 ≤ x ∧ x < 128 then some x else none
theorem zin_of {k c : Nat} {x : Int} (h : zin k c x = true) : ∃ n, zSH[c]? = some (k, n) ∧ 0 ≤ x ∧ x < (n : Int) := by
  unfold zin at h
  cases hz : zSH[c]? with
  | none => rw [hz] at h; cases h
  | some tn =>
    obtain ⟨t, n⟩ := tn
    rw [hz] at h
    obtain ⟨e, h1, h2⟩ := of_decide_eq_true h
    exact ⟨n, by rw [e], h1, h2⟩
section ZRV
variable {sc : zSc} {q j pc pc' : Nat} {L L' : zL} {S S' : List zV} {M M' : Nat → Nat → Int} {P : Option zV → (Nat → Nat → Int) → Prop}
theorem E_2 {i : Instr} {v : zV} {x : Int} {c : Nat} (hd : decode (zcode j) pc = .ok (i, 1)) (hr : zret j (.inl x :: .inr (.inr c) :: S) i 1 = none) (h1 : zs1 sc q j pc L (.inl x :: .inr (.inr c) :: S) (zA M) i 1 = none) (ha : zald sc (zA M) i c x = some v) (k : zWp sc q j (pc + 1) L (v :: S) M P) : zWp sc q j pc L (.inl x :: .inr (.inr c) :: S) M P := by
  refine E_step hd hr ?_ k
  unfold zstep
  rw [h1]
  unfold zs2
  simp only [ha]
  rw [if_pos trivial]
theorem E_3 {i : Instr} {v : zV} {x : Int} {c : Nat} (hd : decode (zcode j) pc = .ok (i, 1)) (hr : zret j (v :: .inl x :: .inr (.inr c) :: S) i 1 = none) (h1 : zs1 sc q j pc L (v :: .inl x :: .inr (.inr c) :: S) (zA M) i 1 = none) (h2 : zs2 sc pc L (v :: .inl x :: .inr (.inr c) :: S) (zA M) i 1 = none) (ha : zast (zA M) i c x v = some (zA M')) (k : zWp sc q j (pc + 1) L S M' P) : zWp sc q j pc L (v :: .inl x :: .inr (.inr c) :: S) M P := by
  refine E_step hd hr ?_ k
  unfold zstep
  rw [h1, h2]
  unfold zs3
  simp only [ha]
  rw [if_pos trivial]
theorem E_iaload {v x : Int} {c : Nat} (hd : decode (zcode j) pc = .ok (.iaload, 1)) (h : rdI c x M = some v) (k : zWp sc q j (pc + 1) L (.inl v :: S) M P) : zWp sc q j pc L (.inl x :: .inr (.inr c) :: S) M P := by
  refine E_2 hd rfl rfl ?_ k
  unfold rdI at h
  split at h
  · rename_i hz
    obtain ⟨n, e, h0, h1⟩ := zin_of hz
    cases h
    unfold zald
    show (match zSH[c]? with | some (t, n) => _ | none => _) = _
    simp only [e]
    rw [if_pos ⟨h0, h1⟩]
    rfl
  · cases h
theorem E_laload {v x : Int} {c : Nat} (hd : decode (zcode j) pc = .ok (.laload, 1)) (h : rdL c x M = some v) (k : zWp sc q j (pc + 1) L (.inr (.inl v) :: S) M P) : zWp sc q j pc L (.inl x :: .inr (.inr c) :: S) M P := by
  refine E_2 hd rfl rfl ?_ k
  unfold rdL at h
  split at h
  · rename_i hz
    obtain ⟨n, e, h0, h1⟩ := zin_of hz
    cases h
    unfold zald
    show (match zSH[c]? with | some (t, n) => _ | none => _) = _
    simp only [e]
    rw [if_pos ⟨h0, h1⟩]
    rfl
  · cases h
theorem E_baload {v x : Int} {c : Nat} (hd : decode (zcode j) pc = .ok (.baload, 1)) (h : rdB c x M = some v) (k : zWp sc q j (pc + 1) L (.inl v :: S) M P) : zWp sc q j pc L (.inl x :: .inr (.inr c) :: S) M P := by
  refine E_2 hd rfl rfl ?_ k
  unfold rdB at h
  split at h
  · rename_i hz
    cases h
    have key : ∃ t n, zSH[c]? = some (t, n) ∧ (t = 1 ∨ t = 3) ∧ 0 ≤ x ∧ x < (n : Int) := by
      rcases hz with hz | hz
      · obtain ⟨n, e, h0, h1⟩ := zin_of hz; exact ⟨1, n, e, Or.inl rfl, h0, h1⟩
      · obtain ⟨n, e, h0, h1⟩ := zin_of hz; exact ⟨3, n, e, Or.inr rfl, h0, h1⟩
    obtain ⟨t, n, e, ht, h0, h1⟩ := key
    unfold zald
    show (match zSH[c]? with | some (t, n) => _ | none => _) = _
    simp only [e]
    rw [if_pos ⟨h0, h1⟩, if_pos ht]
    rfl
  · split at h
    · rename_i hz
      have h := Option.some.inj h
      subst h
      unfold zald
      show (match zSH[c]? with | some (t, n) => _ | none => _) = _
      simp only [hz.1]
      rw [if_pos hz.2]
    · cases h
theorem E_aaload {x : Int} {c v : Nat} (hd : decode (zcode j) pc = .ok (.aaload, 1)) (h : rdA c x = some v) (k : zWp sc q j (pc + 1) L (.inr (.inr v) :: S) M P) : zWp sc q j pc L (.inl x :: .inr (.inr c) :: S) M P := by
  refine E_2 hd rfl rfl ?_ k
  unfold rdA at h
  split at h
  · rename_i hz
    cases h
    have key : ∃ t n, zSH[c]? = some (t, n) ∧ (t = 4 ∨ t = 5) ∧ 0 ≤ x ∧ x < (n : Int) := by
      rcases hz.1 with hz | hz
      · obtain ⟨n, e, h0, h1⟩ := zin_of hz; exact ⟨4, n, e, Or.inl rfl, h0, h1⟩
      · obtain ⟨n, e, h0, h1⟩ := zin_of hz; exact ⟨5, n, e, Or.inr rfl, h0, h1⟩
    obtain ⟨t, n, e, ht, h0, h1⟩ := key
    unfold zald
    show (match zSH[c]? with | some (t, n) => _ | none => _) = _
    simp only [e]
    rw [if_pos ⟨h0, h1⟩]
    show (if (t = 4 ∨ t = 5) ∧ zgld zGG c x.toNat ≤ 5000 then _ else none) = _
    rw [if_pos ⟨ht, hz.2⟩]
    rfl
  · cases h
theorem E_iastore {x y : Int} {c : Nat} (hd : decode (zcode j) pc = .ok (.iastore, 1)) (h : wrI c x y M = some M') (k : zWp sc q j (pc + 1) L S M' P) : zWp sc q j pc L (.inl y :: .inl x :: .inr (.inr c) :: S) M P := by
  refine E_3 hd rfl rfl rfl ?_ k
  unfold wrI at h
  split at h
  · rename_i hz
    obtain ⟨n, e, h0, h1⟩ := zin_of hz
    cases h
    unfold zast
    show (match zSH[c]? with | some (t, n) => _ | none => _) = _
    simp only [e]
    rw [if_pos ⟨h0, h1⟩]
    rfl
  · cases h
theorem E_lastore {x y : Int} {c : Nat} (hd : decode (zcode j) pc = .ok (.lastore, 1)) (h : wrL c x y M = some M') (k : zWp sc q j (pc + 1) L S M' P) : zWp sc q j pc L (.inr (.inl y) :: .inl x :: .inr (.inr c) :: S) M P := by
  refine E_3 hd rfl rfl rfl ?_ k
  unfold wrL at h
  split at h
  · rename_i hz
    obtain ⟨n, e, h0, h1⟩ := zin_of hz
    cases h
    unfold zast
    show (match zSH[c]? with | some (t, n) => _ | none => _) = _
    simp only [e]
    rw [if_pos ⟨h0, h1⟩]
    rfl
  · cases h
theorem E_bastore {x y : Int} {c : Nat} (hd : decode (zcode j) pc = .ok (.bastore, 1)) (h : wrB c x y M = some M') (k : zWp sc q j (pc + 1) L S M' P) : zWp sc q j pc L (.inl y :: .inl x :: .inr (.inr c) :: S) M P := by
  refine E_3 hd rfl rfl rfl ?_ k
  unfold wrB at h
  split at h
  · rename_i hz
    obtain ⟨n, e, h0, h1⟩ := zin_of hz
    cases h
    unfold zast
    show (match zSH[c]? with | some (t, n) => _ | none => _) = _
    simp only [e]
    rw [if_pos ⟨h0, h1⟩]
    rfl
  · split at h
    · rename_i hz
      obtain ⟨n, e, h0, h1⟩ := zin_of hz.1
      cases h
      unfold zast
      show (match zSH[c]? with | some (t, n) => _ | none => _) = _
      simp only [e]
      rw [if_pos ⟨h0, h1⟩]
      rw [if_neg (by decide), if_pos ⟨trivial, hz.2⟩]
      rfl
    · cases h
theorem E_arraylength {n : Int} {c : Nat} (hd : decode (zcode j) pc = .ok (.arraylength, 1)) (h : lnA c = some n) (k : zWp sc q j (pc + 1) L (.inl n :: S) M P) : zWp sc q j pc L (.inr (.inr c) :: S) M P := by
  refine E_1 hd rfl ?_ k
  show (match zlen sc (zA M) c with | some n => (if 1 = 1 then some (pc + 1, L, Sum.inl (w32 n) :: S, zA M) else none) | none => none) = _
  have key : ∃ m, zlen sc (zA M) c = some m ∧ w32 m = n := by
    unfold lnA at h
    unfold zlen
    show ∃ m, (match zSH[c]? with | some (t, n) => _ | none => _) = some m ∧ w32 m = n
    cases hz : zSH[c]? with
    | some tn =>
      obtain ⟨t, n0⟩ := tn
      rw [hz] at h
      simp only at h ⊢
      split at h
      · rename_i ht
        cases h
        exact ⟨n0, by rw [if_pos ht], rfl⟩
      · cases h
    | none =>
      rw [hz] at h
      simp only at h ⊢
      split at h
      · rename_i ht
        have h := Option.some.inj h
        refine ⟨_, ?_, h⟩
        rw [if_neg (by omega), if_pos ht]
      · cases h
  obtain ⟨m, e, hm⟩ := key
  rw [e]
  show some (pc + 1, L, Sum.inl (w32 m) :: S, zA M) = _
  rw [hm]
/-- fields -/
def zfx (C idx : Nat) : Option (Nat × Nat) := ((zFK C).find? (fun e => e.1 == idx)).map (fun e => (e.2.1, e.2.2.1))
theorem zfx_of {C idx ci k : Nat} (h : zfx C idx = some (ci, k)) : ∃ e, (zFK C).find? (fun e => e.1 == idx) = some e ∧ e.2.1 = ci ∧ e.2.2.1 = k := by
  unfold zfx at h
  cases hz : (zFK C).find? (fun e => e.1 == idx) with
  | none => rw [hz] at h; cases h
  | some e => rw [hz] at h; cases h; exact ⟨e, rfl, rfl, rfl⟩
theorem E_get {idx c : Nat} {v : zV} (hd : decode (zcode j) pc = .ok (.getfield idx, 3)) (h : zgetf (zcls j) (zA M) idx c = some v) (k : zWp sc q j (pc + 3) L (v :: S) M P) : zWp sc q j pc L (.inr (.inr c) :: S) M P := by
  refine E_1 hd rfl ?_ k
  show (match zgetf (zcls j) (zA M) idx c with | some v => (if 3 = 3 then some (pc + 3, L, v :: S, zA M) else none) | none => none) = _
  rw [h]
  rfl
theorem E_getI {idx c C ci f : Nat} (hd : decode (zcode j) pc = .ok (.getfield idx, 3)) (hc : zcls j = C) (hf : zfx C idx = some (ci, f)) (hk : zfk ci f = 0 ∨ zfk ci f = 3) (hz : zis ci c = true) (k : zWp sc q j (pc + 3) L (.inl (M c f) :: S) M P) : zWp sc q j pc L (.inr (.inr c) :: S) M P := by
  refine E_get hd ?_ k
  obtain ⟨e, h1, h2, h3⟩ := zfx_of hf
  have hz : (zA M).1[c]? = some (10 + ci, zNF ci) := of_decide_eq_true hz
  unfold zgetf
  rw [hc]
  simp only [h1, h2, h3]
  rw [if_pos hz]
  rcases hk with hk | hk <;> simp only [hk] <;> rfl
theorem E_getL {idx c C ci f : Nat} (hd : decode (zcode j) pc = .ok (.getfield idx, 3)) (hc : zcls j = C) (hf : zfx C idx = some (ci, f)) (hk : zfk ci f = 1) (hz : zis ci c = true) (k : zWp sc q j (pc + 3) L (.inr (.inl (M c f)) :: S) M P) : zWp sc q j pc L (.inr (.inr c) :: S) M P := by
  refine E_get hd ?_ k
  obtain ⟨e, h1, h2, h3⟩ := zfx_of hf
  have hz : (zA M).1[c]? = some (10 + ci, zNF ci) := of_decide_eq_true hz
  unfold zgetf
  rw [hc]
  simp only [h1, h2, h3]
  rw [if_pos hz]
  simp only [hk]
  rfl
theorem E_getR {idx c C ci f r : Nat} (hd : decode (zcode j) pc = .ok (.getfield idx, 3)) (hc : zcls j = C) (hf : zfx C idx = some (ci, f)) (hk : zfk ci f = 2) (hz : zis ci c = true) (hg : zgld zGG c f = r) (hr : r ≤ 5000) (k : zWp sc q j (pc + 3) L (.inr (.inr r) :: S) M P) : zWp sc q j pc L (.inr (.inr c) :: S) M P := by
  refine E_get hd ?_ k
  obtain ⟨e, h1, h2, h3⟩ := zfx_of hf
  have hz : (zA M).1[c]? = some (10 + ci, zNF ci) := of_decide_eq_true hz
  unfold zgetf
  rw [hc]
  simp only [h1, h2, h3]
  rw [if_pos hz]
  simp only [hk]
  show (if zgld zGG c f ≤ 5000 then some (Sum.inr (Sum.inr (zgld zGG c f))) else none) = _
  rw [hg, if_pos hr]
theorem E_getS {idx c C : Nat} (hd : decode (zcode j) pc = .ok (.getfield idx, 3)) (hc : zcls j = C) (hf : zfx C idx = none) {w : Nat} (hx : ((zXK C).find? (fun e => e.1 == idx)).map (fun e => e.2.1) = some w) {v : zV} (hv : (if w = 0 then some (Sum.inr (Sum.inr (c + 37))) else some (Sum.inl 0) : Option zV) = some v) (h : 5003 ≤ c ∧ c < 5033) (k : zWp sc q j (pc + 3) L (v :: S) M P) : zWp sc q j pc L (.inr (.inr c) :: S) M P := by
  refine E_get hd ?_ k
  unfold zfx at hf
  unfold zgetf
  rw [hc]
  cases h1 : (zFK C).find? (fun e => e.1 == idx) with
  | some e => rw [h1] at hf; cases hf
  | none =>
    cases h2 : (zXK C).find? (fun e => e.1 == idx) with
    | none => rw [h2] at hx; cases hx
    | some e =>
      rw [h2] at hx
      cases hx
      simp only
      rw [if_pos h]
      exact hv
theorem E_put {idx c : Nat} {v : zV} (hd : decode (zcode j) pc = .ok (.putfield idx, 3)) (h : zputf j (zA M) idx c v = some (zA M')) (k : zWp sc q j (pc + 3) L S M' P) : zWp sc q j pc L (v :: .inr (.inr c) :: S) M P := by
  refine E_1 hd (by cases S <;> rfl) ?_ k
  show (match zputf j (zA M) idx c v with | some A => (if 3 = 3 then some (pc + 3, L, S, A) else none) | none => none) = _
  rw [h]
  rfl
theorem E_putI {idx c C ci f : Nat} {x : Int} (hd : decode (zcode j) pc = .ok (.putfield idx, 3)) (hc : zcls j = C) (hf : zfx C idx = some (ci, f)) (hk : zfk ci f = 0 ∧ (zTX ci f).2.2.2 = false) (hz : zis ci c = true) (k : zWp sc q j (pc + 3) L S (zup M c f x) P) : zWp sc q j pc L (.inl x :: .inr (.inr c) :: S) M P := by
  refine E_put hd ?_ k
  obtain ⟨e, h1, h2, h3⟩ := zfx_of hf
  have hz : (zA M).1[c]? = some (10 + ci, zNF ci) := of_decide_eq_true hz
  unfold zputf
  rw [hc]
  simp only [h1, h2, h3]
  rw [if_pos ⟨hz, Or.inl hk.2⟩]
  simp only [hk.1]
  rfl
theorem E_putZ {idx c C ci f : Nat} {x : Int} (hd : decode (zcode j) pc = .ok (.putfield idx, 3)) (hc : zcls j = C) (hf : zfx C idx = some (ci, f)) (hk : zfk ci f = 3 ∧ (zTX ci f).2.2.2 = false) (hz : zis ci c = true) (hx : x = 0 ∨ x = 1) (k : zWp sc q j (pc + 3) L S (zup M c f x) P) : zWp sc q j pc L (.inl x :: .inr (.inr c) :: S) M P := by
  refine E_put hd ?_ k
  obtain ⟨e, h1, h2, h3⟩ := zfx_of hf
  have hz : (zA M).1[c]? = some (10 + ci, zNF ci) := of_decide_eq_true hz
  unfold zputf
  rw [hc]
  simp only [h1, h2, h3]
  rw [if_pos ⟨hz, Or.inl hk.2⟩]
  simp only [hk.1]
  rw [if_pos hx]
  rfl
theorem E_putL {idx c C ci f : Nat} {x : Int} (hd : decode (zcode j) pc = .ok (.putfield idx, 3)) (hc : zcls j = C) (hf : zfx C idx = some (ci, f)) (hk : zfk ci f = 1 ∧ (zTX ci f).2.2.2 = false) (hz : zis ci c = true) (k : zWp sc q j (pc + 3) L S (zup M c f x) P) : zWp sc q j pc L (.inr (.inl x) :: .inr (.inr c) :: S) M P := by
  refine E_put hd ?_ k
  obtain ⟨e, h1, h2, h3⟩ := zfx_of hf
  have hz : (zA M).1[c]? = some (10 + ci, zNF ci) := of_decide_eq_true hz
  unfold zputf
  rw [hc]
  simp only [h1, h2, h3]
  rw [if_pos ⟨hz, Or.inl hk.2⟩]
  simp only [hk.1]
  rfl
/-- the JDK's own -/
def zpx (C idx : Nat) : Option Nat := ((zPK C).find? (fun e => e.1 == idx)).map (fun e => e.2.1)
theorem E_prim {idx C t : Nat} (hd : decode (zcode j) pc = .ok (.invokestatic idx, 3)) (hc : zcls j = C) (hf : zpx C idx = some t) (hp : zprim (zA M) t S = some (S', zA M')) (hs : (S'.map zcat).sum ≤ 8) (hq : 1 ≤ q) (k : zWp sc q j (pc + 3) L S' M' P) : zWp sc q j pc L S M P := by
  refine E_1 hd rfl ?_ k
  unfold zpx at hf
  show (match (zPK (zcls j)).find? (fun e => e.1 == idx) with
    | some e => (match zprim (zA M) e.2.1 S with
      | some (S, A) => if 3 = 3 ∧ 1 ≤ q ∧ ((S.map zcat).sum ≤ 8) then some (pc + 3, L, S, A) else none
      | none => none)
    | none => none) = _
  rw [hc]
  cases h1 : (zPK C).find? (fun e => e.1 == idx) with
  | none => rw [h1] at hf; cases hf
  | some e =>
    rw [h1] at hf
    cases hf
    simp only [hp]
    rw [if_pos ⟨trivial, hq, hs⟩]
theorem E_min {idx C : Nat} {x y : Int} (hd : decode (zcode j) pc = .ok (.invokestatic idx, 3)) (hc : zcls j = C) (hf : zpx C idx = some 0) (hs : ((.inl (if y < x then y else x) :: S).map zcat).sum ≤ 8) (hq : 1 ≤ q) (k : zWp sc q j (pc + 3) L (.inl (if y < x then y else x) :: S) M P) : zWp sc q j pc L (.inl y :: .inl x :: S) M P := E_prim hd hc hf rfl hs hq k
theorem E_max {idx C : Nat} {x y : Int} (hd : decode (zcode j) pc = .ok (.invokestatic idx, 3)) (hc : zcls j = C) (hf : zpx C idx = some 1) (hs : ((.inl (if x < y then y else x) :: S).map zcat).sum ≤ 8) (hq : 1 ≤ q) (k : zWp sc q j (pc + 3) L (.inl (if x < y then y else x) :: S) M P) : zWp sc q j pc L (.inl y :: .inl x :: S) M P := E_prim hd hc hf rfl hs hq k
theorem E_abs {idx C : Nat} {x : Int} (hd : decode (zcode j) pc = .ok (.invokestatic idx, 3)) (hc : zcls j = C) (hf : zpx C idx = some 2) (hs : ((.inr (.inl (if 0 < x then x else w64 (-x))) :: S).map zcat).sum ≤ 8) (hq : 1 ≤ q) (k : zWp sc q j (pc + 3) L (.inr (.inl (if 0 < x then x else w64 (-x))) :: S) M P) : zWp sc q j pc L (.inr (.inl x) :: S) M P := E_prim hd hc hf rfl hs hq k
theorem E_copy {idx C a b : Nat} {sp dp n : Int} (hd : decode (zcode j) pc = .ok (.invokestatic idx, 3)) (hc : zcls j = C) (hf : zpx C idx = some 3) (h : cpA a sp b dp n M = some M') (hs : (S.map zcat).sum ≤ 8) (hq : 1 ≤ q) (k : zWp sc q j (pc + 3) L S M' P) : zWp sc q j pc L (.inl n :: .inl dp :: .inr (.inr b) :: .inl sp :: .inr (.inr a) :: S) M P := by
  refine E_prim hd hc hf ?_ hs hq k
  unfold cpA at h
  show (match zSH[a]?, zSH[b]? with
     | some (t0, n0), some (t1, n1) => _
     | _, _ => none) = _
  cases ha : zSH[a]? with
  | none => rw [ha] at h; cases h
  | some t0 =>
    cases hb : zSH[b]? with
    | none => rw [ha, hb] at h; cases h
    | some t1 =>
      rw [ha, hb] at h
      simp only at h ⊢
      split at h
      · rename_i hk
        cases h
        rw [if_pos hk]
        rfl
      · cases h
/-- returns -/
theorem E_retn {i : Instr} {len : Nat} {r : Option zV} (hd : decode (zcode j) pc = .ok (i, len)) (hr : zret j S i len = some r) (h : P r M) : zWp sc q j pc L S M P := by
  refine ⟨1, r, M, ?_, h⟩
  unfold zex
  simp only [hd, hr]
theorem E_ireturn {x : Int} (hd : decode (zcode j) pc = .ok (.ireturn, 1)) (ht : zrt j = some .int) (h : P (some (.inl x)) M) : zWp sc q j pc L [.inl x] M P := E_retn hd (by
  show (if 1 = 1 ∧ zrok (zrt j) (some (.inl x)) = true then some (some (Sum.inl x)) else none) = _
  rw [ht, if_pos ⟨rfl, rfl⟩]) h
theorem E_ireturnZ {x : Int} (hd : decode (zcode j) pc = .ok (.ireturn, 1)) (ht : zrt j = some .boolean) (hx : x = 0 ∨ x = 1) (h : P (some (.inl x)) M) : zWp sc q j pc L [.inl x] M P := E_retn hd (by
  show (if 1 = 1 ∧ zrok (zrt j) (some (.inl x)) = true then some (some (Sum.inl x)) else none) = _
  rw [ht, if_pos ⟨rfl, decide_eq_true hx⟩]) h
theorem E_ireturnC {x : Int} (hd : decode (zcode j) pc = .ok (.ireturn, 1)) (ht : zrt j = some .char) (hx : 0 ≤ x ∧ x < 65536) (h : P (some (.inl x)) M) : zWp sc q j pc L [.inl x] M P := E_retn hd (by
  show (if 1 = 1 ∧ zrok (zrt j) (some (.inl x)) = true then some (some (Sum.inl x)) else none) = _
  rw [ht, if_pos ⟨rfl, decide_eq_true hx⟩]) h
theorem E_ireturnB {x : Int} (hd : decode (zcode j) pc = .ok (.ireturn, 1)) (ht : zrt j = some .byte) (hx : -128 ≤ x ∧ x < 128) (h : P (some (.inl x)) M) : zWp sc q j pc L [.inl x] M P := E_retn hd (by
  show (if 1 = 1 ∧ zrok (zrt j) (some (.inl x)) = true then some (some (Sum.inl x)) else none) = _
  rw [ht, if_pos ⟨rfl, decide_eq_true hx⟩]) h
theorem E_lreturn {x : Int} (hd : decode (zcode j) pc = .ok (.lreturn, 1)) (ht : zrt j = some .long) (h : P (some (.inr (.inl x))) M) : zWp sc q j pc L [.inr (.inl x)] M P := E_retn hd (by
  show (if 1 = 1 ∧ zrok (zrt j) (some (.inr (.inl x))) = true then some (some (Sum.inr (Sum.inl x))) else none) = _
  rw [ht, if_pos ⟨rfl, rfl⟩]) h
theorem E_return {x : Unit} (hd : decode (zcode j) pc = .ok (.return_, 1)) (ht : zrt j = none) (h : P none M) : zWp sc q j pc L [] M P := E_retn hd (by
  show (if 1 = 1 ∧ zrok (zrt j) none = true then some none else none) = _
  rw [ht, if_pos ⟨rfl, rfl⟩]) h
theorem rb_of {α : Type} {x : Int} {f : Int → α} {Q : Int → Prop} (h : zS (rb x) Q) : (x = 0 ∨ x = 1) ∧ Q x := by
  obtain ⟨h1, h2⟩ := zS_c h
  exact ⟨h1, zS_some h2⟩
end ZRV
