/-! What a memory of numbers is on the machine's heap. -/
def zGW : List Jvm.Cond := lw_tbl.filter goodWord
theorem zat_in {p : Nat} {w : Jvm.Cond} (h : zat p w = true) : w ∈ zGW := by
  unfold zat at h
  rw [Bool.and_eq_true, decide_eq_true_eq] at h
  exact List.mem_filter.mpr ⟨zTb_in _ _ (List.mem_of_getElem? h.1), h.2⟩
def zref (base : Nat) (X : Nat → Value) (c : Nat) : Value := if c < 5000 then .ref (base + c) else X (c - 5000)
def zval (base : Nat) (X : Nat → Value) (v : zV) : Value := match v with
  | .inl x => .int (Int32.ofInt x)
  | .inr (.inl x) => .long (Int64.ofInt x)
  | .inr (.inr c) => zref base X c
def zokv (v : zV) : Prop := match v with
  | .inl x => in32 x
  | .inr (.inl x) => in64 x
  | .inr (.inr _) => True
def zX (b : Nat) (fmt : Value) (adK adV : Nat → Nat) (c : Nat) : Value :=
  if c = 0 then .null else if c = 1 then .ref b else if c = 2 then fmt else if c < 40 then .ref (adK (c - 3)) else .ref (adV (c - 40))
def zXok (X : Nat → Value) : Prop := X 0 = .null ∧ ∀ c, X c = .null ∨ ∃ a, X c = .ref a
theorem zref_cat {base : Nat} {X : Nat → Value} (hX : zXok X) (c : Nat) : zref base X c = .null ∨ ∃ a, zref base X c = .ref a := by
  unfold zref
  split
  · exact Or.inr ⟨_, rfl⟩
  · exact hX.2 _
theorem zval_cat {base : Nat} {X : Nat → Value} (hX : zXok X) (v : zV) : (zval base X v).category = zcat v := by
  match v with
  | .inl x => rfl
  | .inr (.inl x) => rfl
  | .inr (.inr c) =>
    show (zref base X c).category = 1
    rcases zref_cat (base := base) hX c with h | ⟨a, h⟩ <;> rw [h] <;> rfl
theorem zcat_sum {base : Nat} {X : Nat → Value} (hX : zXok X) (S : List zV) : ((S.map (zval base X)).map (fun v => v.category)).sum = (S.map zcat).sum := by
  rw [List.map_map]
  congr 1
  exact List.map_congr_left fun v _ => zval_cat hX v
def zro (base c : Nat) : Option Nat := if c < 5000 then some (base + c) else none
theorem zro_ref {base c : Nat} {X : Nat → Value} (hX : zXok X) (hc : c ≤ 5000) : zref base X c = va_rf (zro base c) := by
  unfold zref zro
  split
  · rfl
  · rw [show c - 5000 = 0 by omega, hX.1]
    rfl
def zty (t : Nat) : FieldType := match t with
  | 0 => .int
  | 1 => .byte
  | 2 => .long
  | 3 => .boolean
  | 4 => .object "LeashedNames$Image"
  | _ => .array .long
def ztys (tc : Nat → ClassId) : List (ClassId × FieldType) := [(tc 0, .int), (tc 1, .byte), (tc 2, .long), (tc 3, .boolean), (tc 4, .object "LeashedNames$Image"), (tc 5, .array .long)]
def zfv (base : Nat) (G : List (List Nat)) (M : Nat → Nat → Int) (ci k i : Nat) : Value := match zfk ci i with
  | 0 => .int (Int32.ofInt (M k i))
  | 3 => .int (Int32.ofInt (M k i))
  | 1 => .long (Int64.ofInt (M k i))
  | _ => va_rf (zro base (zgld G k i))
def zEnt (base : Nat) (tc : Nat → ClassId) (t n : Nat) (G : List (List Nat)) (M : Nat → Nat → Int) (k : Nat) : va_E :=
  if t < 2 ∨ t = 3 then .inl (tc t, n, .inl (fun j => Int32.ofInt (M k j)))
  else if t = 2 then .inl (tc 2, n, .inr (.inl (fun j => Int64.ofInt (M k j))))
  else if t < 6 then .inl (tc t, n, .inr (.inr (.inr (.inr (fun j => zro base (zgld G k j))))))
  else .inr (t - 10, (List.range n).map (zfv base G M (t - 10) k))
def zCell (base : Nat) (tc : Nat → ClassId) (A : zM) (k : Nat) : Nat × va_E := (base + k, zEnt base tc (A.1.getD k (0, 0)).1 (A.1.getD k (0, 0)).2 A.2.1 A.2.2 k)
def zWo (base : Nat) (tc : Nat → ClassId) (A : zM) : va_W := (List.range A.1.length).map (zCell base tc A)
def zrng (t j : Nat) (x : Int) : Prop := if t = 2 ∨ (10 ≤ t ∧ zfk (t - 10) j = 1) then in64 x else in32 x
def zMo (A : zM) : Prop := A.2.1.length = A.1.length ∧ A.1.length ≤ 5000 ∧ ∀ k t n, A.1[k]? = some (t, n) → (A.2.1.getD k []).length = n ∧ ∀ j, zrng t j (A.2.2 k j)
def zsl (sh : List (Nat × Nat)) : Nat := (sh.map (fun e => e.2)).sum
theorem zWo_get {base : Nat} {tc : Nat → ClassId} {A : zM} {k t n : Nat} (h : A.1[k]? = some (t, n)) : (zWo base tc A)[k]? = some (base + k, zEnt base tc t n A.2.1 A.2.2 k) := by
  have hl := (List.getElem?_eq_some_iff.mp h).1
  unfold zWo
  rw [List.getElem?_map, List.getElem?_range hl]
  show some (zCell base tc A k) = _
  unfold zCell
  rw [List.getD_eq_getElem?_getD, h]
  rfl
theorem zWo_len {base : Nat} {tc : Nat → ClassId} {A : zM} : (zWo base tc A).length = A.1.length := by simp [zWo]
theorem zWo_D {base : Nat} {tc : Nat → ClassId} {A : zM} : va_D (fun q => base ≤ q) (zWo base tc A) := by
  have key : ∀ (k : Nat) (q : Nat × va_E), (zWo base tc A)[k]? = some q → q.1 = base + k := by
    intro k q h
    have hl : k < (zWo base tc A).length := (List.getElem?_eq_some_iff.mp h).1
    rw [zWo_len] at hl
    unfold zWo at h
    rw [List.getElem?_map, List.getElem?_range hl] at h
    cases h
    rfl
  refine ⟨fun i j p q hi hj e => ?_, fun k q h => ?_⟩
  · have h1 := key i p hi
    have h2 := key j q hj
    omega
  · have := key k q h
    show base ≤ q.1
    omega
/-- one cell is changed -/
theorem zWo_set {base : Nat} {tc : Nat → ClassId} {A A' : zM} {k t n : Nat} {e : va_E} (hs : A'.1 = A.1) (hk : A.1[k]? = some (t, n)) (ho : ∀ i, i ≠ k → ∀ t n, zEnt base tc t n A'.2.1 A'.2.2 i = zEnt base tc t n A.2.1 A.2.2 i) (he : zEnt base tc t n A'.2.1 A'.2.2 k = e) : (zWo base tc A).set k (base + k, e) = zWo base tc A' := by
  apply List.ext_getElem?
  intro i
  by_cases hi : i < A.1.length
  · have hg : A.1[i]? = some A.1[i] := List.getElem?_eq_getElem hi
    have hg' : A'.1[i]? = some A.1[i] := by rw [hs]; exact hg
    rw [zWo_get hg']
    by_cases hik : i = k
    · subst hik
      rw [List.getElem?_set_self (by rw [zWo_len]; exact hi)]
      have hq : A.1.get ⟨i, hi⟩ = (t, n) := Option.some.inj (hg.symm.trans hk)
      rw [hq, ← he]
    · rw [List.getElem?_set_ne (Ne.symm hik), zWo_get hg, ho i hik]
  · have h1 : (zWo base tc A').length ≤ i := by rw [zWo_len, hs]; omega
    rw [List.getElem?_eq_none (by rw [List.length_set, zWo_len]; omega), List.getElem?_eq_none h1]
/-- a cell is made -/
theorem zWo_push {base : Nat} {tc : Nat → ClassId} {A A' : zM} {t n : Nat} {e : va_E} (hs : A'.1 = A.1 ++ [(t, n)]) (ho : ∀ i, i < A.1.length → ∀ t n, zEnt base tc t n A'.2.1 A'.2.2 i = zEnt base tc t n A.2.1 A.2.2 i) (he : zEnt base tc t n A'.2.1 A'.2.2 A.1.length = e) : zWo base tc A ++ [(base + A.1.length, e)] = zWo base tc A' := by
  apply List.ext_getElem?
  intro i
  by_cases hi : i < A.1.length
  · have hg : A.1[i]? = some A.1[i] := List.getElem?_eq_getElem hi
    have hg' : A'.1[i]? = some A.1[i] := by rw [hs, List.getElem?_append_left hi]; exact hg
    rw [zWo_get hg', List.getElem?_append_left (by rw [zWo_len]; exact hi), zWo_get hg, ho i hi]
  · by_cases h2 : i = A.1.length
    · subst h2
      have hg' : A'.1[A.1.length]? = some (t, n) := by rw [hs]; simp
      rw [zWo_get hg', List.getElem?_append_right (by rw [zWo_len]; omega), zWo_len, Nat.sub_self, he]
      rfl
    · rw [List.getElem?_eq_none (by simp [zWo_len]; omega), List.getElem?_eq_none (by rw [zWo_len, hs]; simp; omega)]
theorem zEnt_up {base : Nat} {tc : Nat → ClassId} {t n i c k : Nat} {v : Int} {G : List (List Nat)} {M : Nat → Nat → Int} (h : i ≠ c) : zEnt base tc t n G (zup M c k v) i = zEnt base tc t n G M i := by
  have e : ∀ j, zup M c k v i j = M i j := fun j => if_neg (fun q => h q.1)
  have e2 : zfv base G (zup M c k v) (t - 10) i = zfv base G M (t - 10) i := by
    funext j
    unfold zfv
    simp only [e]
  unfold zEnt
  simp only [e, e2]
theorem zEnt_cpy {base : Nat} {tc : Nat → ClassId} {t n i c a sp dp k : Nat} {G : List (List Nat)} {M : Nat → Nat → Int} (h : i ≠ c) : zEnt base tc t n G (zcpy M a sp c dp k) i = zEnt base tc t n G M i := by
  have e : ∀ j, zcpy M a sp c dp k i j = M i j := fun j => if_neg (fun q => h q.1)
  have e2 : zfv base G (zcpy M a sp c dp k) (t - 10) i = zfv base G M (t - 10) i := by
    funext j
    unfold zfv
    simp only [e]
  unfold zEnt
  simp only [e, e2]
theorem zgld_st {G : List (List Nat)} {a i v b j : Nat} (ha : a < G.length) (hi : i < (G.getD a []).length) : zgld (zgst G a i v) b j = if b = a ∧ j = i then v else zgld G b j := by
  unfold zgld zgst
  by_cases hb : b = a
  · subst hb
    rw [List.getD_eq_getElem?_getD (l := G.set _ _), List.getElem?_set_self ha]
    simp only [Option.getD_some]
    by_cases hj : j = i
    · subst hj
      rw [List.getD_eq_getElem?_getD, List.getElem?_set_self hi]
      simp
    · rw [List.getD_eq_getElem?_getD, List.getElem?_set_ne (Ne.symm hj), if_neg (fun q => hj q.2), List.getD_eq_getElem?_getD (l := G.getD b [])]
  · rw [List.getD_eq_getElem?_getD (l := G.set _ _), List.getElem?_set_ne (Ne.symm hb), if_neg (fun q => hb q.1), ← List.getD_eq_getElem?_getD]
theorem zEnt_gst {base : Nat} {tc : Nat → ClassId} {t n i c k v : Nat} {G : List (List Nat)} {M : Nat → Nat → Int} (hc : c < G.length) (hk : k < (G.getD c []).length) (h : i ≠ c) : zEnt base tc t n (zgst G c k v) M i = zEnt base tc t n G M i := by
  have e : ∀ j, zgld (zgst G c k v) i j = zgld G i j := fun j => by rw [zgld_st hc hk]; exact if_neg (fun q => h q.1)
  have e2 : zfv base (zgst G c k v) M (t - 10) i = zfv base G M (t - 10) i := by
    funext j
    unfold zfv
    simp only [e]
  unfold zEnt
  simp only [e, e2]
theorem i32_in (x : Int32) : in32 x.toInt := by
  have h1 := Int32.le_toInt x
  have h2 := Int32.toInt_lt x
  unfold in32
  omega
theorem w32_in (x : Int) : in32 (w32 x) := i32_in _
theorem i64_in (x : Int64) : in64 x.toInt := by
  have h1 := Int64.le_toInt x
  have h2 := Int64.toInt_lt x
  unfold in64
  omega
theorem i32_of {x : Int} (h : in32 x) : (Int32.ofInt x).toInt = x := Int32.toInt_ofInt_of_le (by have := h.1; omega) (by have := h.2; omega)
theorem i64_of {x : Int} (h : in64 x) : (Int64.ofInt x).toInt = x := Int64.toInt_ofInt_of_le (by have := h.1; omega) (by have := h.2; omega)
