/-! new long[n][k]. -/
def zmm (A : zM) (n k : Nat) : zM := (A.1 ++ [(5, n)] ++ List.replicate n (2, k), A.2.1 ++ [(List.range n).map (fun i => A.1.length + 1 + i)] ++ List.replicate n (List.replicate k 5000), zclrs A.2.2 A.1.length (1 + n))
theorem zmm_at {α : Type} {a : List α} {x y : α} {n i : Nat} : (a ++ [x] ++ List.replicate n y)[i]? = if i < a.length then a[i]? else if i = a.length then some x else if i < a.length + 1 + n then some y else none := by
  by_cases h : i < a.length
  · rw [if_pos h, List.append_assoc, List.getElem?_append_left h]
  · rw [if_neg h]
    by_cases h2 : i = a.length
    · subst h2
      rw [if_pos rfl, List.getElem?_append_left (by simp)]
      simp
    · rw [if_neg h2, List.getElem?_append_right (by simp; omega), List.getElem?_replicate]
      simp only [List.length_append, List.length_cons, List.length_nil]
      by_cases h3 : i < a.length + 1 + n
      · rw [if_pos h3, if_pos (by omega)]
      · rw [if_neg h3, if_neg (by omega)]
theorem zMo_mm {A : zM} (hM : zMo A) {n k : Nat} (h : A.1.length + 1 + n < 5000) : zMo (zmm A n k) := by
  refine ⟨?_, ?_, fun i t' n' hi => ?_⟩
  · simp [zmm, hM.1]
  · simp [zmm]; omega
  · have hi' : (A.1 ++ [(5, n)] ++ List.replicate n (2, k))[i]? = some (t', n') := hi
    show ((A.2.1 ++ [(List.range n).map (fun i => A.1.length + 1 + i)] ++ List.replicate n (List.replicate k 5000)).getD i []).length = n' ∧ ∀ j, zrng t' j (zclrs A.2.2 A.1.length (1 + n) i j)
    rw [List.getD_eq_getElem?_getD]
    rw [zmm_at] at hi' ⊢
    rw [hM.1]
    unfold zclrs
    by_cases h1 : i < A.1.length
    · rw [if_pos h1] at hi' ⊢
      obtain ⟨g1, g2⟩ := hM.2.2 i t' n' hi'
      rw [List.getD_eq_getElem?_getD] at g1
      refine ⟨g1, fun j => ?_⟩
      rw [if_neg (by omega)]
      exact g2 j
    · rw [if_neg h1] at hi' ⊢
      have hz : ∀ j, A.1.length ≤ i ∧ i < A.1.length + (1 + n) → zrng t' j (if A.1.length ≤ i ∧ i < A.1.length + (1 + n) then 0 else A.2.2 i j) := fun j q => by
        rw [if_pos q]
        exact zrng_0
      by_cases h2 : i = A.1.length
      · rw [if_pos h2] at hi' ⊢
        cases hi'
        exact ⟨by simp, fun j => hz j (by omega)⟩
      · rw [if_neg h2] at hi' ⊢
        by_cases h3 : i < A.1.length + 1 + n
        · rw [if_pos h3] at hi' ⊢
          cases hi'
          exact ⟨by simp, fun j => hz j (by omega)⟩
        · rw [if_neg h3] at hi'
          cases hi'
theorem zsl_mm {A : zM} {n k : Nat} : zsl (zmm A n k).1 = zsl A.1 + (n + n * k) := by
  show zsl (A.1 ++ [(5, n)] ++ List.replicate n (2, k)) = _
  rw [zsl_app, zsl_app]
  have e1 : zsl (List.replicate n (2, k)) = n * k := by simp [zsl]
  have e2 : zsl [(5, n)] = n := by simp [zsl]
  omega
theorem zWo_mm {A : zM} (hM : zMo A) {n k base : Nat} {tc : Nat → ClassId} {f : Nat → va_E} {r : Nat → Nat} (h : A.1.length + 1 + n < 5000) (hr : ∀ i, r i = base + A.1.length + 1 + i) :
    (zWo base tc A ++ [(base + A.1.length, .inl (tc 5, n, .inr (.inr (.inr (.inr (fun i => if i < n then some (r i) else none))))))]) ++ va_pl ([] ++ (List.range n).map r) (vr_up f ((List.range n).map r) (.inl (tc 2, (k, .inr (.inl (fun _ => 0)))))) = zWo base tc (zmm A n k) := by
  have hlen : (zmm A n k).1.length = A.1.length + 1 + n := by simp [zmm]; omega
  have hold : ∀ i, i < A.1.length → ∀ j, (zmm A n k).2.2 i j = A.2.2 i j := fun i hi j => by
    show zclrs A.2.2 A.1.length (1 + n) i j = _
    unfold zclrs
    rw [if_neg (by omega)]
  have hnew : ∀ i, A.1.length ≤ i → i < A.1.length + 1 + n → ∀ j, (zmm A n k).2.2 i j = 0 := fun i h1 h2 j => by
    show zclrs A.2.2 A.1.length (1 + n) i j = _
    unfold zclrs
    rw [if_pos (by omega)]
  apply List.ext_getElem?
  intro i
  have hat := zmm_at (a := A.1) (x := (5, n)) (y := (2, k)) (n := n) (i := i)
  by_cases h1 : i < A.1.length
  · rw [if_pos h1] at hat
    have hg : A.1[i]? = some A.1[i] := List.getElem?_eq_getElem h1
    rw [zWo_get (A := zmm A n k) (hat.trans hg), List.append_assoc, List.getElem?_append_left (by rw [zWo_len]; exact h1), zWo_get hg]
    have e1 := zEnt_ap (base := base) (tc := tc) (t := (A.1.get ⟨i, h1⟩).1) (n := (A.1.get ⟨i, h1⟩).2) (G := A.2.1) (G' := [(List.range n).map (fun i => A.1.length + 1 + i)] ++ List.replicate n (List.replicate k 5000)) (M := A.2.2) (M' := (zmm A n k).2.2) (i := i) (by rw [hM.1]; exact h1) (hold i h1)
    rw [← List.append_assoc] at e1
    exact congrArg (fun z => some (base + i, z)) e1.symm
  · rw [if_neg h1] at hat
    by_cases h2 : i = A.1.length
    · rw [if_pos h2] at hat
      rw [zWo_get (A := zmm A n k) hat, List.getElem?_append_left (by simp [zWo_len]; omega), List.getElem?_append_right (by rw [zWo_len]; omega), zWo_len, h2, Nat.sub_self]
      show some (base + A.1.length, _) = some (base + A.1.length, _)
      congr 2
      unfold zEnt
      rw [if_neg (by omega), if_neg (by omega), if_pos (by omega)]
      congr 5
      congr 2
      funext z
      have e5 : zgld (zmm A n k).2.1 A.1.length z = if z < n then A.1.length + 1 + z else 5000 := by
        show ((A.2.1 ++ [(List.range n).map (fun i => A.1.length + 1 + i)] ++ List.replicate n (List.replicate k 5000)).getD A.1.length []).getD z 5000 = _
        rw [List.getD_eq_getElem?_getD (l := _ ++ _ ++ _), zmm_at, hM.1, if_neg (by omega), if_pos rfl]
        show ((List.range n).map (fun i => A.1.length + 1 + i)).getD z 5000 = _
        rw [List.getD_eq_getElem?_getD]
        by_cases hz : z < n
        · rw [zmap_at hz, if_pos hz]; rfl
        · rw [List.getElem?_eq_none (by simp; omega), if_neg hz]; rfl
      rw [e5]
      unfold zro
      by_cases hz : z < n
      · rw [if_pos hz, if_pos hz, if_pos (by omega), hr]
        congr 1
        omega
      · rw [if_neg hz, if_neg hz, if_neg (by omega)]
    · rw [if_neg h2] at hat
      by_cases h3 : i < A.1.length + 1 + n
      · rw [if_pos h3] at hat
        rw [zWo_get (A := zmm A n k) hat, List.getElem?_append_right (by simp [zWo_len]; omega)]
        have el : (zWo base tc A ++ [(base + A.1.length, (.inl (tc 5, n, .inr (.inr (.inr (.inr (fun i => if i < n then some (r i) else none))))) : va_E))]).length = A.1.length + 1 := by simp [zWo_len]
        rw [el]
        unfold va_pl
        have hin : i - (A.1.length + 1) < n := by omega
        rw [List.nil_append, List.getElem?_map, zmap_at hin]
        show some (r (i - (A.1.length + 1)), _) = _
        rw [vr_up_in (List.mem_map.mpr ⟨_, List.mem_range.mpr hin, rfl⟩), hr, zEnt_n2 (hnew i (by omega) h3)]
        rw [show base + A.1.length + 1 + (i - (A.1.length + 1)) = base + i by omega]
      · rw [List.getElem?_eq_none (by simp [zWo_len, va_pl]; omega), List.getElem?_eq_none (by rw [zWo_len, hlen]; omega)]
section ZW7
variable {p : Program} {l : Launch} {e : Env} {R : Room} {s : State} {m : MethodId} {args : Array Value} {below : List Frame} {meth : Method} {c : Code} {H : Heap} {locs : List Loc} {cells slots : Nat} {Q : State → Prop}
variable {D : va_G} {tc : Nat → ClassId} {base b : Nat} {sc : zSc} {fmt : Value} {adK adV : Nat → Nat} {j pc len : Nat} {i : Instr} {ls : Array Slot} {st : List Value}
theorem zW_mna {A : zM} {idx n0 : Nat} {n k : Int} {e2 : Nat × Nat} (F : zFr p s m args meth c j) (E : zEv D tc base b sc fmt adK adV s s.heap) (hP : va_P D vwCl (zWo base tc A) H) (hM : zMo A) (hS : va_S (fun q => base ≤ q) s.heap H locs) (hs : s.heap.size = base + n0) (hc : cells + n0 = A.1.length) (hl5 : A.1.length + 1 + n.toNat < 5000) (hd : decode (zcode j) pc = .ok (.multianewarray idx 2, 4)) (he : (zK2 (zcls j)).find? (fun e => e.1 == idx) = some e2) (h0 : 0 ≤ n) (h1 : n ≤ 1000) (h0k : 0 ≤ k) (h1k : k ≤ 1000)
    (hcells : cells + (1 + n.toNat) ≤ R.cells) (hslots : slots + (n.toNat + n.toNat * k.toNat) ≤ R.slots) (hlow : 0 < A.1.length)
    (kk : ∀ (H1 : Heap), va_P D vwCl (zWo base tc (zmm A n.toNat k.toNat)) H1 → va_S (fun q => base ≤ q) s.heap H1 locs → W p l e R s m args below meth c H1 locs (cells + 1 + n.toNat) (slots + n.toNat + n.toNat * k.toNat) Q (F0 m (pc + 4) ls (zval base (zX b fmt adK adV) (.inr (.inr A.1.length)) :: st))) : W p l e R s m args below meth c H locs cells slots Q (F0 m pc ls (zval base (zX b fmt adK adV) (.inl k) :: zval base (zX b fmt adK adV) (.inl n) :: st)) := by
  obtain ⟨hx, hb, hml, hown, hts, hin⟩ := F
  have hn32 : in32 n := ⟨by omega, by omega⟩
  have hk32 : in32 k := ⟨by omega, by omega⟩
  have z0 : (0 : Int32).toInt = 0 := rfl
  have hnn : ¬ Int32.ofInt n < 0 := fun z => by
    rw [Int32.lt_iff_toInt_lt, i32_of hn32, z0] at z
    omega
  have hkn : ¬ Int32.ofInt k < 0 := fun z => by
    rw [Int32.lt_iff_toInt_lt, i32_of hk32, z0] at z
    omega
  have hac := zAC_ok
  simp only [Bool.and_eq_true] at hac
  refine W_sz fun hz0 => ?_
  have hsz : H.size = base + A.1.length := by
    have hg : A.1[A.1.length - 1]? = some A.1[A.1.length - 1] := List.getElem?_eq_getElem (by omega)
    have := (hP _ _ (zWo_get hg)).lt
    have h3 : base + (A.1.length - 1) < H.size := this
    omega
  have hP' : va_P D vwCl (zWo base tc A ++ va_pl [] (fun _ => .inr (0, []))) H := by
    rw [show va_pl [] (fun _ => (.inr (0, []) : va_E)) = [] from rfl, List.append_nil]; exact hP
  have hD' : va_D (fun q => base ≤ q) (zWo base tc A ++ va_pl [] (fun _ => .inr (0, []))) := by
    rw [show va_pl [] (fun _ => (.inr (0, []) : va_E)) = [] from rfl, List.append_nil]; exact zWo_D
  have hw := hts _ (zK2_w he)
  refine va_mna (ty := .long) (cy := tc 2) (z := (k.toNat, .inr (.inl (fun _ => 0)))) hx hb hown (by rw [show "[" ++ (FieldType.array .long).toString = "[[J" by decide +kernel]; exact hw) E.2.2.2.2.2.2.2.2.2 (hts _ (zat_in hac.1.2)) (E.1.2 2 _ rfl).2 E.1 hP' hD' hS (fun q hq => by show base ≤ q; omega) hnn hkn (clampI hn32) (clampI hk32) (by omega) (by show k.toNat * 8 ≤ _; omega) (by omega) rfl rfl hcells hslots (fun cc => ?_) hd ?_
  · show ({ cls := cc, slots := Array.replicate k.toNat (.long 0), vm := .none } : Cell) = _
    rw [arrV_new]
    rfl
  · intro q r cA H1 hq hr hri hrL k1 a1 a2 a3
    rw [ztc_eq5 E k1] at a1
    rw [hsz] at hq
    have hr' : ∀ i, r i = base + A.1.length + 1 + i := fun i => by rw [hr i, hsz]
    subst hq
    rw [zWo_mm hM hl5 hr'] at a1
    have := kk H1 a1 a3
    rw [show zval base (zX b fmt adK adV) (.inr (.inr A.1.length)) = .ref (base + A.1.length) from zref_own (by omega)] at this
    exact this
end ZW7
