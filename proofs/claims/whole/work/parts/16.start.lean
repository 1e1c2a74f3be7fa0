/-! The start: what the Statement gives is what a run of zex begins with. -/
def zfl : List Jvm.Cond := flatC (Jvm.Cond.and given_1 narrow_1)
def zfp : List Nat := [9, 18, 29, 38, 45, 53, 63, 69, 77, 86, 94, 100, 107, 116, 125, 137, 147, 159, 169, 177, 186, 197, 206, 215, 228, 235, 245, 252, 260, 270]
def zsp : List Nat := [2149, 2210, 2215, 2216, 2217, 2218, 2223, 2224, 2229, 2230, 2235, 2236, 2237, 3002, 3003, 6093, 6112, 6121, 6122, 6123, 6128, 6129, 6130, 6131, 6144, 6145, 6150, 6151, 6152, 6153]
def zstr (i : Nat) : Jvm.Term := Jvm.Term.string (zSTi i).1 (zSTi i).2.1
set_option maxRecDepth 100000 in
theorem zfl_ok : (List.range 30).all (fun i => decide (zfl[zfp.getD i 0]? = some (.exactly (zstr i) "java/lang/String")) && decide (zfl[zfp.getD i 0 + 1]? = some (.eq (.field (zstr i) "java/lang/String" "coder" "B") (.int 0))) && decide (zfl[zfp.getD i 0 + 2]? = some (.arrayOf (.field (zstr i) "java/lang/String" "value" "[B") .byte)) && decide (zfl[zfp.getD i 0 + 3]? = some (.eq (.length (.field (zstr i) "java/lang/String" "value" "[B")) (.int (Int32.ofNat (zBYi i).length)))) &&
  (List.range (zBYi i).length).all (fun j => decide (zfl[zfp.getD i 0 + 4 + j]? = some (.eq (.elem (.field (zstr i) "java/lang/String" "value" "[B") (.int (Int32.ofNat j))) (.int ((zBYi i).getD j 0)))))) = true := by decide +kernel
set_option maxRecDepth 100000 in
theorem zfl_st : zfl[4]? = some (.eq (.static "java/lang/String" "COMPACT_STRINGS" "Z") (.int 1)) ∧ zfl[5]? = some (.isRef (.static "jdk/internal/util/Preconditions" "SIOOBE_FORMATTER" "Ljava/util/function/BiFunction;")) := ⟨by decide +kernel, by decide +kernel⟩
set_option maxRecDepth 100000 in
theorem zsp_ok : (List.range 30).all (fun i => decide ((zTb (zsp.getD i 0 / 1000))[zsp.getD i 0 % 1000]? = some (.stringRef (zSTi i).1 (zSTi i).2.1 (zSTi i).2.2)) && decide ((zBYi i).length < 100)) = true := by decide +kernel
set_option maxRecDepth 100000 in
theorem zls_ok : ((zTb (2167 / 1000))[2167 % 1000]? = some (.laysStatic "java/lang/String" "COMPACT_STRINGS" "Z") ∧ (zTb (2183 / 1000))[2183 % 1000]? = some (.laysStatic "jdk/internal/util/Preconditions" "SIOOBE_FORMATTER" "Ljava/util/function/BiFunction;")) ∧ ((zTb (1012 / 1000))[1012 % 1000]? = some (.initialized "java/lang/String") ∧ (zTb (1014 / 1000))[1014 % 1000]? = some (.initialized "jdk/internal/util/Preconditions")) := ⟨⟨by decide +kernel, by decide +kernel⟩, ⟨by decide +kernel, by decide +kernel⟩⟩
theorem zTb_at {p : Nat} {w : Jvm.Cond} (h : (zTb (p / 1000))[p % 1000]? = some w) : w ∈ lw_tbl := zTb_in _ _ (List.mem_of_getElem? h)
theorem zgw_tbl {w : Jvm.Cond} (h : w ∈ zGW) : w ∈ lw_tbl := (List.mem_filter.mp h).1
section ZST
variable {s : State} {args : Array Value}
theorem z_K (hts : ∀ w ∈ lw_tbl, w.before args s = true) : ∃ (D : va_G) (tc : Nat → ClassId), va_K D vwCl (ztys tc) s := by
  have h0 : ∀ k : Nat, ∃ q : ClassId × (Nat → Nat), k < 9 → u_Kn s (zRNi k) (zTX k) (zNF k) q.1 q.2 := fun k => by
    by_cases hk : k < 9
    · obtain ⟨cC, iS, h⟩ := u_known (C := zRNi k) (T := zTX k) (N := zNF k) hts (fun w hw => zgw_tbl (zY_in hk w hw)) (hts _ (zgw_tbl (zI_w hk).1))
      exact ⟨(cC, iS), fun _ => h⟩
    · exact ⟨(0, fun _ => 0), fun h => absurd h hk⟩
  obtain ⟨f, hf⟩ := Classical.axiomOfChoice h0
  have hac := zAC_ok
  simp only [Bool.and_eq_true] at hac
  have pr : ∀ t : FieldType, (∀ C, t ≠ .object C) → (Jvm.Cond.arrayClass t).before args s = true → ∃ cA, ArrOfT s cA t ∧ va_RA s cA t := fun t ht h => by
    obtain ⟨cA, kA, comp, h1, h2, h3⟩ := Cond.arrayClass_spec h
    refine ⟨cA, fun n z => ⟨(fun q hq => by cases hq), kA, h2, comp, h3⟩, ?_⟩
    cases t <;> first | exact h1 | exact absurd rfl (ht _)
  obtain ⟨c0, a0, b0⟩ := pr .int (fun _ h => by cases h) (hts _ (zgw_tbl (zat_in hac.1.1.1)))
  obtain ⟨c1, a1, b1⟩ := pr .byte (fun _ h => by cases h) (hts _ (zgw_tbl (zat_in hac.1.1.2)))
  obtain ⟨c2, a2, b2⟩ := pr .long (fun _ h => by cases h) (hts _ (zgw_tbl (zat_in hac.1.2)))
  obtain ⟨c3, a3, b3⟩ := pr .boolean (fun _ h => by cases h) (hts _ (zgw_tbl (zat_in hac.2)))
  obtain ⟨m4, c4, k4, g1, -, g3, g4, g5⟩ := Cond.arrayOver_spec (hts _ (zTb_at zAO_ok.1))
  obtain ⟨m5, c5, k5, e1, -, e3, e4, e5⟩ := zAL_spec (hts _ (zTb_at zAO_ok.2))
  refine ⟨(fun k => (f k).1, fun k => (f k).2), fun t => match t with | 0 => c0 | 1 => c1 | 2 => c2 | 3 => c3 | 4 => c4 | _ => c5, ⟨fun k q hq => ?_, fun k q hq => ?_⟩⟩
  · have hk : k < 9 := (List.getElem?_eq_some_iff.mp hq).1
    have := (zVW_ok k hk).symm.trans hq
    cases this
    exact hf k hk
  · match k, hq with
    | 0, hq => cases hq; exact ⟨a0, b0⟩
    | 1, hq => cases hq; exact ⟨a1, b1⟩
    | 2, hq => cases hq; exact ⟨a2, b2⟩
    | 3, hq => cases hq; exact ⟨a3, b3⟩
    | 4, hq => cases hq; exact ⟨fun n z => ⟨(fun q hq => by cases hq), k4, g3, m4, g4⟩, ⟨k4, m4, g3, g4, g1, g5⟩⟩
    | 5, hq => cases hq; exact ⟨fun n z => ⟨(fun q hq => by cases hq), k5, e3, m5, e4⟩, e5⟩
    | k + 6, hq => simp [ztys] at hq
theorem z_str (hts : ∀ w ∈ lw_tbl, w.before args s = true) (hg : ∀ c ∈ zfl, c.before args s = true) : ∃ adK adV : Nat → Nat, ∀ i, i < 30 → vk_S 1 [(zBYi i).length] [zBYi i] (fun _ => adK i) (fun _ => adV i) (fun q => s.heap.size ≤ q) s s.heap ∧ vk_R (zSTi i).1 (zSTi i).2.1 (zSTi i).2.2 (adK i) s := by
  have h0 : ∀ i : Nat, ∃ q : Nat × Nat, i < 30 → vk_S 1 [(zBYi i).length] [zBYi i] (fun _ => q.1) (fun _ => q.2) (fun q => s.heap.size ≤ q) s s.heap ∧ vk_R (zSTi i).1 (zSTi i).2.1 (zSTi i).2.2 q.1 s := fun i => by
    by_cases hi : i < 30
    · have h1 := List.all_eq_true.mp zfl_ok i (List.mem_range.mpr hi)
      have h2 := List.all_eq_true.mp zsp_ok i (List.mem_range.mpr hi)
      simp only [Bool.and_eq_true, decide_eq_true_eq] at h1 h2
      obtain ⟨⟨⟨⟨q1, q2⟩, q3⟩, q4⟩, q5⟩ := h1
      have hb : ∀ {w : Jvm.Cond} {p : Nat}, zfl[p]? = some w → w.before args s = true := fun h => hg _ (List.mem_of_getElem? h)
      obtain ⟨aK, aV, hV, ht⟩ := vk_Sof (args := args) (s := s) (N := 1) (tm := fun _ => zstr i) (len := [(zBYi i).length]) (byt := [zBYi i]) (A := fun q => s.heap.size ≤ q)
        (fun k hk => by obtain rfl : k = 0 := by omega
                        show (zBYi i).length < 2 ^ 31
                        omega)
        (fun k hk => hb q1) (fun k hk => hb q2) (fun k hk => hb q3)
        (fun k hk => by obtain rfl : k = 0 := by omega
                        exact hb q4)
        (fun k hk j hj => by
          obtain rfl : k = 0 := by omega
          have h5 := List.all_eq_true.mp q5 j (List.mem_range.mpr hj)
          rw [decide_eq_true_eq] at h5
          exact hb h5)
        (fun a c ha hc hac => absurd (by omega) hac) (fun a ha => Nat.not_le.mpr ha)
      refine ⟨(aK 0, aV 0), fun _ => ⟨⟨fun k hk => ?_, fun a c ha hc _ => by omega⟩, ?_⟩⟩
      · obtain rfl : k = 0 := by omega
        exact hV.1 0 hk
      · refine vk_R.of (hts _ (zTb_at h2.1)) (ht 0 (by omega))
    · exact ⟨(0, 0), fun h => absurd h hi⟩
  obtain ⟨f, hf⟩ := Classical.axiomOfChoice h0
  exact ⟨fun i => (f i).1, fun i => (f i).2, hf⟩
end ZST
