/-! What was there before stays; arguments are locals; a call by its run. -/
theorem zAL_spec {args : Array Value} {first s : State} {o : Option Outcome} {idx : List Nat} {t : FieldType} (h : (Jvm.Cond.arrayOver (.array t)).holds args first o s idx = true) :
    ∃ comp c k, s.vm.findClass (FieldType.array t).toString = some comp ∧ (s.vm.classes.findIdx? fun x => match x.kind with | .array component _ => component == comp | _ => false) = some c ∧ s.vm.classes[c]? = some k ∧ k.kind = .array comp (.array t) ∧
      s.vm.findClass ("[" ++ (FieldType.array t).toString) = some c := by
  simp only [Cond.holds, Cond.value, beq_iff_eq] at h
  cases hc : s.vm.findClass (FieldType.array t).toString with
  | none => simp [hc] at h
  | some comp =>
    simp only [hc, Option.bind_some, Option.bind_eq_some_iff, Option.map_eq_some_iff] at h
    obtain ⟨c, hi, k, hk, hb⟩ := h
    obtain ⟨hlt, hp, -⟩ := Array.findIdx?_eq_some_iff_getElem.mp hi
    have hkk : s.vm.classes[c] = k := (Array.getElem?_eq_some_iff.mp hk).2
    rw [hkk] at hp
    cases hkind : k.kind with
    | array component ty =>
      rw [hkind] at hb hp
      simp at hb hp
      exact ⟨comp, c, k, rfl, hi, hk, by rw [hkind, hp, hb.1], hb.2⟩
    | _ => rw [hkind] at hb; simp at hb
theorem zAL_moved {t : FieldType} {u U : State} (hvm : u.vm.Alike U.vm) (h : (Jvm.Cond.arrayOver (.array t)).before #[] u = true) : (Jvm.Cond.arrayOver (.array t)).before #[] U = true := by
  obtain ⟨comp, c, k, h1, h2, h3, h4, h5⟩ := zAL_spec h
  obtain ⟨k', hk', he⟩ := hvm.2.2 _ _ h3
  have h6 : ∀ F : Class → Bool, U.vm.bare.classes.findIdx? F = u.vm.bare.classes.findIdx? F := fun F => by first | rw [hvm.bare_eq] | rw [← hvm.bare_eq]
  have hi : (U.vm.classes.findIdx? fun (x : Class) => match x.kind with | .array component _ => component == comp | _ => false) = some c := (va_idx_bare U.vm comp).symm.trans ((h6 _).trans ((va_idx_bare u.vm comp).trans h2))
  have hkind : k'.kind = .array comp (.array t) := by rw [he]; exact h4
  have f1 : U.vm.findClass (FieldType.array t).toString = some comp := by rw [hvm.findClass]; exact h1
  have f2 : U.vm.findClass ("[" ++ (FieldType.array t).toString) = some c := by rw [hvm.findClass]; exact h5
  unfold Cond.before Cond.holds
  simp only [Cond.value]
  rw [f1, Option.bind_some]
  refine (congrArg (fun o : Option Nat => (o.bind (fun c => (U.vm.classes[c]?).map fun (k : Class) => match k.kind with | .array _ ty => decide (ty = FieldType.array t) && decide (U.vm.findClass ("[" ++ (FieldType.array t).toString) = some c) | _ => false) == some true)) hi).trans ?_
  simp [hk', hkind, f2]
theorem zNw_warm {w : Jvm.Cond} (hw : zisN w = true) {s U : State} (hW : s.WarmedH U.vm) (h : va_Nw w s) : va_Nw w U := by
  unfold zisN at hw
  split at hw
  · exact va_Nw.warmM hW h
  · exact va_Nw.warmF hW h
  · cases hw
theorem zNw_same {w : Jvm.Cond} (hw : zisN w = true) {s U : State} (hv : U.vm = s.vm) (h : va_Nw w s) : va_Nw w U := by
  unfold zisN at hw
  split at hw
  · exact va_Nw.same rfl hv.symm h
  · exact va_Nw.same rfl hv.symm h
  · cases hw
theorem zNW_is {w : Jvm.Cond} (h : w ∈ zNW) : zisN w = true := (List.mem_filter.mp h).2
section ZEV
variable {D : va_G} {tc : Nat → ClassId} {base b : Nat} {sc : zSc} {fmt : Value} {adK adV : Nat → Nat}
theorem zEv_kept {U : State} {H H1 : Heap} (h : zEv D tc base b sc fmt adK adV U H) (hz : H.size ≤ H1.size) (hk : ∀ q : Nat, q < H.size → ¬ base ≤ q → H1[q]? = H[q]?) : zEv D tc base b sc fmt adK adV U H1 := by
  obtain ⟨h1, ⟨xs, h2, h2'⟩, ⟨h3, h3', h3''⟩, h4, h5, h6, h7⟩ := h
  exact ⟨h1, ⟨xs, h2.kept (hk b h3' (Nat.not_le.mpr h3)), h2'⟩, ⟨h3, by omega, h3''⟩, fun i hi => ⟨(h4 i hi).1.kept hk, (h4 i hi).2⟩, h5.kept hk, h6.kept hk, h7⟩
theorem zEv_warm {s U : State} {H : Heap} (hW : s.WarmedH U.vm) (h : zEv D tc base b sc fmt adK adV s H) : zEv D tc base b sc fmt adK adV U H := by
  obtain ⟨h1, ⟨xs, h2, h2'⟩, h3, h4, h5, h6, h7, h8, h9, h10⟩ := h
  have hvm := hW.alike
  exact ⟨va_K.moved hvm h1, ⟨xs, h2.moved hvm, h2'⟩, h3, fun i hi => ⟨(h4 i hi).1.moved hvm, (h4 i hi).2.warm hW⟩, h5.moved hvm, h6.moved hvm, h7, fun w hw => zNw_warm (zNW_is hw) hW (h8 w hw), h9.moved hvm, zAL_moved hvm h10⟩
theorem zEv_same {s U : State} {H : Heap} (hv : U.vm = s.vm) (h : zEv D tc base b sc fmt adK adV s H) : zEv D tc base b sc fmt adK adV U H := by
  obtain ⟨h1, ⟨xs, h2, h2'⟩, h3, h4, h5, h6, h7, h8, h9, h10⟩ := h
  have hvm : s.vm.Alike U.vm := by rw [hv]; exact Vm.Alike.refl s.vm
  exact ⟨va_K.moved hvm h1, ⟨xs, h2.moved hvm, h2'⟩, h3, fun i hi => ⟨(h4 i hi).1.moved hvm, (h4 i hi).2.same hv⟩, h5.moved hvm, h6.moved hvm, h7, fun w hw => zNw_same (zNW_is hw) hv (h8 w hw), h9.moved hvm, zAL_moved hvm h10⟩
end ZEV
/-- arguments as locals -/
theorem zarg_mem {base : Nat} {X : Nat → Value} (hX : zXok X) : ∀ (as : List zV) (k i : Nat) (v : zV), (zarg0 as)[i]? = some (some v) → (k + i, zval base X v) ∈ lv_args k (as.map (zval base X)) ∧ v ∈ as
  | [], _, i, v, h => by simp [zarg0] at h
  | a :: as, k, i, v, h => by
    rw [List.map_cons]
    show _ ∈ (k, zval base X a) :: lv_args (if (zval base X a).category = 2 then k + 2 else k + 1) (as.map (zval base X)) ∧ _
    rw [zval_cat hX]
    unfold zarg0 at h
    by_cases hc : zcat a = 2
    · rw [if_pos hc] at h ⊢
      match i, h with
      | 0, h => cases h; exact ⟨List.mem_cons_self, List.mem_cons_self⟩
      | 1, h => cases h
      | i + 2, h =>
        obtain ⟨h1, h2⟩ := zarg_mem hX as (k + 2) i v h
        rw [show k + (i + 2) = k + 2 + i by omega]
        exact ⟨List.mem_cons_of_mem _ h1, List.mem_cons_of_mem _ h2⟩
    · rw [if_neg hc] at h ⊢
      match i, h with
      | 0, h => cases h; exact ⟨List.mem_cons_self, List.mem_cons_self⟩
      | i + 1, h =>
        obtain ⟨h1, h2⟩ := zarg_mem hX as (k + 1) i v h
        rw [show k + (i + 1) = k + 1 + i by omega]
        exact ⟨List.mem_cons_of_mem _ h1, List.mem_cons_of_mem _ h2⟩
theorem zarg0_c (a : zV) (as : List zV) : zarg0 (a :: as) = if zcat a = 2 then some a :: none :: zarg0 as else some a :: zarg0 as := rfl
theorem zarg_len {base : Nat} {X : Nat → Value} (hX : zXok X) : ∀ (as : List zV), (lg_sl (as.map (zval base X))).length = (zarg0 as).length
  | [] => rfl
  | a :: as => by
    have ih := zarg_len (base := base) hX as
    rw [List.map_cons]
    unfold lg_sl at ih ⊢
    rw [List.flatMap_cons, List.length_append, ih, zval_cat hX, zarg0_c]
    by_cases hc : zcat a = 2
    · rw [if_pos hc, if_pos hc]; simp; omega
    · rw [if_neg hc, if_neg hc]; simp; omega
theorem zarg_lr {base : Nat} {X : Nat → Value} (hX : zXok X) {as : List zV} {ml : Nat} {ls : Array Slot} (hok : ∀ v ∈ as, zokv v) (h : lv_has ls ml (lv_args 0 (as.map (zval base X)))) : zlr base X (zarg ml as) ls ml := by
  refine ⟨h.1, h.2.1, fun i v hi => ?_⟩
  unfold zarg at hi
  by_cases hl : i < (zarg0 as).length
  · rw [List.getElem?_append_left hl] at hi
    obtain ⟨h1, h2⟩ := zarg_mem (base := base) hX as 0 i v hi
    rw [Nat.zero_add] at h1
    exact ⟨h.2.2 _ h1, hok v h2⟩
  · rw [List.getElem?_append_right (by omega), List.getElem?_replicate] at hi
    split at hi <;> cases hi
def zQ (base : Nat) (X : Nat → Value) (D : va_G) (tc : Nat → ClassId) (r : Option zV) (A' : zM) : Array Value → State → Outcome → State → Prop := fun _ st o t =>
  (o = .returned (r.map (zval base X)) ∧ va_P D vwCl (zWo base tc A') t.heap ∧ zMo A' ∧ ∀ v, r = some v → zokv v) ∧ va_F (fun q => base ≤ q) st t
def zPc (D : va_G) (tc : Nat → ClassId) (base b : Nat) (sc : zSc) (fmt : Value) (adK adV : Nat → Nat) (A : zM) (as : List zV) : Array Value → State → Prop :=
  va_Pc (as.map (zval base (zX b fmt adK adV))) (fun U => U.heap.size = base + A.1.length ∧ va_P D vwCl (zWo base tc A) U.heap ∧ zEv D tc base b sc fmt adK adV U U.heap)
theorem zPc_blind {D : va_G} {tc : Nat → ClassId} {base b : Nat} {sc : zSc} {fmt : Value} {adK adV : Nat → Nat} {A : zM} {as : List zV} : FrameBlind (zPc D tc base b sc fmt adK adV A as) := by
  intro a U g mk h
  obtain ⟨h1, h2, h3, h4⟩ := h
  exact ⟨h1, h2, h3, zEv_same (s := U) rfl h4⟩
section ZW9
variable {p : Program} {l : Launch} {e : Env} {R : Room} {s : State} {m : MethodId} {args : Array Value} {below : List Frame} {meth : Method} {c : Code} {H : Heap} {locs : List Loc} {cells slots : Nat} {Q : State → Prop}
variable {D : va_G} {tc : Nat → ClassId} {base b : Nat} {sc : zSc} {fmt : Value} {adK adV : Nat → Nat} {j pc len : Nat} {i : Instr} {ls : Array Slot} {st : List Value}
theorem zW_run {X : Nat → Value} {r : Option zV} {A' : zM} {a : Array Value} {mc ms : Nat} {st0 rest : List Value} (hr : va_Run p l e R s m args below meth c H locs cells slots mc ms (F0 m pc ls st0) rest (zQ base X D tc r A' a) (fun q => base ≤ q)) (hS : va_S (fun q => base ≤ q) s.heap H locs)
    (kk : ∀ (H1 : Heap) (locs1 : List Loc), va_P D vwCl (zWo base tc A') H1 → zMo A' → (∀ v, r = some v → zokv v) → va_S (fun q => base ≤ q) s.heap H1 locs1 → W p l e R s m args below meth c H1 locs1 (cells + mc) (slots + ms) Q (F0 m (pc + 3) ls ((r.map (zval base X)).toList ++ rest))) : W p l e R s m args below meth c H locs cells slots Q (F0 m pc ls st0) := by
  intro T hT X0
  obtain ⟨v, st₀, t, T', L, h0, X', hL, e1, e2, ⟨⟨hv, hp, hM, hok⟩, hz, hk⟩, stp⟩ := hr T hT X0
  cases hv
  rw [h0] at hz hk
  obtain ⟨t2, a1, b1⟩ := kk T'.heap (locs ++ L) (by rw [e1]; exact hp) hM hok ⟨Nat.le_trans hS.1 (by rw [e1]; exact hz), fun q h1 h2 => by rw [e1, hk q (Nat.lt_of_lt_of_le h1 hS.1) h2]; exact hS.2.1 q h1 h2, fun q hq => by
      rcases List.mem_append.mp hq with h | h
      · exact hS.2.2 q h
      · exact hL q h⟩ T' rfl X'
  exact ⟨t2, stp t2 a1, b1⟩
theorem zH_size {A : zM} {n0 : Nat} (hP : va_P D vwCl (zWo base tc A) H) (hs : s.heap.size = base + n0) (hS : va_S (fun q => base ≤ q) s.heap H locs) (hc : cells + n0 = A.1.length) (hz : H.size ≤ s.heap.size + cells) : H.size = base + A.1.length := by
  by_cases h0 : A.1.length = 0
  · have := hS.1
    omega
  · have hg : A.1[A.1.length - 1]? = some A.1[A.1.length - 1] := List.getElem?_eq_getElem (by omega)
    have h3 : base + (A.1.length - 1) < H.size := (hP _ _ (zWo_get hg)).lt
    omega
end ZW9
