/-! Steps over the stack and the locals. -/
theorem zfind {α : Type} {l : List α} {p : α → Bool} {e : α} (h : l.find? p = some e) : e ∈ l ∧ p e = true := ⟨List.mem_of_find?_eq_some h, List.find?_some h⟩
theorem zCK_w {C idx : Nat} {e : Nat × Int × Nat} (h : (zCK C).find? (fun e => e.1 == idx) = some e) : Jvm.Cond.constant (zRNi C) idx (Int32.ofInt e.2.1) ∈ zGW := by
  obtain ⟨h1, h2⟩ := zfind h
  have h4 := List.all_eq_true.mp (zCK_ok C) e h1
  have h3 : e.1 = idx := by simpa using h2
  rw [← h3]
  exact zat_in h4
theorem zJK_w {C idx : Nat} {e : Nat × Int × Nat} (h : (zJK C).find? (fun e => e.1 == idx) = some e) : Jvm.Cond.constantLong (zRNi C) idx (Int64.ofInt e.2.1) ∈ zGW := by
  obtain ⟨h1, h2⟩ := zfind h
  have h4 := List.all_eq_true.mp (zJK_ok C) e h1
  have h3 : e.1 = idx := by simpa using h2
  rw [← h3]
  exact zat_in h4
def zNW : List Jvm.Cond := lw_tbl.filter zisN
theorem zatN_in {p : Nat} {w : Jvm.Cond} (h : zatN p w = true) : w ∈ zNW := by
  unfold zatN at h
  rw [Bool.and_eq_true, decide_eq_true_eq] at h
  exact List.mem_filter.mpr ⟨zTb_in _ _ (List.mem_of_getElem? h.1), h.2⟩
/-- what a frame of method j stands on -/
def zFr (p : Program) (s : State) (m : MethodId) (args : Array Value) (meth : Method) (c : Code) (j : Nat) : Prop :=
  p.tables.exec = Jvm.exec ∧ c.code = zcode j ∧ c.maxLocals = zml j ∧ s.vm.findClass (zRNi (zcls j)) = some m.cls ∧ (∀ w ∈ zGW, w.before args s = true) ∧ ((zy j).name = "<init>" → meth.name = "<init>")
def zSTi (i : Nat) : String × Nat × String := zST.getD i ("", 0, "")
def zBYi (i : Nat) : List Int32 := zBY.getD i []
/-- what was there before: the script, the literals, two statics -/
def zEv (D : va_G) (tc : Nat → ClassId) (base b : Nat) (sc : zSc) (fmt : Value) (adK adV : Nat → Nat) (U : State) (H : Heap) : Prop :=
  va_K D vwCl (ztys tc) U ∧ (∃ xs : Nat → Int32, va_X b (sc.1 - 1) xs U H ∧ ∀ i, (xs i).toInt = sc.2 i) ∧ (b < base ∧ b < H.size ∧ sc.1 - 1 < 2 ^ 31) ∧
  (∀ i, i < 30 → vk_S 1 [(zBYi i).length] [zBYi i] (fun _ => adK i) (fun _ => adV i) (fun q => base ≤ q) U H ∧ vk_R (zSTi i).1 (zSTi i).2.1 (zSTi i).2.2 (adK i) U) ∧
  va_Z "java/lang/String" "COMPACT_STRINGS" "Z" (.int 1) (fun q => base ≤ q) U H ∧
  va_Z "jdk/internal/util/Preconditions" "SIOOBE_FORMATTER" "Ljava/util/function/BiFunction;" fmt (fun q => base ≤ q) U H ∧
  (fmt = .null ∨ ∃ a, fmt = .ref a) ∧ (∀ w ∈ zNW, va_Nw w U) ∧ va_AO "LeashedNames$Image" U ∧ (Jvm.Cond.arrayOver (.array .long)).before #[] U = true
theorem zX_ok {b : Nat} {fmt : Value} {adK adV : Nat → Nat} (h : fmt = .null ∨ ∃ a, fmt = .ref a) : zXok (zX b fmt adK adV) := by
  refine ⟨rfl, fun c => ?_⟩
  unfold zX
  split
  · exact Or.inl rfl
  split
  · exact Or.inr ⟨_, rfl⟩
  split
  · exact h
  split
  · exact Or.inr ⟨_, rfl⟩
  · exact Or.inr ⟨_, rfl⟩
theorem zvi (base : Nat) (X : Nat → Value) (x : Int32) : zval base X (.inl x.toInt) = .int x := by
  show Value.int (Int32.ofInt x.toInt) = _
  rw [Int32.ofInt_toInt]
theorem zvl (base : Nat) (X : Nat → Value) (x : Int64) : zval base X (.inr (.inl x.toInt)) = .long x := by
  show Value.long (Int64.ofInt x.toInt) = _
  rw [Int64.ofInt_toInt]
theorem zeq0 {x : Int} (h : in32 x) : Int32.ofInt x = 0 ↔ x = 0 := by
  rw [← Int32.toInt_inj, i32_of h]
  rfl
theorem zeqL0 {x : Int} (h : in64 x) : Int64.ofInt x = 0 ↔ x = 0 := by
  rw [← Int64.toInt_inj, i64_of h]
  rfl
theorem zeq32 {x y : Int} (h : in32 x) (h2 : in32 y) : Int32.ofInt x = Int32.ofInt y ↔ x = y := by rw [← Int32.toInt_inj, i32_of h, i32_of h2]
theorem zlt32 {x y : Int} (h : in32 x) (h2 : in32 y) : Int32.ofInt x < Int32.ofInt y ↔ x < y := by rw [Int32.lt_iff_toInt_lt, i32_of h, i32_of h2]
theorem zle32 {x y : Int} (h : in32 x) (h2 : in32 y) : Int32.ofInt x ≤ Int32.ofInt y ↔ x ≤ y := by rw [Int32.le_iff_toInt_le, i32_of h, i32_of h2]
theorem in32_0 : in32 0 := ⟨by decide, by decide⟩
section ZW1
variable {p : Program} {l : Launch} {e : Env} {R : Room} {s : State} {m : MethodId} {args : Array Value} {below : List Frame} {meth : Method} {c : Code} {H : Heap} {locs : List Loc} {cells slots : Nat} {Q : State → Prop}
variable {D : va_G} {tc : Nat → ClassId} {base b : Nat} {sc : zSc} {fmt : Value} {adK adV : Nat → Nat} {j pc len : Nat} {i : Instr} {ls : Array Slot} {st : List Value}
theorem zW_push {v : zV} (F : zFr p s m args meth c j) (E : zEv D tc base b sc fmt adK adV s s.heap) (hS : va_S (fun q => base ≤ q) s.heap H locs) (hd : decode (zcode j) pc = .ok (i, len)) (h : zpush i len (zcls j) = some v)
    (kk : W p l e R s m args below meth c H locs cells slots Q (F0 m (pc + len) ls (zval base (zX b fmt adK adV) v :: st))) : W p l e R s m args below meth c H locs cells slots Q (F0 m pc ls st) := by
  obtain ⟨hx, hb, hml, hown, hts, hin⟩ := F
  unfold zpush at h
  split at h
  · split at h
    · rename_i hl; cases h; subst hl
      exact lv_iconst (v := _) hx hb hd (Int32.ofInt_toInt _).symm kk
    · cases h
  · split at h
    · rename_i hl; cases h; subst hl
      exact lv_bipush hx hb hd (Int32.ofInt_toInt _).symm kk
    · cases h
  · split at h
    · rename_i hl; cases h; subst hl
      exact lv_sipush hx hb hd (Int32.ofInt_toInt _).symm kk
    · cases h
  · split at h
    · rename_i hl; cases h; subst hl
      exact lv_lconst hx hb hd (Int64.ofInt_toInt _).symm kk
    · cases h
  · split at h
    · rename_i hl; subst hl
      split at h
      · rename_i e2 he
        cases h
        refine lv_ldc hx hb hown (hts _ (zCK_w he)) hd ?_
        have := kk
        unfold w32 at this
        rw [zvi] at this
        exact this
      · split at h
        · rename_i e2 he
          cases h
          obtain ⟨h1, h2⟩ := zfind he
          have h4 := List.all_eq_true.mp (zSK_ok (zcls j)) e2 h1
          rw [decide_eq_true_eq] at h4
          have h3 := eq_of_beq h2
          have hi : e2.2.1 < 30 := (List.getElem?_eq_some_iff.mp h4).1
          obtain ⟨-, hR⟩ := E.2.2.2.1 e2.2.1 hi
          have hz : zSTi e2.2.1 = (zRNi (zcls j), e2.1, (zST.getD e2.2.1 ("", 0, "")).2.2) := by
            unfold zSTi
            rw [List.getD_eq_getElem?_getD, h4]
            rfl
          rw [hz, h3] at hR
          refine va_ldcS hx hb hown hR hd ?_
          have e5 : zval base (zX b fmt adK adV) (.inr (.inr (5003 + e2.2.1))) = .ref (adK e2.2.1) := by
            show zref base _ _ = _
            unfold zref zX
            rw [if_neg (by omega), if_neg (by omega), if_neg (by omega), if_neg (by omega), if_pos (by omega)]
            rw [show 5003 + e2.2.1 - 5000 - 3 = e2.2.1 by omega]
          rw [← e5]
          exact kk
        · cases h
    · cases h
  · split at h
    · rename_i hl; subst hl
      split at h
      · rename_i e2 he
        cases h
        refine lv_ldcw hx hb hown (hts _ (zCK_w he)) hd ?_
        have := kk
        unfold w32 at this
        rw [zvi] at this
        exact this
      · cases h
    · cases h
  · split at h
    · rename_i hl; subst hl
      split at h
      · rename_i e2 he
        cases h
        refine lv_ldc2 hx hb hown (hts _ (zJK_w he)) hd ?_
        have := kk
        unfold w64 at this
        rw [zvl] at this
        exact this
      · cases h
    · cases h
  · split at h
    · rename_i hl; subst hl
      split at h
      · rename_i e2 he
        obtain ⟨h1, h2⟩ := zfind he
        have h4 := List.all_eq_true.mp (zGK_ok (zcls j)) e2 h1
        have h3 := eq_of_beq h2
        have h5 := zat_in h4
        split at h
        · rename_i hz
          cases h
          rw [if_pos hz, h3] at h5
          exact va_gets hx hb E.2.2.2.2.1 hS hown (hts _ h5) (fun _ h => h) hd kk
        · rename_i hz
          cases h
          rw [if_neg hz, h3] at h5
          exact va_gets hx hb E.2.2.2.2.2.1 hS hown (hts _ h5) (fun _ h => h) hd kk
      · cases h
    · cases h
  · cases h
theorem zpush_okv {C : Nat} {v : zV} (h : zpush i len C = some v) : zokv v := by
  unfold zpush at h
  split at h
  · split at h
    · cases h; exact i32_in _
    · cases h
  · split at h
    · cases h; exact i32_in _
    · cases h
  · split at h
    · cases h; exact i32_in _
    · cases h
  · split at h
    · cases h; exact i64_in _
    · cases h
  · split at h
    · split at h
      · cases h; exact i32_in _
      · split at h
        · cases h; exact trivial
        · cases h
    · cases h
  · split at h
    · split at h
      · cases h; exact i32_in _
      · cases h
    · cases h
  · split at h
    · split at h
      · cases h; exact i64_in _
      · cases h
    · cases h
  · split at h
    · split at h
      · split at h
        · cases h; exact ⟨by decide, by decide⟩
        · cases h; exact trivial
      · cases h
    · cases h
  · cases h
/-- the locals -/
def zlr (base : Nat) (X : Nat → Value) (L : zL) (ls : Array Slot) (nL : Nat) : Prop := ls.size = nL ∧ lv_wf ls ∧ ∀ (i : Nat) (v : zV), L[i]? = some (some v) → ls[i]? = some (Slot.val (zval base X v)) ∧ zokv v
theorem zlo_get {L : zL} {n : Nat} {v : zV} (h : zlo L n = some v) : L[n]? = some (some v) := by
  unfold zlo at h
  rw [List.getD_eq_getElem?_getD] at h
  cases hq : L[n]? with
  | none => rw [hq] at h; cases h
  | some w => rw [hq] at h; exact congrArg some h
theorem zkind_1 {v : zV} (h : zkind v = 1) : ∃ x, v = .inl x := by
  match v, h with
  | .inl x, _ => exact ⟨x, rfl⟩
  | .inr (.inl x), h => cases h
  | .inr (.inr x), h => cases h
theorem zkind_2 {v : zV} (h : zkind v = 2) : ∃ x, v = .inr (.inl x) := by
  match v, h with
  | .inl x, h => cases h
  | .inr (.inl x), _ => exact ⟨x, rfl⟩
  | .inr (.inr x), h => cases h
theorem zkind_3 {v : zV} (h : zkind v = 3) : ∃ x, v = .inr (.inr x) := by
  match v, h with
  | .inl x, h => cases h
  | .inr (.inl x), h => cases h
  | .inr (.inr x), _ => exact ⟨x, rfl⟩
theorem zW_load {X : Nat → Value} (hX : zXok X) {L : zL} {k n : Nat} {v : zV} (F : zFr p s m args meth c j) (hl : zlr base X L ls (zml j)) (hd : decode (zcode j) pc = .ok (i, len)) (h : zload i len = some (k, n)) (hv : zlo L n = some v) (hk : zkind v = k)
    (kk : W p l e R s m args below meth c H locs cells slots Q (F0 m (pc + len) ls (zval base X v :: st))) : W p l e R s m args below meth c H locs cells slots Q (F0 m pc ls st) := by
  obtain ⟨hx, hb, hml, hown, hts, hin⟩ := F
  obtain ⟨hg, -⟩ := hl.2.2 n v (zlo_get hv)
  unfold zload at h
  split at h
  · split at h
    · rename_i q; cases h; subst q; obtain ⟨x, rfl⟩ := zkind_1 hk
      exact lv_iload_n hx hb hd rfl hg kk
    · cases h
  · split at h
    · rename_i q; cases h; subst q; obtain ⟨x, rfl⟩ := zkind_1 hk
      exact lv_iload hx hb hd hg kk
    · cases h
  · split at h
    · rename_i q; cases h; subst q; obtain ⟨x, rfl⟩ := zkind_2 hk
      exact lv_lload_n hx hb hd rfl hg kk
    · cases h
  · split at h
    · rename_i q; cases h; subst q; obtain ⟨x, rfl⟩ := zkind_2 hk
      exact lv_lload hx hb hd hg kk
    · cases h
  · split at h
    · rename_i q; cases h; subst q; obtain ⟨x, rfl⟩ := zkind_3 hk
      have e1 : zval base X (.inr (.inr x)) = zref base X x := rfl
      rw [e1] at hg kk
      rcases zref_cat (base := base) hX x with h | ⟨a, h⟩ <;> rw [h] at hg kk
      · exact lv_aload_nN hx hb hd rfl hg kk
      · exact lv_aload_n hx hb hd rfl hg kk
    · cases h
  · split at h
    · rename_i q; cases h; subst q; obtain ⟨x, rfl⟩ := zkind_3 hk
      have e1 : zval base X (.inr (.inr x)) = zref base X x := rfl
      rw [e1] at hg kk
      rcases zref_cat (base := base) hX x with h | ⟨a, h⟩ <;> rw [h] at hg kk
      · exact lv_aloadN hx hb hd hg kk
      · exact lv_aload hx hb hd hg kk
    · cases h
  · cases h
/-- the listed locals -/
def zas (base : Nat) (X : Nat → Value) (L : zL) : List (Nat × Value) := (List.range L.length).filterMap (fun i => (L.getD i none).map (fun v => (i, zval base X v)))
theorem zas_mem {X : Nat → Value} {L : zL} {q : Nat × Value} : q ∈ zas base X L ↔ ∃ v, L[q.1]? = some (some v) ∧ q.2 = zval base X v := by
  unfold zas
  rw [List.mem_filterMap]
  constructor
  · rintro ⟨i, hi, h⟩
    rw [List.mem_range] at hi
    rw [List.getD_eq_getElem?_getD, List.getElem?_eq_getElem hi] at h
    cases hv : L[i] with
    | none => rw [hv] at h; cases h
    | some v =>
      rw [hv] at h
      cases h
      exact ⟨v, by rw [List.getElem?_eq_getElem hi, hv], rfl⟩
  · rintro ⟨v, h1, h2⟩
    refine ⟨q.1, List.mem_range.mpr (List.getElem?_eq_some_iff.mp h1).1, ?_⟩
    rw [List.getD_eq_getElem?_getD, h1]
    show some (q.1, zval base X v) = some q
    rw [← h2]
theorem zlr_has {X : Nat → Value} {L : zL} {nL : Nat} (h : zlr base X L ls nL) : lv_has ls nL (zas base X L) := ⟨h.1, h.2.1, fun q hq => by
  obtain ⟨v, h1, h2⟩ := zas_mem.mp hq
  rw [h2]
  exact (h.2.2 q.1 v h1).1⟩
theorem zcl_sub {L : zL} {i k : Nat} {w : zV} (h : (zcl L i)[k]? = some (some w)) : L[k]? = some (some w) ∧ ¬ (k + 1 = i ∧ zcat w = 2) := by
  unfold zcl at h
  split at h
  · exact ⟨h, fun q => by omega⟩
  · rename_i i k'
    split at h
    · rename_i x hx
      by_cases hk : k = k'
      · subst hk
        rw [List.getElem?_set] at h
        simp at h
      · rw [List.getElem?_set_ne (Ne.symm hk)] at h
        exact ⟨h, fun q => by omega⟩
    · rename_i hx
      refine ⟨h, fun q => ?_⟩
      have hk : k = k' := by omega
      subst hk
      match w, q.2 with
      | .inr (.inl x), _ =>
        refine hx x ?_
        rw [List.getD_eq_getElem?_getD, h]
        rfl
theorem zlr_1 {X : Nat → Value} (hX : zXok X) {L : zL} {nL n : Nat} {v : zV} {ls' : Array Slot} (hl : zlr base X L ls nL) (hv : zokv v) (h : lv_has ls' nL ((n, zval base X v) :: (zas base X L).filter (fun q => !(q.1 == n) && !(q.1 + 1 == n && q.2.category == 2)))) : zlr base X (zs_1 L n v) ls' nL := by
  refine ⟨h.1, h.2.1, fun k w hk => ?_⟩
  unfold zs_1 at hk
  by_cases hkn : k = n
  · subst hkn
    rw [List.getElem?_set] at hk
    simp only [if_true] at hk
    split at hk
    · cases hk
      exact ⟨h.2.2 _ List.mem_cons_self, hv⟩
    · cases hk
  · rw [List.getElem?_set_ne (Ne.symm hkn)] at hk
    obtain ⟨h1, h2⟩ := zcl_sub hk
    refine ⟨h.2.2 (k, zval base X w) (List.mem_cons_of_mem _ (List.mem_filter.mpr ⟨zas_mem.mpr ⟨w, h1, rfl⟩, ?_⟩)), (hl.2.2 k w h1).2⟩
    rw [zval_cat hX w]
    simp only [Bool.and_eq_true, Bool.not_eq_true', beq_eq_false_iff_ne, ne_eq, Bool.and_eq_false_iff]
    refine ⟨hkn, ?_⟩
    by_cases q : k + 1 = n
    · exact Or.inr (fun z => h2 ⟨q, z⟩)
    · exact Or.inl q
theorem zlr_2 {X : Nat → Value} (hX : zXok X) {L : zL} {nL n : Nat} {v : zV} {ls' : Array Slot} (hl : zlr base X L ls nL) (hv : zokv v) (h : lv_has ls' nL ((n, zval base X v) :: (zas base X L).filter (fun q => !(q.1 == n) && (!(q.1 == n + 1) && !(q.1 + 1 == n && q.2.category == 2))))) : zlr base X (zs_2 L n v) ls' nL := by
  refine ⟨h.1, h.2.1, fun k w hk => ?_⟩
  unfold zs_2 at hk
  by_cases hk1 : k = n + 1
  · subst hk1
    rw [List.getElem?_set] at hk
    simp at hk
  · rw [List.getElem?_set_ne (Ne.symm hk1)] at hk
    by_cases hkn : k = n
    · subst hkn
      rw [List.getElem?_set] at hk
      simp only [if_true] at hk
      split at hk
      · cases hk
        exact ⟨h.2.2 _ List.mem_cons_self, hv⟩
      · cases hk
    · rw [List.getElem?_set_ne (Ne.symm hkn)] at hk
      obtain ⟨h1, h2⟩ := zcl_sub hk
      refine ⟨h.2.2 (k, zval base X w) (List.mem_cons_of_mem _ (List.mem_filter.mpr ⟨zas_mem.mpr ⟨w, h1, rfl⟩, ?_⟩)), (hl.2.2 k w h1).2⟩
      rw [zval_cat hX w]
      simp only [Bool.and_eq_true, Bool.not_eq_true', beq_eq_false_iff_ne, ne_eq, Bool.and_eq_false_iff]
      refine ⟨hkn, hk1, ?_⟩
      by_cases q : k + 1 = n
      · exact Or.inr (fun z => h2 ⟨q, z⟩)
      · exact Or.inl q
theorem zW_stor {X : Nat → Value} (hX : zXok X) {L : zL} {k n : Nat} {v : zV} (F : zFr p s m args meth c j) (hl : zlr base X L ls (zml j)) (hd : decode (zcode j) pc = .ok (i, len)) (h : zstor i len = some (k, n)) (hv : zokv v) (hk : zkind v = k) (hn : n + (if k = 2 then 1 else 0) < zml j)
    (kk : ∀ ls', zlr base X (if k = 2 then zs_2 L n v else zs_1 L n v) ls' (zml j) → W p l e R s m args below meth c H locs cells slots Q (F0 m (pc + len) ls' st)) : W p l e R s m args below meth c H locs cells slots Q (F0 m pc ls (zval base X v :: st)) := by
  obtain ⟨hx, hb, hml, hown, hts, hin⟩ := F
  have hh := zlr_has hl
  unfold zstor at h
  split at h
  · split at h
    · rename_i q; cases h; subst q; obtain ⟨x, rfl⟩ := zkind_1 hk
      exact lv_istore_n hx hb hd rfl hh (by simpa using hn) rfl (fun ls' h' => kk ls' (zlr_1 hX hl hv h'))
    · cases h
  · split at h
    · rename_i q; cases h; subst q; obtain ⟨x, rfl⟩ := zkind_1 hk
      exact lv_istore hx hb hd hh (by simpa using hn) rfl (fun ls' h' => kk ls' (zlr_1 hX hl hv h'))
    · cases h
  · split at h
    · rename_i q; cases h; subst q; obtain ⟨x, rfl⟩ := zkind_2 hk
      exact lv_lstore_n hx hb hd rfl hh (by simpa using hn) rfl (fun ls' h' => kk ls' (zlr_2 hX hl hv h'))
    · cases h
  · split at h
    · rename_i q; cases h; subst q; obtain ⟨x, rfl⟩ := zkind_2 hk
      exact lv_lstore hx hb hd hh (by simpa using hn) rfl (fun ls' h' => kk ls' (zlr_2 hX hl hv h'))
    · cases h
  · split at h
    · rename_i q; cases h; subst q; obtain ⟨x, rfl⟩ := zkind_3 hk
      have kk' : ∀ ls', lv_has ls' (zml j) ((_, zval base X (.inr (.inr x))) :: (zas base X L).filter _) → _ := fun ls' h' => kk ls' (zlr_1 hX hl hv h')
      have e1 : zval base X (.inr (.inr x)) = zref base X x := rfl
      rw [e1] at kk' ⊢
      rcases zref_cat (base := base) hX x with h | ⟨a, h⟩ <;> rw [h] at kk' ⊢
      · exact lv_astore_nN hx hb hd rfl hh (by simpa using hn) rfl kk'
      · exact lv_astore_n hx hb hd rfl hh (by simpa using hn) rfl kk'
    · cases h
  · split at h
    · rename_i q; cases h; subst q; obtain ⟨x, rfl⟩ := zkind_3 hk
      have kk' : ∀ ls', lv_has ls' (zml j) ((_, zval base X (.inr (.inr x))) :: (zas base X L).filter _) → _ := fun ls' h' => kk ls' (zlr_1 hX hl hv h')
      have e1 : zval base X (.inr (.inr x)) = zref base X x := rfl
      rw [e1] at kk' ⊢
      rcases zref_cat (base := base) hX x with h | ⟨a, h⟩ <;> rw [h] at kk' ⊢
      · exact lv_astoreN hx hb hd hh (by simpa using hn) rfl kk'
      · exact lv_astore hx hb hd hh (by simpa using hn) rfl kk'
    · cases h
  · cases h
end ZW1
