/-! THE CLAIM OUT OF ONE WALK OF THE LAW'S BODY. Your part is whole_start (and what it stands on); all else here is the same for every law, but numbers. -/
def R_law : String := "LeashedNamesLaw"
def lw_P (b : Addr) (xs : List Int32) (args : Array Value) (s : State) : Prop := args = #[.ref b] ∧ s.IntsAt b xs ∧ xs.length ≤ 3072 ∧ (Jvm.Cond.and given_1 narrow_1).before args s = true
def lw_Q (_ : Array Value) (s : State) (o : Outcome) (t : State) : Prop := o = .returned (some (.int 1)) ∧ Framed s o t [] 600000 7302250
def lw_Z (below : List Frame) (a : Array Value) (s : State) : State → Prop := fun t => ∃ o, t.status = .running ∧ Ended t below o ∧ lw_Q a s o t
/-- the law's own end, with 1 on the stack, nothing written that was there before, its room as the claim has it -/
theorem lw_ret {p : Program} {l : Launch} {e : Env} {s : State} {m : MethodId} {below : List Frame} {meth : Method} {c : Code} {b : Nat} (hx : p.tables.exec = Jvm.exec) (hb : c.code = code) (hr : meth.sig.returnType = ret) (hlocks : meth.locks = false) {pc : Nat} {H : Heap} {ls : Array Slot} (hdg : decode code pc = .ok (.ireturn, 1)) : W p l e room_1 s m #[Value.ref b] below meth c H [] 600000 7302250 (lw_Z below #[Value.ref b] s) (F0 m pc ls [.int 1]) := by
  intro T hT X
  obtain ⟨fs, hret, hrun, hended, hW, hframe⟩ := X.leave (v := some (.int 1)) (hlocks := hlocks) (fun h => by rw [hr] at h; cases h)
  have hmeth' : T.vm.method? m = some meth := X.method'
  refine ⟨T.setFrames fs, ?_, .returned (some (.int 1)), hrun, hended, rfl, ⟨_, rfl⟩, hW, hframe⟩
  jvm_step X.here [X.here.top, hx, hb, hdg, hmeth', hr, ret, narrow_b1]
  (try refine ⟨rfl, ?_⟩); (try refine ⟨rfl, ?_⟩)
  first | (intro acts; rw [hret _ acts rfl rfl rfl]) | rw [hret _ _ rfl rfl rfl]
  exact Steps.refl _
/-- what holds at the law's entry: the machine, the code, the tables' words (any of lw_tbl by 'hts w (by decide +kernel)'), the script of L ints xs at the cell b, what the Statement gives of the start (any of its parts by flat_of_before) -/
def lw_At (p : Program) (s : State) (m : MethodId) (meth : Method) (c : Code) (b L : Nat) (xs : Nat → Int32) : Prop :=
  p.tables.exec = Jvm.exec ∧ c.code = code ∧ meth.sig.returnType = ret ∧ c.maxLocals = 4 ∧ s.vm.findClass R_law = some m.cls ∧ (∀ w ∈ lw_tbl, w.before #[Value.ref b] s = true) ∧ va_X b L xs s s.heap ∧ b < s.heap.size ∧ meth.locks = false ∧ (Jvm.Cond.and given_1 narrow_1).before #[Value.ref b] s = true
/-- the law's run, as zex has it, is enough -/
theorem z_start {p : Program} {e : Env} {s : State} {m : MethodId} {below : List Frame} {meth : Method} {c : Code} (l : Launch) {b L n q : Nat} {xs : Nat → Int32} {A' : zM} (hL : L ≤ 3072) (hq : q ≤ 1000) (C0 : lw_At p s m meth c b L xs)
    (hrun : zex (L + 1, fun i => (xs i).toInt) n q 331 0 [some (.inr (.inr 5001)), none, none, none] [] ([], [], fun _ _ => 0) = some (some (.inl 1), A')) (hc : A'.1.length ≤ 600000) (hsl : zsl A'.1 ≤ 7302250) :
    W p l e room_1 s m #[Value.ref b] below meth c s.heap [] 0 0 (lw_Z below #[Value.ref b] s) (entryFrame m ([Value.ref b] : List Value).toArray 4) := by
  obtain ⟨hx, hb, hr, hml, hown, hts, hX, hbl, hlocks, hgv⟩ := id C0
  have hg : ∀ c ∈ zfl, c.before #[Value.ref b] s = true := flat_of_before _ hgv
  obtain ⟨D, tc, hK⟩ := z_K hts
  obtain ⟨adK, adV, hstr⟩ := z_str hts hg
  have hA : ∀ a : Nat, a < s.heap.size → ¬ (fun q : Nat => s.heap.size ≤ q) a := fun a h => Nat.not_le.mpr h
  have hZ1 : va_Z "java/lang/String" "COMPACT_STRINGS" "Z" (.int 1) (fun q => s.heap.size ≤ q) s s.heap := va_Zof (hts _ (zTb_at zls_ok.1.1)) (hts _ (zTb_at zls_ok.2.1)) (va_eqi (hg _ (List.mem_of_getElem? zfl_st.1))) hA
  have hZ2 : ∃ fmt : Value, va_Z "jdk/internal/util/Preconditions" "SIOOBE_FORMATTER" "Ljava/util/function/BiFunction;" fmt (fun q => s.heap.size ≤ q) s s.heap ∧ (fmt = .null ∨ ∃ a, fmt = .ref a) := by
    rcases va_Zqof (hts _ (zTb_at zls_ok.1.2)) (hts _ (zTb_at zls_ok.2.2)) (hg _ (List.mem_of_getElem? zfl_st.2)) hA with h | ⟨t, h⟩
    · exact ⟨.null, h, Or.inl rfl⟩
    · exact ⟨.ref t, h, Or.inr ⟨t, rfl⟩⟩
  obtain ⟨fmt, hZf, hfm⟩ := hZ2
  have E : zEv D tc s.heap.size b (L + 1, fun i => (xs i).toInt) fmt adK adV s s.heap := by
    refine ⟨hK, ⟨xs, hX, fun _ => rfl⟩, ⟨hbl, hbl, by show L + 1 - 1 < 2 ^ 31; omega⟩, hstr, hZ1, hZf, hfm, fun w hw => ?_, hts _ (zTb_at zAO_ok.1), hts _ (zTb_at zAO_ok.2)⟩
    have h1 := hts w (List.mem_filter.mp hw).1
    have h2 := zNW_is hw
    unfold zisN at h2
    split at h2
    · exact va_Nw.of rfl h1
    · exact va_Nw.of rfl h1
    · cases h2
  have hcl : zcls 331 = 9 := by decide +kernel
  have F : zFr p s m #[Value.ref b] meth c 331 := by
    refine ⟨hx, ?_, ?_, ?_, fun w hw => hts w (zgw_tbl hw), fun h => ?_⟩
    · rw [hb]; rfl
    · rw [hml]; rfl
    · rw [hcl]; exact hown
    · exact absurd h (by decide +kernel)
  have hl := lv_entry ([.ref b]) (n := 4) (Nat.le_of_ble_eq_true rfl)
  rw [lg_entry_eq]
  generalize (lg_sl ([.ref b]) ++ List.replicate (4 - (lg_sl ([.ref b])).length) Slot.unset).toArray = ls at hl ⊢
  have hl : lv_has ls 4 [(0, .ref b)] := hl
  refine zsound l D tc s.heap.size b (L + 1, fun i => (xs i).toInt) fmt adK adV n q 331 0 _ [] ([], [], fun _ _ => 0) _ A' hrun p e room_1 s m _ below meth c s.heap [] 0 0 _ ls 0 0 F E (by omega) (by show q ≤ 2048; omega) (by show 64 * q ≤ 84000; omega) (by show _ ≤ 0 + 600000; omega) (by show _ ≤ 0 + 7302250; omega) ⟨?_, fun v hv => absurd hv List.not_mem_nil, fun k q h => by simp [zWo] at h, ⟨rfl, Nat.zero_le _, fun k t n h => by simp at h⟩, va_S.rf, rfl, rfl⟩ ?_
  · refine ⟨hl.1, hl.2.1, fun i v hi => ?_⟩
    match i, hi with
    | 0, hi =>
      cases hi
      exact ⟨hl.2.2 (0, .ref b) List.mem_cons_self, trivial⟩
    | 1, hi => cases hi
    | 2, hi => cases hi
    | 3, hi => cases hi
    | i + 4, hi => simp at hi
  · intro pc' i len L' S' H' locs' cells' slots' ls' hd hz hst
    obtain ⟨-, -, -, -, hS, h6, h7⟩ := hst
    unfold zret at hz
    split at hz
    · split at hz
      · rename_i hk
        cases hz
        obtain ⟨rfl, -⟩ := hk
        refine va_forget hS.2.2 ?_
        refine W.widen (k := 600000) (n := 7302250) (by omega) (by omega) ?_
        exact lw_ret hx hb hr hlocks hd
      · cases hz
    · split at hz <;> cases hz
    · split at hz <;> cases hz
    · cases hz
