/-! The machine computes what zex computes. -/
def zMLx : List (Nat × MethodName × ByteArray × Nat × Option FieldType × Nat × Nat × Nat × Nat × Nat × Nat) := zML_0 ++ (zML_1 ++ (zML_2 ++ (zML_3 ++ (zML_4 ++ (zML_5 ++ (zML_6 ++ (zML_7 ++ (zML_8 ++ (zML_9 ++ (zML_10 ++ (zML_11)))))))))))
theorem zMLx_ok : zMLx.all zMok = true := by
  unfold zMLx
  simp only [List.all_append, zML_0_ok, zML_1_ok, zML_2_ok, zML_3_ok, zML_4_ok, zML_5_ok, zML_6_ok, zML_7_ok, zML_8_ok, zML_9_ok, zML_10_ok, zML_11_ok, Bool.and_self]
theorem zMLx_len : zMLx.length = 331 := by decide +kernel
theorem zML_eq : zML = zMLx ++ zML_law := by
  unfold zML zMLx
  simp only [List.append_assoc]
theorem zM_ok {c : Nat} (h : c < 331) : zMok (zmd c) = true := by
  have hl : c < zMLx.length := by rw [zMLx_len]; exact h
  unfold zmd
  rw [zML_eq, List.getD_eq_getElem?_getD, List.getElem?_append_left hl, List.getElem?_eq_getElem hl]
  exact List.all_eq_true.mp zMLx_ok _ (List.getElem_mem hl)
theorem zM_facts {c : Nat} (h : c < 331) : Jvm.Cond.code (zy c) (zcode c) (zml c) (zrt c) ∈ zGW ∧ Jvm.Cond.initialized (zy c).cls ∈ zGW ∧ (zy c).cls = zRNi (zcls c) ∧ plainName (zy c).cls = true ∧ ((zy c).cls ≠ "java/lang/invoke/MethodHandle" ∧ (zy c).cls ≠ "java/lang/invoke/VarHandle") ∧ (parseMethodDescriptor (zy c).desc).map (fun d => d.parameters.length) = some (znp c) ∧ zml c ≤ 24 ∧ (zkd c = 0 → Jvm.Cond.static (zy c) ∈ zGW) ∧ (zkd c = 1 → Jvm.Cond.instanceMethod (zy c) ∈ zGW ∧ Jvm.Cond.selects (zy c).cls (zy c) (zy c) ∈ zGW) ∧ (zkd c ≠ 0 → zkd c ≠ 1 → Jvm.Cond.instanceMethod (zy c) ∈ zGW ∧ (zy c).name = "<init>" ∧ zrt c = none) := by
  have h0 := zM_ok h
  unfold zMok at h0
  simp only [Bool.and_eq_true, decide_eq_true_eq] at h0
  obtain ⟨⟨⟨⟨⟨⟨h1, h2⟩, h3⟩, h4⟩, h5⟩, h6⟩, h7⟩ := h0
  have h3' : (zy c).cls = zRNi (zcls c) := h3
  have hR : zRNi (zcls c) ∈ zRN := by
    unfold zRNi
    rw [List.getD_eq_getElem?_getD, List.getElem?_eq_getElem (show zcls c < zRN.length from h5)]
    exact List.getElem_mem _
  have hRo := List.all_eq_true.mp zRN_ok _ hR
  simp only [Bool.and_eq_true, decide_eq_true_eq] at hRo
  obtain ⟨d, hd, hd2⟩ := List.any_eq_true.mp h4
  simp only [Bool.and_eq_true, beq_iff_eq] at hd2
  have hds := List.all_eq_true.mp zDS_ok d hd
  rw [decide_eq_true_eq] at hds
  refine ⟨zat_in h1, zat_in h2, h3', by rw [h3']; exact hRo.1.1, by rw [h3']; exact ⟨hRo.1.2, hRo.2⟩, ?_, h6, fun q => ?_, fun q => ?_, fun q q2 => ?_⟩
  · rw [hd2.2, hd2.1] at hds
    exact hds
  · rw [if_pos (show (zmd c).2.2.2.2.2.2.1 = 0 from q)] at h7
    exact zat_in h7
  · rw [if_neg (show ¬ (zmd c).2.2.2.2.2.2.1 = 0 by rw [show (zmd c).2.2.2.2.2.2.1 = 1 from q]; decide), if_pos (show (zmd c).2.2.2.2.2.2.1 = 1 from q), Bool.and_eq_true] at h7
    exact ⟨zat_in h7.1, zat_in h7.2⟩
  · rw [if_neg (show ¬ (zmd c).2.2.2.2.2.2.1 = 0 from q), if_neg (show ¬ (zmd c).2.2.2.2.2.2.1 = 1 from q2), Bool.and_eq_true, Bool.and_eq_true, decide_eq_true_eq, decide_eq_true_eq] at h7
    exact ⟨zat_in h7.1.1, h7.1.2, h7.2⟩
theorem zLK_w {C idx : Nat} {e : Nat × Nat × Nat × Bool} (h : (zLK C).find? (fun e => e.1 == idx) = some e) : (if e.2.2.2 = true then Jvm.Cond.methodLinkNest (zRNi C) idx (zy e.2.1) "LeashedNames" ∈ zNW else Jvm.Cond.methodLink (zRNi C) idx (zy e.2.1) ∈ zGW) ∧ e.2.1 < 331 := by
  obtain ⟨h1, h2⟩ := zfind h
  have h4 := List.all_eq_true.mp (zLK_ok C) e h1
  have h3 := eq_of_beq h2
  rw [Bool.and_eq_true, decide_eq_true_eq] at h4
  obtain ⟨h4, h5⟩ := h4
  refine ⟨?_, h5⟩
  rw [← h3]
  split at h4
  · rename_i q
    rw [if_pos q]
    exact zatN_in h4
  · rename_i q
    rw [if_neg q]
    exact zat_in h4
theorem zex_ext {sc : zSc} : ∀ (n q j pc : Nat) (L : zL) (S : List zV) (A : zM) (r : Option zV) (A' : zM), zex sc n q j pc L S A = some (r, A') → ∃ x, A'.1 = A.1 ++ x
  | 0, _, _, _, _, _, _, _, _, h => by cases h
  | n + 1, q, j, pc, L, S, A, r, A', h => by
    unfold zex at h
    split at h
    · cases h
    · rename_i i len hd
      split at h
      · cases h
        exact ⟨[], (List.append_nil _).symm⟩
      · split at h
        · rename_i pc' L' S' A1 hs
          obtain ⟨x, hx⟩ := zstep_ext hs
          obtain ⟨y, hy⟩ := zex_ext n q j pc' L' S' A1 r A' h
          exact ⟨x ++ y, by rw [hy, hx, List.append_assoc]⟩
        · split at h
          · rename_i c as rest hc
            split at h
            · split at h
              · rename_i r1 A1 hr
                obtain ⟨x, hx⟩ := zex_ext n _ c 0 _ [] A r1 A1 hr
                obtain ⟨y, hy⟩ := zex_ext n q j (pc + 3) L _ A1 r A' h
                exact ⟨x ++ y, by rw [hy, hx, List.append_assoc]⟩
              · cases h
            · cases h
          · cases h
theorem zex_le {sc : zSc} {n q j pc : Nat} {L : zL} {S : List zV} {A : zM} {r : Option zV} {A' : zM} (h : zex sc n q j pc L S A = some (r, A')) : A.1.length ≤ A'.1.length ∧ zsl A.1 ≤ zsl A'.1 := by
  obtain ⟨x, hx⟩ := zex_ext n q j pc L S A r A' h
  rw [hx, zsl_app, List.length_append]
  omega
def zws (c : Nat) : List Jvm.Cond := Jvm.Cond.code (zy c) (zcode c) (zml c) (zrt c) :: zGW
theorem zws_good {c : Nat} (h : c < 331) {args : Array Value} {s : State} (hts : ∀ w ∈ zGW, w.before args s = true) : ∀ w ∈ zws c, ∀ (a' : Array Value) (U : State), s.WarmedH U.vm → w.before a' U = true := by
  intro w hw a' U hW
  have hin : w ∈ zGW := by
    rcases List.mem_cons.mp hw with rfl | hw
    · exact (zM_facts h).1
    · exact hw
  exact word_at hW (good_of_word (List.mem_filter.mp hin).2) (hts w hin)
def zSnd (l : Launch) (D : va_G) (tc : Nat → ClassId) (base b : Nat) (sc : zSc) (fmt : Value) (adK adV : Nat → Nat) (n : Nat) : Prop :=
  ∀ (q j pc : Nat) (L : zL) (S : List zV) (A : zM) (r : Option zV) (A' : zM), zex sc n q j pc L S A = some (r, A') →
  ∀ (p : Program) (e : Env) (R : Room) (s : State) (m : MethodId) (args : Array Value) (below : List Frame) (meth : Method) (c : Code) (H : Heap) (locs : List Loc) (cells slots : Nat) (Q : State → Prop) (ls : Array Slot) (n0 s0 : Nat),
  zFr p s m args meth c j → zEv D tc base b sc fmt adK adV s s.heap → s.heap.size = base + n0 → q ≤ R.frames → 64 * q ≤ R.locals → A'.1.length ≤ n0 + R.cells → zsl A'.1 ≤ s0 + R.slots → zSt D tc base b fmt adK adV s n0 s0 j L S A H locs cells slots ls →
  (∀ (pc' : Nat) (i : Instr) (len : Nat) (L' : zL) (S' : List zV) (H' : Heap) (locs' : List Loc) (cells' slots' : Nat) (ls' : Array Slot), decode (zcode j) pc' = .ok (i, len) → zret j S' i len = some r → zSt D tc base b fmt adK adV s n0 s0 j L' S' A' H' locs' cells' slots' ls' → W p l e R s m args below meth c H' locs' cells' slots' Q (F0 m pc' ls' (S'.map (zval base (zX b fmt adK adV))))) →
  W p l e R s m args below meth c H locs cells slots Q (F0 m pc ls (S.map (zval base (zX b fmt adK adV))))
section ZW10
variable {p : Program} {l : Launch} {e : Env} {R : Room} {s : State} {m : MethodId} {args : Array Value} {below : List Frame} {meth : Method} {c : Code} {H : Heap} {locs : List Loc} {cells slots : Nat} {Q : State → Prop}
variable {D : va_G} {tc : Nat → ClassId} {base b : Nat} {sc : zSc} {fmt : Value} {adK adV : Nat → Nat} {j pc len : Nat} {i : Instr} {ls : Array Slot} {st : List Value}
theorem zW_ret {n0 s0 : Nat} {L : zL} {S : List zV} {A : zM} {r : Option zV} (F : zFr p s m args meth c j) (hr : meth.sig.returnType = zrt j) (hlocks : meth.locks = false) (hd : decode (zcode j) pc = .ok (i, len)) (h : zret j S i len = some r) (hst : zSt D tc base b fmt adK adV s n0 s0 j L S A H locs cells slots ls) :
    W p l e R s m args below meth c H locs cells slots (MQ below (zQ base (zX b fmt adK adV) D tc r A) args s cells slots (fun q => base ≤ q)) (F0 m pc ls (S.map (zval base (zX b fmt adK adV)))) := by
  obtain ⟨hx, hb, hml, hown, hts, hin⟩ := F
  obtain ⟨hl, hok, hP, hM, hS, hc, hsl⟩ := hst
  unfold zret at h
  split at h
  · rename_i x
    split at h
    · rename_i hk
      cases h
      obtain ⟨rfl, hrk⟩ := hk
      have hx1 : in32 x := hok (.inl x) (by simp)
      have hq : ∀ t : State, t.heap = H → s.WarmedH t.vm → zQ base (zX b fmt adK adV) D tc (some (.inl x)) A args s (.returned (some (.int (Int32.ofInt x)))) t := fun t ht _ => ⟨⟨rfl, by rw [ht]; exact hP, hM, fun v hv => by cases hv; exact hx1⟩, hS.F ht⟩
      cases hrt : zrt j with
      | none => rw [hrt] at hrk; cases hrk
      | some ty =>
        rw [hrt] at hrk hr
        cases ty <;> first | (cases hrk; done) | skip
        · have hz : -128 ≤ x ∧ x < 128 := of_decide_eq_true hrk
          refine W.zret (ty := .byte) hx hb hr ?_ hq hS.2.2 hd hlocks
          have := vp_nar_byte (Int32.ofInt x)
          have e1 : (Int32.ofInt x).toInt8.toInt32 = Int32.ofInt x := by
            rw [← Int32.toInt_inj, Int8.toInt_toInt32, Int32.toInt_toInt8, i32_of hx1]
            exact Int.bmod_eq_of_le (by omega) (by omega)
          show (Value.int (vp_nar .byte (Int32.ofInt x))) = _
          rw [this, e1]
        · have hz : 0 ≤ x ∧ x < 65536 := of_decide_eq_true hrk
          refine W.zret (ty := .char) hx hb hr ?_ hq hS.2.2 hd hlocks
          have e1 : Int32.ofInt x = nI x.toNat := by
            unfold nI
            rw [← Int32.toInt_inj, i32_of hx1]
            have := nI_toInt (n := x.toNat) (by omega)
            unfold nI at this
            rw [this]
            omega
          rw [e1]
          exact (pk_charN (q := x.toNat) (by omega)).1
        · exact W.iret hx hb hr hq hS.2.2 hd hlocks
        · have hz : x = 0 ∨ x = 1 := of_decide_eq_true hrk
          refine W.zret (ty := .boolean) hx hb hr ?_ hq hS.2.2 hd hlocks
          rcases hz with rfl | rfl <;> rfl
    · cases h
  · rename_i x
    split at h
    · rename_i hk
      cases h
      obtain ⟨rfl, hrk⟩ := hk
      have hx1 : in64 x := hok (.inr (.inl x)) (by simp)
      have hq : ∀ t : State, t.heap = H → s.WarmedH t.vm → zQ base (zX b fmt adK adV) D tc (some (.inr (.inl x))) A args s (.returned (some (.long (Int64.ofInt x)))) t := fun t ht _ => ⟨⟨rfl, by rw [ht]; exact hP, hM, fun v hv => by cases hv; exact hx1⟩, hS.F ht⟩
      cases hrt : zrt j with
      | none => rw [hrt] at hrk; cases hrk
      | some ty =>
        rw [hrt] at hrk hr
        cases ty <;> first | (cases hrk; done) | skip
        exact W.lret hx hb hr hq hS.2.2 hd hlocks
    · cases h
  · split at h
    · rename_i hk
      cases h
      obtain ⟨rfl, hrk⟩ := hk
      cases hrt : zrt j with
      | none =>
        rw [hrt] at hr
        exact W.vret hx hb hr (fun t ht _ => ⟨⟨rfl, by rw [ht]; exact hP, hM, fun v hv => by cases hv⟩, hS.F ht⟩) hS.2.2 hd hlocks
      | some ty => rw [hrt] at hrk; cases ty <;> cases hrk
    · cases h
  · cases h
theorem zMet {n q cal : Nat} {as : List zV} {A A' : zM} {r : Option zV} (ih : zSnd l D tc base b sc fmt adK adV n) (hX : zXok (zX b fmt adK adV)) (hc : cal < 331) (h : zex sc n q cal 0 (zarg (zml cal) as) [] A = some (r, A')) (hM : zMo A) (hok : ∀ v ∈ as, zokv v) (hal : (zarg0 as).length ≤ zml cal) :
    Met l (zy cal) (zws cal) ({ frames := q, cells := A'.1.length - A.1.length, slots := zsl A'.1 - zsl A.1, locals := 64 * q } : Room) (zPc D tc base b sc fmt adK adV A as) (zQ base (zX b fmt adK adV) D tc r A') (A'.1.length - A.1.length) (zsl A'.1 - zsl A.1) (fun q => base ≤ q) := by
  obtain ⟨f1, f2, f3, f4, f5, f6, f7, -⟩ := zM_facts hc
  obtain ⟨le1, le2⟩ := zex_le h
  refine Met.ofW (cc := zcode cal) (maxL := zml cal) (ret := zrt cal) f4 rfl ?_
  intro p e s m args below meth c s₁ B hml hv
  obtain ⟨rfl, hsz, hP, hE⟩ := hv
  have hts := atoms_spec (ws := zws cal) B.pre
  have hown : s.vm.findClass (zRNi (zcls cal)) = some m.cls := by rw [← f3]; exact findClass_of_methodNamed B.named
  have F : zFr p s m (as.map (zval base (zX b fmt adK adV))).toArray meth c cal := ⟨B.exec, B.bytes, hml, hown, fun w hw => hts w (List.mem_cons_of_mem _ hw), fun hn => by rw [← hn]; exact (name_of_methodNamed B.named B.method).1⟩
  have hl := lv_entry (as.map (zval base (zX b fmt adK adV))) (n := zml cal) (by rw [zarg_len hX]; exact hal)
  rw [lg_entry_eq]
  generalize (lg_sl (as.map (zval base (zX b fmt adK adV))) ++ List.replicate (zml cal - (lg_sl (as.map (zval base (zX b fmt adK adV)))).length) Slot.unset).toArray = ls at hl ⊢
  refine ih q cal 0 (zarg (zml cal) as) [] A r A' h p e _ s m _ below meth c s.heap [] 0 0 _ ls A.1.length (zsl A.1) F hE hsz (Nat.le_refl _) (Nat.le_refl _) ?_ ?_ ⟨zarg_lr hX hok hl, fun v hv => absurd hv List.not_mem_nil, hP, hM, va_S.rf, Nat.zero_add _, Nat.zero_add _⟩ ?_
  · show A'.1.length ≤ A.1.length + (A'.1.length - A.1.length)
    omega
  · show zsl A'.1 ≤ zsl A.1 + (zsl A'.1 - zsl A.1)
    omega
  · intro pc' i len L' S' H' locs' cells' slots' ls' hd hr hst
    have h6 := hst.2.2.2.2.2
    obtain rfl : cells' = A'.1.length - A.1.length := by omega
    obtain rfl : slots' = zsl A'.1 - zsl A.1 := by omega
    exact zW_ret F B.returns B.notSynchronized hd hr hst
end ZW10
