/-! One step, whichever. -/
theorem zputf_sh {j idx q : Nat} {A A' : zM} {v : zV} (h : zputf j A idx q v = some A') : A'.1 = A.1 := by
  unfold zputf at h
  repeat' split at h
  all_goals first | (cases h; rfl) | cases h
theorem zast_sh {i : Instr} {q : Nat} {x : Int} {A A' : zM} {v : zV} (h : zast A i q x v = some A') : A'.1 = A.1 := by
  unfold zast at h
  repeat' split at h
  all_goals first | (cases h; rfl) | cases h
theorem zprim_sh {t : Nat} {S S' : List zV} {A A' : zM} (h : zprim A t S = some (S', A')) : A'.1 = A.1 := by
  unfold zprim at h
  repeat' split at h
  all_goals first | (cases h; rfl) | cases h
set_option maxHeartbeats 4000000 in
theorem zs0_ext {sc : zSc} {q j pc len pc' : Nat} {L L' : zL} {S S' : List zV} {A A' : zM} {i : Instr} (h : zs0 sc q j pc L S A i len = some (pc', L', S', A')) : ∃ x, A'.1 = A.1 ++ x := by
  unfold zs0 at h
  repeat' split at h
  all_goals first
    | (cases h; exact ⟨[], (List.append_nil _).symm⟩)
    | (cases h; exact ⟨[], by rw [List.append_nil]; first | exact zputf_sh (by assumption) | exact zprim_sh (by assumption)⟩)
    | (cases h; exact ⟨_, rfl⟩)
    | (cases h; exact ⟨_, List.append_assoc _ _ _⟩)
    | cases h
theorem zs1_ext {sc : zSc} {q j pc len pc' : Nat} {L L' : zL} {S S' : List zV} {A A' : zM} {i : Instr} (h : zs1 sc q j pc L S A i len = some (pc', L', S', A')) : ∃ x, A'.1 = A.1 ++ x := by
  unfold zs1 at h
  repeat' split at h
  all_goals first
    | exact zs0_ext h
    | (cases h; exact ⟨[], (List.append_nil _).symm⟩)
    | cases h
theorem zstep_ext {sc : zSc} {q j pc len pc' : Nat} {L L' : zL} {S S' : List zV} {A A' : zM} {i : Instr} (h : zstep sc q j pc L S A i len = some (pc', L', S', A')) : ∃ x, A'.1 = A.1 ++ x := by
  unfold zstep at h
  split at h
  · rename_i r hr
    cases h
    exact zs1_ext hr
  · split at h
    · rename_i r hr
      cases h
      unfold zs2 at hr
      repeat' split at hr
      all_goals first | (cases hr; exact ⟨[], (List.append_nil _).symm⟩) | cases hr
    · unfold zs3 at h
      repeat' split at h
      all_goals first | (cases h; exact ⟨[], by rw [List.append_nil]; exact zast_sh (by assumption)⟩) | cases h
theorem zgetf_ok {C idx q : Nat} {A : zM} {v : zV} (hM : zMo A) (h : zgetf C A idx q = some v) : zokv v := by
  unfold zgetf at h
  split at h
  · rename_i e2 he
    split at h
    · rename_i hA
      have hz := (hM.2.2 q _ _ hA).2 e2.2.2.1
      unfold zrng at hz
      rw [show 10 + e2.2.1 - 10 = e2.2.1 by omega] at hz
      split at h
      · rename_i hk
        cases h
        rw [if_neg (by rintro (z | ⟨-, z⟩); omega; rw [hk] at z; cases z)] at hz
        exact hz
      · rename_i hk
        cases h
        rw [if_neg (by rintro (z | ⟨-, z⟩); omega; rw [hk] at z; cases z)] at hz
        exact hz
      · rename_i hk
        cases h
        rw [if_pos (Or.inr ⟨by omega, hk⟩)] at hz
        exact hz
      · split at h
        · cases h; exact trivial
        · cases h
    · cases h
  · repeat' split at h
    all_goals first | (cases h; exact trivial) | (cases h; exact in32_0) | cases h
def zSt (D : va_G) (tc : Nat → ClassId) (base b : Nat) (fmt : Value) (adK adV : Nat → Nat) (s : State) (n0 s0 j : Nat) (L : zL) (S : List zV) (A : zM) (H : Heap) (locs : List Loc) (cells slots : Nat) (ls : Array Slot) : Prop :=
  zlr base (zX b fmt adK adV) L ls (zml j) ∧ (∀ v ∈ S, zokv v) ∧ va_P D vwCl (zWo base tc A) H ∧ zMo A ∧ va_S (fun q => base ≤ q) s.heap H locs ∧ cells + n0 = A.1.length ∧ slots + s0 = zsl A.1
theorem zzl {C : Nat} {i : Instr} {len : Nat} {k n : Nat} (h : zload i len = some (k, n)) : 1 ≤ k ∧ k ≤ 3 := by
  unfold zload at h
  repeat' split at h
  all_goals first | (cases h; omega) | cases h
section ZW8
variable {p : Program} {l : Launch} {e : Env} {R : Room} {s : State} {m : MethodId} {args : Array Value} {below : List Frame} {meth : Method} {c : Code} {H : Heap} {locs : List Loc} {cells slots : Nat} {Q : State → Prop}
variable {D : va_G} {tc : Nat → ClassId} {base b : Nat} {sc : zSc} {fmt : Value} {adK adV : Nat → Nat} {j pc len : Nat} {i : Instr} {ls : Array Slot} {st : List Value}
set_option maxHeartbeats 8000000 in
theorem zs0_ok {q pc' n0 s0 : Nat} {L L' : zL} {S S' : List zV} {A A' : zM} (F : zFr p s m args meth c j) (E : zEv D tc base b sc fmt adK adV s s.heap) (hs : s.heap.size = base + n0) (hq1 : q ≤ R.frames) (hq2 : 64 * q ≤ R.locals) (hd : decode (zcode j) pc = .ok (i, len)) (h : zs0 sc q j pc L S A i len = some (pc', L', S', A')) (hrc : A'.1.length ≤ n0 + R.cells) (hrs : zsl A'.1 ≤ s0 + R.slots)
    (hst : zSt D tc base b fmt adK adV s n0 s0 j L S A H locs cells slots ls)
    (kk : ∀ (H' : Heap) (locs' : List Loc) (cells' slots' : Nat) (ls' : Array Slot), zSt D tc base b fmt adK adV s n0 s0 j L' S' A' H' locs' cells' slots' ls' → W p l e R s m args below meth c H' locs' cells' slots' Q (F0 m pc' ls' (S'.map (zval base (zX b fmt adK adV))))) :
    W p l e R s m args below meth c H locs cells slots Q (F0 m pc ls (S.map (zval base (zX b fmt adK adV)))) := by
  obtain ⟨hl, hok, hP, hM, hS, hc, hsl⟩ := hst
  have hX := zX_ok (b := b) (adK := adK) (adV := adV) E.2.2.2.2.2.2.1
  unfold zs0 at h
  split at h
  · -- lshl
    split at h
    · rename_i y x S0 hk
      cases h; subst hk
      obtain ⟨hx, hb, -⟩ := F
      have k2 := kk H locs cells slots ls ⟨hl, List.forall_mem_cons.mpr ⟨i64_in _, fun w hw => hok w (by simp [hw])⟩, hP, hM, hS, hc, hsl⟩
      rw [List.map_cons, zvl] at k2
      exact lv_lshl hx hb hd rfl k2
    · cases h
  · -- lshr
    split at h
    · rename_i y x S0 hk
      cases h; subst hk
      obtain ⟨hx, hb, -⟩ := F
      have k2 := kk H locs cells slots ls ⟨hl, List.forall_mem_cons.mpr ⟨i64_in _, fun w hw => hok w (by simp [hw])⟩, hP, hM, hS, hc, hsl⟩
      rw [List.map_cons, zvl] at k2
      exact lv_lshr hx hb hd rfl k2
    · cases h
  · -- i2l
    split at h
    · rename_i x S0 hk
      cases h; subst hk
      obtain ⟨hx, hb, -⟩ := F
      have hx1 : in32 x := hok (.inl x) (by simp)
      have hx2 : in64 x := by unfold in32 at hx1; unfold in64; omega
      refine lv_i2l hx hb hd ?_ (kk H locs cells slots ls ⟨hl, List.forall_mem_cons.mpr ⟨hx2, fun w hw => hok w (by simp [hw])⟩, hP, hM, hS, hc, hsl⟩)
      exact Int64.toInt_inj.mp (by rw [Int32.toInt_toInt64, i32_of hx1, i64_of hx2])
    · cases h
  · -- l2i
    split at h
    · rename_i x S0 hk
      cases h; subst hk
      obtain ⟨hx, hb, -⟩ := F
      have hx1 : in64 x := hok (.inr (.inl x)) (by simp)
      refine lv_l2i hx hb hd ?_ (kk H locs cells slots ls ⟨hl, List.forall_mem_cons.mpr ⟨i32_in _, fun w hw => hok w (by simp [hw])⟩, hP, hM, hS, hc, hsl⟩)
      unfold w32
      rw [Int32.ofInt_toInt]
      exact Int64.toInt32_ofInt
    · cases h
  · -- lcmp
    split at h
    · rename_i y x S0 hk
      cases h; subst hk
      refine zW_lcmp F hd (hok (.inr (.inl x)) (by simp)) (hok (.inr (.inl y)) (by simp)) (kk H locs cells slots ls ⟨hl, List.forall_mem_cons.mpr ⟨?_, fun w hw => hok w (by simp [hw])⟩, hP, hM, hS, hc, hsl⟩)
      show in32 _
      split
      · exact ⟨by decide, by decide⟩
      · split <;> exact ⟨by decide, by decide⟩
    · cases h
  · -- dup
    split at h
    · rename_i v S0 hk
      cases h
      obtain ⟨rfl, hcv⟩ := hk
      obtain ⟨hx, hb, -⟩ := F
      exact lv_dup hx hb hd (by rw [zval_cat hX, hcv]) (kk H locs cells slots ls ⟨hl, List.forall_mem_cons.mpr ⟨hok v (by simp), hok⟩, hP, hM, hS, hc, hsl⟩)
    · cases h
  · -- pop
    split at h
    · rename_i v S0 hk
      cases h
      obtain ⟨rfl, hcv⟩ := hk
      obtain ⟨hx, hb, -⟩ := F
      exact lv_pop hx hb hd (by rw [zval_cat hX, hcv]) (kk H locs cells slots ls ⟨hl, fun w hw => hok w (by simp [hw]), hP, hM, hS, hc, hsl⟩)
    · cases h
  · -- dup2
    split at h
    · cases h
    · rename_i v S0 hlen
      have hlen : len = 1 := Decidable.not_not.mp hlen
      subst hlen
      split at h
      · rename_i hcv
        cases h
        obtain ⟨hx, hb, -⟩ := F
        exact lv_dup2_2 hx hb hd (by rw [zval_cat hX, hcv]) (kk H locs cells slots ls ⟨hl, List.forall_mem_cons.mpr ⟨hok v (by simp), hok⟩, hP, hM, hS, hc, hsl⟩)
      · rename_i hcv
        split at h
        · rename_i w S1
          split at h
          · rename_i hcw
            cases h
            obtain ⟨hx, hb, -⟩ := F
            have hc1 : zcat v = 1 := by
              match v, hcv with
              | .inl _, _ => rfl
              | .inr (.inl _), q => exact absurd rfl q
              | .inr (.inr _), _ => rfl
            exact lv_dup2_11 hx hb hd (by rw [zval_cat hX, hc1]) (by rw [zval_cat hX, hcw]) (kk H locs cells slots ls ⟨hl, List.forall_mem_cons.mpr ⟨hok v (by simp), List.forall_mem_cons.mpr ⟨hok w (by simp), hok⟩⟩, hP, hM, hS, hc, hsl⟩)
          · cases h
        · cases h
  · -- iinc
    split at h
    · rename_i n k x hlo
      split at h
      · rename_i hk
        cases h
        obtain ⟨rfl, hn⟩ := hk
        exact zW_iinc hX F hl hd hlo hn (fun ls' h' => kk H locs cells slots ls' ⟨h', hok, hP, hM, hS, hc, hsl⟩)
      · cases h
    · cases h
  · -- goto
    split at h
    · rename_i t ht
      split at h
      · rename_i hk
        cases h; subst hk
        obtain ⟨hx, hb, -⟩ := F
        exact lv_goto hx hb hd (ztg_eq ht) (kk H locs cells slots ls ⟨hl, hok, hP, hM, hS, hc, hsl⟩)
      · cases h
    · cases h
  · -- if
    split at h
    · rename_i t ht
      split at h
      · rename_i hk
        cases h; subst hk
        rename_i x _ _
        exact zW_if F hd (ztg_eq ht) (hok (.inl _) (by simp)) (kk H locs cells slots ls ⟨hl, fun w hw => hok w (by simp [hw]), hP, hM, hS, hc, hsl⟩)
      · cases h
    · cases h
  · -- icmp
    split at h
    · rename_i t ht
      split at h
      · rename_i hk
        cases h; subst hk
        exact zW_icmp F hd (ztg_eq ht) (hok (.inl _) (by simp)) (hok (.inl _) (by simp)) (kk H locs cells slots ls ⟨hl, fun w hw => hok w (by simp [hw]), hP, hM, hS, hc, hsl⟩)
      · cases h
    · cases h
  · -- tableswitch
    split at h
    · rename_i t ht
      split at h
      · rename_i hk
        cases h
        exact zW_sw F hd (hok (.inl _) (by simp)) (ztg_eq ht) hk (kk H locs cells slots ls ⟨hl, fun w hw => hok w (by simp [hw]), hP, hM, hS, hc, hsl⟩)
      · cases h
    · cases h
  · -- getfield
    split at h
    · rename_i v hv
      split at h
      · rename_i hk
        cases h; subst hk
        exact zW_getf F E hP hM hS hd hv (kk H locs cells slots ls ⟨hl, List.forall_mem_cons.mpr ⟨zgetf_ok hM hv, fun w hw => hok w (by simp [hw])⟩, hP, hM, hS, hc, hsl⟩)
      · cases h
    · cases h
  · -- putfield
    split at h
    · rename_i A1 hv
      split at h
      · rename_i hk
        cases h; subst hk
        exact zW_putf F E hP hM hS (hok _ (by simp)) hd hv (fun H1 l1 e1 a1 a2 a3 => kk H1 l1 cells slots ls ⟨hl, fun w hw => hok w (by simp [hw]), a1, a2, a3, by rw [e1]; exact hc, by rw [e1]; exact hsl⟩)
      · cases h
    · cases h
  · -- arraylength
    split at h
    · rename_i n hv
      split at h
      · rename_i hk
        cases h; subst hk
        exact zW_len F E hP hM hS hd hv (kk H locs cells slots ls ⟨hl, List.forall_mem_cons.mpr ⟨i32_in _, fun w hw => hok w (by simp [hw])⟩, hP, hM, hS, hc, hsl⟩)
      · cases h
    · cases h
  · -- invokespecial
    split at h
    · rename_i hk
      cases h
      obtain ⟨rfl, h1, h2, h3, h4⟩ := hk
      exact zW_oin F hl.1 hX (by rw [zcat_sum hX]; exact h3) hd h4 h2 (by omega) (by omega) (kk H locs cells slots ls ⟨hl, fun w hw => hok w (by simp [hw]), hP, hM, hS, hc, hsl⟩)
    · cases h
  · -- invokestatic
    split at h
    · rename_i e2 he
      split at h
      · rename_i S1 A1 hp
        split at h
        · rename_i hk
          cases h
          obtain ⟨rfl, h1, h2⟩ := hk
          have e0 := zprim_sh hp
          rw [e0] at hrc hrs
          exact zW_prim F E hl.1 hP hM hS hok h2 hd he hp (by omega) (by omega) (by omega) (by omega) (fun H1 l1 e1 a1 a2 a3 a4 => kk H1 l1 cells slots ls ⟨hl, a4, a1, a2, a3, by rw [e1]; exact hc, by rw [e1]; exact hsl⟩)
        · cases h
      · cases h
    · cases h
  · -- new
    split at h
    · rename_i e2 he
      split at h
      · rename_i hk
        cases h
        obtain ⟨rfl, h1⟩ := hk
        have z1 : zsl (zmk A (10 + e2.2.1) (zNF e2.2.1)).1 = zsl A.1 + zNF e2.2.1 := zsl_app
        have z2 : (zmk A (10 + e2.2.1) (zNF e2.2.1)).1.length = A.1.length + 1 := by simp [zmk]
        rw [z1] at hrs
        rw [z2] at hrc
        exact zW_new F E hP hM hS hs hc h1 hd he (by omega) (by omega) (fun H1 a1 a3 => kk H1 locs _ _ ls ⟨hl, List.forall_mem_cons.mpr ⟨trivial, hok⟩, a1, zMo_mk hM h1, a3, by rw [z2]; omega, by rw [z1]; omega⟩)
      · cases h
    · cases h
  · -- newarray
    split at h
    · rename_i n S0 _ t ht
      split at h
      · rename_i hk
        cases h
        obtain ⟨rfl, h1, h2, h3⟩ := hk
        have z1 : zsl (zmk A t n.toNat).1 = zsl A.1 + n.toNat := zsl_app
        have z2 : (zmk A t n.toNat).1.length = A.1.length + 1 := by simp [zmk]
        rw [z1] at hrs
        rw [z2] at hrc
        exact zW_newa F E hP hM hS hs hc h3 hd ht h1 h2 (by omega) (by omega) (fun H1 a1 a3 => kk H1 locs _ _ ls ⟨hl, List.forall_mem_cons.mpr ⟨trivial, fun w hw => hok w (by simp [hw])⟩, a1, zMo_mk hM h3, a3, by rw [z2]; omega, by rw [z1]; omega⟩)
      · cases h
    · cases h
  · -- anewarray
    split at h
    · rename_i n S0 _ e2 he
      split at h
      · rename_i hk
        cases h
        obtain ⟨rfl, he2, h1, h2, h3⟩ := hk
        have z1 : zsl (zmk A 4 n.toNat).1 = zsl A.1 + n.toNat := zsl_app
        have z2 : (zmk A 4 n.toNat).1.length = A.1.length + 1 := by simp [zmk]
        rw [z1] at hrs
        rw [z2] at hrc
        exact zW_newq F E hP hM hS hs hc h3 hd he he2 h1 h2 (by omega) (by omega) (fun H1 a1 a3 => kk H1 locs _ _ ls ⟨hl, List.forall_mem_cons.mpr ⟨trivial, fun w hw => hok w (by simp [hw])⟩, a1, zMo_mk hM h3, a3, by rw [z2]; omega, by rw [z1]; omega⟩)
      · cases h
    · cases h
  · -- multianewarray
    split at h
    · rename_i k n S0 _ e2 he
      split at h
      · rename_i hk
        cases h
        obtain ⟨rfl, rfl, h1, h2, h3, h4, h5, h6⟩ := hk
        have z1 := zsl_mm (A := A) (n := n.toNat) (k := k.toNat)
        have z2 : (zmm A n.toNat k.toNat).1.length = A.1.length + 1 + n.toNat := by simp [zmm]; omega
        have hrs' : zsl (zmm A n.toNat k.toNat).1 ≤ s0 + R.slots := hrs
        have hrc' : (zmm A n.toNat k.toNat).1.length ≤ n0 + R.cells := hrc
        rw [z1] at hrs'
        rw [z2] at hrc'
        exact zW_mna F E hP hM hS hs hc h6 hd he h1 h2 h3 h4 (by omega) (by omega) h5 (fun H1 a1 a3 => kk H1 locs _ _ ls ⟨hl, List.forall_mem_cons.mpr ⟨trivial, fun w hw => hok w (by simp [hw])⟩, a1, zMo_mm hM h6, a3, by show _ = (zmm A n.toNat k.toNat).1.length; rw [z2]; omega, by show _ = zsl (zmm A n.toNat k.toNat).1; rw [z1]; omega⟩)
      · cases h
    · cases h
  · cases h
set_option maxHeartbeats 8000000 in
theorem zs1_ok {q pc' n0 s0 : Nat} {L L' : zL} {S S' : List zV} {A A' : zM} (F : zFr p s m args meth c j) (E : zEv D tc base b sc fmt adK adV s s.heap) (hs : s.heap.size = base + n0) (hq1 : q ≤ R.frames) (hq2 : 64 * q ≤ R.locals) (hd : decode (zcode j) pc = .ok (i, len)) (h : zs1 sc q j pc L S A i len = some (pc', L', S', A')) (hrc : A'.1.length ≤ n0 + R.cells) (hrs : zsl A'.1 ≤ s0 + R.slots)
    (hst : zSt D tc base b fmt adK adV s n0 s0 j L S A H locs cells slots ls)
    (kk : ∀ (H' : Heap) (locs' : List Loc) (cells' slots' : Nat) (ls' : Array Slot), zSt D tc base b fmt adK adV s n0 s0 j L' S' A' H' locs' cells' slots' ls' → W p l e R s m args below meth c H' locs' cells' slots' Q (F0 m pc' ls' (S'.map (zval base (zX b fmt adK adV))))) :
    W p l e R s m args below meth c H locs cells slots Q (F0 m pc ls (S.map (zval base (zX b fmt adK adV)))) := by
  obtain ⟨hl, hok, hP, hM, hS, hc, hsl⟩ := hst
  have hX := zX_ok (b := b) (adK := adK) (adV := adV) E.2.2.2.2.2.2.1
  unfold zs1 at h
  split at h
  · rename_i v hv
    cases h
    exact zW_push F E hS hd hv (kk H locs cells slots ls ⟨hl, List.forall_mem_cons.mpr ⟨zpush_okv hv, hok⟩, hP, hM, hS, hc, hsl⟩)
  split at h
  · rename_i k n hv
    split at h
    · rename_i v hlo
      split at h
      · rename_i hk
        cases h
        exact zW_load hX F hl hd hv hlo hk (kk H locs cells slots ls ⟨hl, List.forall_mem_cons.mpr ⟨(hl.2.2 n v (zlo_get hlo)).2, hok⟩, hP, hM, hS, hc, hsl⟩)
      · cases h
    · cases h
  split at h
  · rename_i k n hv
    split at h
    · rename_i v S0
      by_cases hk : zkind v = k ∧ n + (if k = 2 then 1 else 0) < zml j
      · rw [if_pos hk] at h
        cases h
        exact zW_stor hX F hl hd hv (hok v List.mem_cons_self) hk.1 hk.2 (fun ls' h' => kk H locs cells slots ls' ⟨h', fun w hw => hok w (List.mem_cons_of_mem _ hw), hP, hM, hS, hc, hsl⟩)
      · rw [if_neg hk] at h
        cases h
    · cases h
  split at h
  · rename_i nz f hf
    split at h
    · rename_i y x S0
      split at h
      · rename_i hk
        cases h
        obtain ⟨rfl, hnz⟩ := hk
        exact zW_b32 F hd hf (hok (.inl y) (by simp)) hnz (kk H locs cells slots ls ⟨hl, List.forall_mem_cons.mpr ⟨i32_in _, fun w hw => hok w (by simp [hw])⟩, hP, hM, hS, hc, hsl⟩)
      · cases h
    · cases h
  split at h
  · rename_i nz f hf
    split at h
    · rename_i y x S0
      split at h
      · rename_i hk
        cases h
        obtain ⟨rfl, hnz⟩ := hk
        exact zW_b64 F hd hf (hok (.inr (.inl y)) (by simp)) hnz (kk H locs cells slots ls ⟨hl, List.forall_mem_cons.mpr ⟨i64_in _, fun w hw => hok w (by simp [hw])⟩, hP, hM, hS, hc, hsl⟩)
      · cases h
    · cases h
  split at h
  · rename_i f hf
    split at h
    · rename_i x S0
      split at h
      · rename_i hk
        cases h
        subst hk
        exact zW_u32 F hd hf (kk H locs cells slots ls ⟨hl, List.forall_mem_cons.mpr ⟨i32_in _, fun w hw => hok w (by simp [hw])⟩, hP, hM, hS, hc, hsl⟩)
      · cases h
    · cases h
  exact zs0_ok F E hs hq1 hq2 hd h hrc hrs ⟨hl, hok, hP, hM, hS, hc, hsl⟩ kk
theorem zald_ok {A : zM} {q : Nat} {x : Int} {v : zV} (E : zEv D tc base b sc fmt adK adV s s.heap) (hM : zMo A) (h : zald sc A i q x = some v) : zokv v := by
  unfold zald at h
  split at h
  · rename_i t n hA
    have hz := (hM.2.2 q _ _ hA).2 x.toNat
    unfold zrng at hz
    split at h
    · split at h
      · split at h
        · rename_i ht; cases h
          rw [if_neg (by omega)] at hz
          exact hz
        · cases h
      · split at h
        · rename_i ht; cases h
          rw [if_neg (by omega)] at hz
          exact hz
        · cases h
      · split at h
        · rename_i ht; cases h
          rw [if_pos (Or.inl ht)] at hz
          exact hz
        · cases h
      · split at h
        · cases h; exact trivial
        · cases h
      · cases h
    · cases h
  · split at h
    · split at h
      · cases h
        obtain ⟨xs, -, hxs⟩ := E.2.1
        rw [← hxs]
        exact i32_in _
      · cases h
    · split at h
      · cases h; exact i32_in _
      · cases h
    · cases h
theorem zstep_ok {q pc' n0 s0 : Nat} {L L' : zL} {S S' : List zV} {A A' : zM} (F : zFr p s m args meth c j) (E : zEv D tc base b sc fmt adK adV s s.heap) (hs : s.heap.size = base + n0) (hq1 : q ≤ R.frames) (hq2 : 64 * q ≤ R.locals) (hd : decode (zcode j) pc = .ok (i, len)) (h : zstep sc q j pc L S A i len = some (pc', L', S', A')) (hrc : A'.1.length ≤ n0 + R.cells) (hrs : zsl A'.1 ≤ s0 + R.slots)
    (hst : zSt D tc base b fmt adK adV s n0 s0 j L S A H locs cells slots ls)
    (kk : ∀ (H' : Heap) (locs' : List Loc) (cells' slots' : Nat) (ls' : Array Slot), zSt D tc base b fmt adK adV s n0 s0 j L' S' A' H' locs' cells' slots' ls' → W p l e R s m args below meth c H' locs' cells' slots' Q (F0 m pc' ls' (S'.map (zval base (zX b fmt adK adV))))) :
    W p l e R s m args below meth c H locs cells slots Q (F0 m pc ls (S.map (zval base (zX b fmt adK adV)))) := by
  unfold zstep at h
  split at h
  · rename_i r hr
    cases h
    exact zs1_ok F E hs hq1 hq2 hd hr hrc hrs hst kk
  · obtain ⟨hl, hok, hP, hM, hS, hc, hsl⟩ := hst
    split at h
    · rename_i r hr
      cases h
      unfold zs2 at hr
      split at hr
      · rename_i x q0 S0
        split at hr
        · rename_i v hv
          split at hr
          · rename_i hk
            cases hr; subst hk
            exact zW_ald F E hP hM hS (hok (.inl _) (by simp)) hd hv (kk H locs cells slots ls ⟨hl, List.forall_mem_cons.mpr ⟨zald_ok E hM hv, fun w hw => hok w (by simp [hw])⟩, hP, hM, hS, hc, hsl⟩)
          · cases hr
        · cases hr
      · cases hr
    · unfold zs3 at h
      split at h
      · rename_i v x q0 S0
        split at h
        · rename_i A1 hv
          split at h
          · rename_i hk
            cases h; subst hk
            exact zW_ast F E hP hM hS (hok (.inl _) (by simp)) (hok _ (by simp)) hd hv (fun H1 l1 e1 a1 a2 a3 => kk H1 l1 cells slots ls ⟨hl, fun w hw => hok w (by simp [hw]), a1, a2, a3, by rw [e1]; exact hc, by rw [e1]; exact hsl⟩)
          · cases h
        · cases h
      · cases h
end ZW8
