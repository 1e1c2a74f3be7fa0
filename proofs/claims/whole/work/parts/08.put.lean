/-! Steps that write the cells. -/
theorem zKT_at {ci k : Nat} (h : ci < 9) (hk : k < zNF ci) : zKT (zfk ci k) (zTY ci k) = true := List.all_eq_true.mp (List.all_eq_true.mp zKT_ok ci (List.mem_range.mpr h)) k (List.mem_range.mpr hk)
theorem zKT_0 {t : FieldType} (h : zKT 0 t = true) : t = .int := by cases t <;> first | rfl | cases h
theorem zKT_1 {t : FieldType} (h : zKT 1 t = true) : t = .long := by cases t <;> first | rfl | cases h
theorem zKT_3 {t : FieldType} (h : zKT 3 t = true) : t = .boolean := by cases t <;> first | rfl | cases h
theorem zKT_2 {t : FieldType} (h : zKT 2 t = true) (a : Nat) : narrow t (.ref a) = .ref a ∧ fits t (.ref a) = true := by
  cases t <;> first | exact ⟨rfl, rfl⟩ | cases h
theorem zWo_up {A : zM} {D : va_G} {cl : List vw_C} {base : Nat} {tc : Nat → ClassId} {H1 : Heap} {q k t n : Nat} {x : Int} {e : va_E} (hA : A.1[q]? = some (t, n)) (he : zEnt base tc t n A.2.1 (zup A.2.2 q k x) q = e) (h : va_P D cl ((zWo base tc A).set q (base + q, e)) H1) : va_P D cl (zWo base tc (A.1, A.2.1, zup A.2.2 q k x)) H1 := by
  rw [zWo_set (A' := (A.1, A.2.1, zup A.2.2 q k x)) (A := A) rfl hA (fun i hi t n => zEnt_up (G := A.2.1) (M := A.2.2) (c := q) (k := k) (v := x) hi) he] at h
  exact h
theorem zWo_gs {A : zM} {D : va_G} {cl : List vw_C} {base : Nat} {tc : Nat → ClassId} {H1 : Heap} {q k t n r : Nat} {e : va_E} (hA : A.1[q]? = some (t, n)) (hc : q < A.2.1.length) (hk : k < (A.2.1.getD q []).length) (he : zEnt base tc t n (zgst A.2.1 q k r) A.2.2 q = e) (h : va_P D cl ((zWo base tc A).set q (base + q, e)) H1) : va_P D cl (zWo base tc (A.1, zgst A.2.1 q k r, A.2.2)) H1 := by
  rw [zWo_set (A' := (A.1, zgst A.2.1 q k r, A.2.2)) (A := A) rfl hA (fun i hi t n => zEnt_gst (G := A.2.1) (M := A.2.2) (c := q) (k := k) (v := r) hc hk hi) he] at h
  exact h
section ZW4
variable {p : Program} {l : Launch} {e : Env} {R : Room} {s : State} {m : MethodId} {args : Array Value} {below : List Frame} {meth : Method} {c : Code} {H : Heap} {locs : List Loc} {cells slots : Nat} {Q : State → Prop}
variable {D : va_G} {tc : Nat → ClassId} {base b : Nat} {sc : zSc} {fmt : Value} {adK adV : Nat → Nat} {j pc len : Nat} {i : Instr} {ls : Array Slot} {st : List Value}
theorem zW_putg {A : zM} {idx q : Nat} {e2 : Nat × Nat × Nat × Nat × Bool} {V : Value} (F : zFr p s m args meth c j) (E : zEv D tc base b sc fmt adK adV s s.heap) (hP : va_P D vwCl (zWo base tc A) H) (hS : va_S (fun q => base ≤ q) s.heap H locs) (hd : decode (zcode j) pc = .ok (.putfield idx, 3))
    (he : (zFK (zcls j)).find? (fun e => e.1 == idx) = some e2) (hA : A.1[q]? = some (10 + e2.2.1, zNF e2.2.1)) (hf : (zTX e2.2.1 e2.2.2.1).2.2.2 = false ∨ ((zy j).name = "<init>" ∧ e2.2.1 = zcls j ∧ e2.2.2.2.2 = false))
    (hn : narrow (zTY e2.2.1 e2.2.2.1) V = V) (hfit : fits (zTY e2.2.1 e2.2.2.1) V = true)
    (kk : ∀ (H1 : Heap) (locs1 : List Loc), va_P D vwCl ((zWo base tc A).set q (base + q, .inr (e2.2.1, ((List.range (zNF e2.2.1)).map (zfv base A.2.1 A.2.2 e2.2.1 q)).set e2.2.2.1 V))) H1 → va_S (fun q => base ≤ q) s.heap H1 locs1 → W p l e R s m args below meth c H1 locs1 cells slots Q (F0 m (pc + 3) ls st)) : W p l e R s m args below meth c H locs cells slots Q (F0 m pc ls (V :: .ref (base + q) :: st)) := by
  obtain ⟨hx, hb, hml, hown, hts, hin⟩ := F
  obtain ⟨hw, h9, hk, hT⟩ := zFK_w he
  have hg : (zWo base tc A)[q]? = some (base + q, .inr (e2.2.1, (List.range (zNF e2.2.1)).map (zfv base A.2.1 A.2.2 e2.2.1 q))) := by
    rw [zWo_get hA, zEnt_obj]
  have hl : e2.2.2.1 < ((List.range (zNF e2.2.1)).map (zfv base A.2.1 A.2.2 e2.2.1 q)).length := by simpa using hk
  have hsm : ∀ x, s.fieldFound? (zTX e2.2.1 e2.2.2.1).1 (zTX e2.2.1 e2.2.2.1).2.1 (zTX e2.2.1 e2.2.2.1).2.2.1 = some x → s.fieldFound? (zRNi e2.2.1) (zTX e2.2.1 e2.2.2.1).2.1 (zTX e2.2.1 e2.2.2.1).2.2.1 = some x := fun x hx => by rw [← hT]; exact hx
  by_cases hfin : (zTX e2.2.1 e2.2.2.1).2.2.2 = false
  · split at hw
    · exact va_putN (D := D) (ref := zRNi e2.2.1) hx hb hts (zY_in h9) (zTY e2.2.1) (zPT_ok _ h9) (zNM_ok _ h9) hown E.1 hP zWo_D hS q hg (zVW_ok _ h9) e2.2.2.1 hk (va_Nw.use rfl (E.2.2.2.2.2.2.2.1 _ hw)) hsm hfin (zPT_ok _ h9 _ hk) hn hfit hl hd (fun H1 l1 a1 _ a3 => kk H1 l1 a1 a3)
    · exact va_put (D := D) (ref := zRNi e2.2.1) hx hb hts (zY_in h9) (zTY e2.2.1) (zPT_ok _ h9) (zNM_ok _ h9) hown E.1 hP zWo_D hS q hg (zVW_ok _ h9) e2.2.2.1 hk (hts _ hw) hsm hfin (zPT_ok _ h9 _ hk) hn hfit hl hd (fun H1 l1 a1 _ a3 => kk H1 l1 a1 a3)
  · obtain ⟨hi, hci, hne⟩ := hf.resolve_left hfin
    rw [if_neg (by rw [hne]; decide)] at hw
    have hfin' : (zTX e2.2.1 e2.2.2.1).2.2.2 = true := by simpa using hfin
    exact va_putF (D := D) (ref := zRNi e2.2.1) hx hb hts (zY_in h9) (zTY e2.2.1) (zPT_ok _ h9) (zNM_ok _ h9) hown E.1 hP zWo_D hS q hg (zVW_ok _ h9) e2.2.2.1 hk (hts _ hw) hsm hfin' (hin hi) (by rw [hT, hci]) (zPT_ok _ h9 _ hk) hn hfit hl hd (fun H1 l1 a1 _ a3 => kk H1 l1 a1 a3)
theorem zMo_up {A : zM} (hM : zMo A) {q k t n : Nat} {x : Int} (hA : A.1[q]? = some (t, n)) (hx : zrng t k x) : zMo (A.1, A.2.1, zup A.2.2 q k x) := by
  refine ⟨hM.1, hM.2.1, fun a t' n' h => ⟨(hM.2.2 a t' n' h).1, fun i => ?_⟩⟩
  show zrng t' i (zup A.2.2 q k x a i)
  unfold zup
  split
  · rename_i z
    obtain ⟨rfl, rfl⟩ := z
    have h' : A.1[a]? = some (t', n') := h
    rw [h'] at hA
    cases hA
    exact hx
  · exact (hM.2.2 a t' n' h).2 i
theorem zMo_gst {A : zM} (hM : zMo A) {q k v : Nat} : zMo (A.1, zgst A.2.1 q k v, A.2.2) := by
  refine ⟨?_, hM.2.1, fun a t' n' h => ⟨?_, (hM.2.2 a t' n' h).2⟩⟩
  · show (zgst A.2.1 q k v).length = _
    unfold zgst
    rw [List.length_set]
    exact hM.1
  · show ((zgst A.2.1 q k v).getD a []).length = n'
    rw [← (hM.2.2 a t' n' h).1]
    unfold zgst
    by_cases ha : a = q
    · subst ha
      rw [List.getD_eq_getElem?_getD, List.getElem?_set]
      simp only [if_true]
      split
      · show ((A.2.1.getD a []).set k v).length = _
        rw [List.length_set]
      · rename_i hz
        rw [List.getD_eq_getElem?_getD, List.getElem?_eq_none (by omega)]
    · rw [List.getD_eq_getElem?_getD, List.getElem?_set_ne (Ne.symm ha), ← List.getD_eq_getElem?_getD]
theorem zG_lt {A : zM} (hM : zMo A) {q t n : Nat} (hA : A.1[q]? = some (t, n)) : q < A.2.1.length := by
  rw [hM.1]
  exact (List.getElem?_eq_some_iff.mp hA).1
theorem zW_putf {A A' : zM} {idx q : Nat} {v : zV} (F : zFr p s m args meth c j) (E : zEv D tc base b sc fmt adK adV s s.heap) (hP : va_P D vwCl (zWo base tc A) H) (hM : zMo A) (hS : va_S (fun q => base ≤ q) s.heap H locs) (hv : zokv v) (hd : decode (zcode j) pc = .ok (.putfield idx, 3)) (h : zputf j A idx q v = some A')
    (kk : ∀ (H1 : Heap) (locs1 : List Loc), A'.1 = A.1 → va_P D vwCl (zWo base tc A') H1 → zMo A' → va_S (fun q => base ≤ q) s.heap H1 locs1 → W p l e R s m args below meth c H1 locs1 cells slots Q (F0 m (pc + 3) ls st)) : W p l e R s m args below meth c H locs cells slots Q (F0 m pc ls (zval base (zX b fmt adK adV) v :: zval base (zX b fmt adK adV) (.inr (.inr q)) :: st)) := by
  unfold zputf at h
  split at h
  · rename_i e2 he
    obtain ⟨hw, h9, hk, hT⟩ := zFK_w he
    split at h
    · rename_i hAf
      obtain ⟨hA, hf⟩ := hAf
      have hq := zMo_lt hM hA
      have hkt := zKT_at h9 hk
      show W p l e R s m args below meth c H locs cells slots Q (F0 m pc ls (zval base (zX b fmt adK adV) v :: zref base _ q :: st))
      rw [zref_own hq]
      have rg : ∀ x, zfk e2.2.1 e2.2.2.1 ≠ 1 → in32 x → zrng (10 + e2.2.1) e2.2.2.1 x := fun x hz hx => by
        unfold zrng
        rw [if_neg (by rintro (z | ⟨-, z⟩); omega; rw [show 10 + e2.2.1 - 10 = e2.2.1 by omega] at z; exact hz z)]
        exact hx
      split at h
      · rename_i x hz
        cases h
        rw [hz] at hkt
        have hty := zKT_0 hkt
        refine zW_putg F E hP hS hd he hA hf (by rw [hty]; rfl) (by rw [hty]; rfl) (fun H1 l1 a1 a3 => kk H1 l1 rfl ?_ (zMo_up hM hA (rg x (by rw [hz]; decide) hv)) a3)
        refine zWo_up hA ?_ a1
        · rw [zEnt_obj]
          congr 2
          refine (zmap_set ?_ ?_).symm
          · unfold zfv; rw [hz]; show Value.int (Int32.ofInt (zup _ _ _ _ _ _)) = _; unfold zup; rw [if_pos ⟨rfl, rfl⟩]; rfl
          · intro i hi; unfold zfv zup; rw [if_neg (fun z => hi z.2)]
      · rename_i x hz
        split at h
        · rename_i h01
          cases h
          rw [hz] at hkt
          have hty := zKT_3 hkt
          refine zW_putg F E hP hS hd he hA hf (by rw [hty]; rcases h01 with rfl | rfl <;> rfl) (by rw [hty]; rcases h01 with rfl | rfl <;> rfl) (fun H1 l1 a1 a3 => kk H1 l1 rfl ?_ (zMo_up hM hA (rg x (by rw [hz]; decide) hv)) a3)
          refine zWo_up hA ?_ a1
          · rw [zEnt_obj]
            congr 2
            refine (zmap_set ?_ ?_).symm
            · unfold zfv; rw [hz]; show Value.int (Int32.ofInt (zup _ _ _ _ _ _)) = _; unfold zup; rw [if_pos ⟨rfl, rfl⟩]; rfl
            · intro i hi; unfold zfv zup; rw [if_neg (fun z => hi z.2)]
        · cases h
      · rename_i x hz
        cases h
        rw [hz] at hkt
        have hty := zKT_1 hkt
        refine zW_putg F E hP hS hd he hA hf (by rw [hty]; rfl) (by rw [hty]; rfl) (fun H1 l1 a1 a3 => kk H1 l1 rfl ?_ (zMo_up hM hA ?_) a3)
        · refine zWo_up hA ?_ a1
          · rw [zEnt_obj]
            congr 2
            refine (zmap_set ?_ ?_).symm
            · unfold zfv; rw [hz]; show Value.long (Int64.ofInt (zup _ _ _ _ _ _)) = _; unfold zup; rw [if_pos ⟨rfl, rfl⟩]; rfl
            · intro i hi; unfold zfv zup; rw [if_neg (fun z => hi z.2)]
        · unfold zrng
          rw [if_pos (Or.inr ⟨by omega, by rw [show 10 + e2.2.1 - 10 = e2.2.1 by omega]; exact hz⟩)]
          exact hv
      · rename_i r hz
        split at h
        · rename_i hr
          cases h
          rw [hz] at hkt
          have e1 : zval base (zX b fmt adK adV) (.inr (.inr r)) = .ref (base + r) := zref_own hr
          rw [e1]
          have hgl := zG_lt hM hA
          have hgk : e2.2.2.1 < (A.2.1.getD q []).length := by rw [(hM.2.2 q _ _ hA).1]; exact hk
          refine zW_putg F E hP hS hd he hA hf (zKT_2 hkt _).1 (zKT_2 hkt _).2 (fun H1 l1 a1 a3 => kk H1 l1 rfl ?_ (zMo_gst hM) a3)
          refine zWo_gs hA hgl hgk ?_ a1
          · rw [zEnt_obj]
            congr 2
            refine (zmap_set ?_ ?_).symm
            · unfold zfv; rw [hz]; show va_rf (zro base (zgld (zgst _ _ _ _) _ _)) = _; rw [zgld_st hgl hgk, if_pos ⟨rfl, rfl⟩]; unfold zro; rw [if_pos hr]; rfl
            · intro i hi; unfold zfv; rw [zgld_st hgl hgk, if_neg (fun z => hi z.2)]
        · cases h
      · cases h
    · cases h
  · cases h
theorem zup_f {M : Nat → Nat → Int} {q k : Nat} {x : Int} : (fun j => Int32.ofInt (zup M q k x q j)) = upd (fun j => Int32.ofInt (M q j)) k (Int32.ofInt x) := by
  funext j
  unfold zup upd
  by_cases h : j = k
  · rw [if_pos ⟨rfl, h⟩, if_pos h]
  · rw [if_neg (fun z => h z.2), if_neg h]
theorem zup_fL {M : Nat → Nat → Int} {q k : Nat} {x : Int} : (fun j => Int64.ofInt (zup M q k x q j)) = vp_updL (fun j => Int64.ofInt (M q j)) k (Int64.ofInt x) := by
  funext j
  unfold zup vp_updL
  by_cases h : j = k
  · rw [if_pos ⟨rfl, h⟩, if_pos h]
  · rw [if_neg (fun z => h z.2), if_neg h]
theorem zW_ast {A A' : zM} {q : Nat} {x : Int} {v : zV} (F : zFr p s m args meth c j) (E : zEv D tc base b sc fmt adK adV s s.heap) (hP : va_P D vwCl (zWo base tc A) H) (hM : zMo A) (hS : va_S (fun q => base ≤ q) s.heap H locs) (hx1 : in32 x) (hv : zokv v) (hd : decode (zcode j) pc = .ok (i, 1)) (h : zast A i q x v = some A')
    (kk : ∀ (H1 : Heap) (locs1 : List Loc), A'.1 = A.1 → va_P D vwCl (zWo base tc A') H1 → zMo A' → va_S (fun q => base ≤ q) s.heap H1 locs1 → W p l e R s m args below meth c H1 locs1 cells slots Q (F0 m (pc + 1) ls st)) : W p l e R s m args below meth c H locs cells slots Q (F0 m pc ls (zval base (zX b fmt adK adV) v :: zval base (zX b fmt adK adV) (.inl x) :: zval base (zX b fmt adK adV) (.inr (.inr q)) :: st)) := by
  obtain ⟨hx, hb, hml, hown, hts, hin⟩ := F
  unfold zast at h
  split at h
  · rename_i t n hA
    have hq := zMo_lt hM hA
    have hg := zWo_get (base := base) (tc := tc) hA
    split at h
    · rename_i hr
      have hvi := vp_inI (n := n) hx1 hr.1 hr.2
      have ec := clampI hx1
      show W p l e R s m args below meth c H locs cells slots Q (F0 m pc ls (_ :: .int (Int32.ofInt x) :: zref base _ q :: st))
      rw [zref_own hq]
      split at h
      · rename_i y
        split at h
        · rename_i ht; subst ht; cases h
          refine va_iast hx hb E.1 hP zWo_D hS q 0 hg rfl hvi hd (fun H1 l1 a1 _ a3 => kk H1 l1 rfl ?_ (zMo_up hM hA hv) a3)
          rw [ec] at a1
          have e1 : zEnt base tc 0 n A.2.1 (zup A.2.2 q x.toNat y) q = .inl (tc 0, n, .inl (upd (fun j => Int32.ofInt (A.2.2 q j)) x.toNat (Int32.ofInt y))) := by
            rw [← zup_f]; rfl
          exact zWo_up hA e1 a1
        · cases h
      · rename_i y
        split at h
        · rename_i ht; subst ht; cases h
          refine va_bast hx hb E.1 hP zWo_D hS q 1 hg rfl hvi hd (fun H1 l1 a1 _ a3 => kk H1 l1 rfl ?_ (zMo_up hM hA (i32_in _)) a3)
          rw [ec, vp_nar_byte] at a1
          have e1 : zEnt base tc 1 n A.2.1 (zup A.2.2 q x.toNat (Int32.ofInt y).toInt8.toInt32.toInt) q = .inl (tc 1, n, .inl (upd (fun j => Int32.ofInt (A.2.2 q j)) x.toNat (Int32.ofInt y).toInt8.toInt32)) := by
            rw [← Int32.ofInt_toInt (Int32.ofInt y).toInt8.toInt32, ← zup_f, Int32.ofInt_toInt]; rfl
          exact zWo_up hA e1 a1
        · split at h
          · rename_i ht; obtain ⟨rfl, h01⟩ := ht; cases h
            refine va_zast hx hb E.1 hP zWo_D hS q 3 hg rfl hvi hd (fun H1 l1 a1 _ a3 => kk H1 l1 rfl ?_ (zMo_up hM hA hv) a3)
            have e2 : vp_nar .boolean (Int32.ofInt y) = Int32.ofInt y := by rcases h01 with rfl | rfl <;> rfl
            rw [ec, e2] at a1
            have e1 : zEnt base tc 3 n A.2.1 (zup A.2.2 q x.toNat y) q = .inl (tc 3, n, .inl (upd (fun j => Int32.ofInt (A.2.2 q j)) x.toNat (Int32.ofInt y))) := by
              rw [← zup_f]; rfl
            exact zWo_up hA e1 a1
          · cases h
      · rename_i y
        split at h
        · rename_i ht; subst ht; cases h
          refine va_last hx hb E.1 hP zWo_D hS q 2 hg rfl hvi hd (fun H1 l1 a1 _ a3 => kk H1 l1 rfl ?_ (zMo_up hM hA hv) a3)
          rw [ec] at a1
          have e1 : zEnt base tc 2 n A.2.1 (zup A.2.2 q x.toNat y) q = .inl (tc 2, n, .inr (.inl (vp_updL (fun j => Int64.ofInt (A.2.2 q j)) x.toNat (Int64.ofInt y)))) := by
            rw [← zup_fL]; rfl
          exact zWo_up hA e1 a1
        · cases h
      · rename_i r
        split at h
        · rename_i ht
          cases h
          obtain ⟨rfl, hr5, hrA⟩ := ht
          have e1 : zval base (zX b fmt adK adV) (.inr (.inr r)) = .ref (base + r) := zref_own hr5
          rw [e1]
          have hgr := zWo_get (base := base) (tc := tc) hrA
          rw [show (12 : Nat) = 10 + 2 from rfl, zEnt_obj] at hgr
          have hgl := zG_lt hM hA
          have hxn : x.toNat < n := by omega
          have hgk : x.toNat < (A.2.1.getD q []).length := by rw [(hM.2.2 q _ _ hA).1]; exact hxn
          refine va_astq (r := (zRNi 2, zTX 2, zNF 2)) hx hb E.1 hP zWo_D hS q 4 r 2 hg rfl hgr rfl hvi hd (fun H1 l1 a1 _ a3 => kk H1 l1 rfl ?_ (zMo_gst hM) a3)
          rw [ec] at a1
          have e1 : zEnt base tc 4 n (zgst A.2.1 q x.toNat r) A.2.2 q = .inl (tc 4, n, .inr (.inr (.inr (.inr (va_up (fun j => zro base (zgld A.2.1 q j)) x.toNat (some (base + r))))))) := by
            have e3 : (fun j => zro base (zgld (zgst A.2.1 q x.toNat r) q j)) = va_up (fun j => zro base (zgld A.2.1 q j)) x.toNat (some (base + r)) := by
              funext k
              unfold va_up
              rw [zgld_st hgl hgk]
              by_cases hk : k = x.toNat
              · rw [if_pos ⟨rfl, hk⟩, if_pos hk]; unfold zro; rw [if_pos hr5]
              · rw [if_neg (fun z => hk z.2), if_neg hk]
            rw [← e3]; rfl
          exact zWo_gs hA hgl hgk e1 a1
        · cases h
      · cases h
    · cases h
  · cases h
end ZW4
