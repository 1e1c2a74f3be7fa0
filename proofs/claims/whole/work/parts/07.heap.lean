/-! Steps that read the cells. -/
theorem zY_in {ci : Nat} (h : ci < 9) : ∀ w ∈ u_ws (zRNi ci) (zTX ci) (zNF ci), w ∈ zGW := by
  intro w hw
  unfold u_ws at hw
  obtain ⟨k, hk, rfl⟩ := List.mem_map.mp hw
  exact zat_in (List.all_eq_true.mp (List.all_eq_true.mp zY_ok ci (List.mem_range.mpr h)) k hk)
theorem zFK_w {C idx : Nat} {e : Nat × Nat × Nat × Nat × Bool} (h : (zFK C).find? (fun e => e.1 == idx) = some e) :
    (if e.2.2.2.2 = true then Jvm.Cond.fieldLinkNest (zRNi C) idx (zRNi e.2.1) (zTX e.2.1 e.2.2.1).2.1 (zTX e.2.1 e.2.2.1).2.2.1 "LeashedNames" ∈ zNW else Jvm.Cond.fieldLink (zRNi C) idx (zRNi e.2.1) (zTX e.2.1 e.2.2.1).2.1 (zTX e.2.1 e.2.2.1).2.2.1 ∈ zGW) ∧ e.2.1 < 9 ∧ e.2.2.1 < zNF e.2.1 ∧ (zTX e.2.1 e.2.2.1).1 = zRNi e.2.1 := by
  obtain ⟨h1, h2⟩ := zfind h
  have h4 := List.all_eq_true.mp (zFK_ok C) e h1
  have h3 := eq_of_beq h2
  rw [Bool.and_eq_true, decide_eq_true_eq] at h4
  obtain ⟨h4, h5⟩ := h4
  refine ⟨?_, h5⟩
  rw [← h3]
  split at h4
  · rename_i q
    rw [if_pos q]
    exact zatN_in h4
  · rename_i q
    rw [if_neg q]
    exact zat_in h4
theorem zEnt_obj {base : Nat} {tc : Nat → ClassId} {ci n k : Nat} {G : List (List Nat)} {M : Nat → Nat → Int} : zEnt base tc (10 + ci) n G M k = .inr (ci, (List.range n).map (zfv base G M ci k)) := by
  unfold zEnt
  rw [if_neg (by omega), if_neg (by omega), if_neg (by omega), show 10 + ci - 10 = ci by omega]
theorem zmap_at {α : Type} {f : Nat → α} {n k : Nat} (h : k < n) : ((List.range n).map f)[k]? = some (f k) := by
  rw [List.getElem?_map, List.getElem?_range h]
  rfl
theorem zmap_set {α : Type} {f g : Nat → α} {n k : Nat} {v : α} (h1 : g k = v) (h2 : ∀ i, i ≠ k → g i = f i) : ((List.range n).map f).set k v = (List.range n).map g := by
  apply List.ext_getElem?
  intro i
  by_cases hi : i < n
  · by_cases hik : i = k
    · subst hik
      rw [List.getElem?_set_self (by simpa using hi), zmap_at hi, h1]
    · rw [List.getElem?_set_ne (Ne.symm hik), zmap_at hi, zmap_at hi, h2 i hik]
  · rw [List.getElem?_eq_none (by simpa using hi), List.getElem?_eq_none (by simpa using hi)]
theorem zref_own {base c : Nat} {X : Nat → Value} (h : c < 5000) : zref base X c = .ref (base + c) := if_pos h
theorem zMo_lt {A : zM} (hM : zMo A) {c t n : Nat} (h : A.1[c]? = some (t, n)) : c < 5000 := by
  have h1 := (List.getElem?_eq_some_iff.mp h).1
  have h2 := hM.2.1
  omega
theorem vp_inI {x : Int} {n : Nat} (h : in32 x) (h0 : 0 ≤ x) (h1 : x < n) : vp_in (Int32.ofInt x) n := vp_in_iff.mpr ⟨by rw [i32_of h]; exact h0, by rw [i32_of h]; exact h1⟩
theorem clampI {x : Int} (h : in32 x) : (Int32.ofInt x).toNatClampNeg = x.toNat := by
  show (Int32.ofInt x).toInt.toNat = _
  rw [i32_of h]
theorem zst_ci {adK adV : Nat → Nat} {b : Nat} {fmt : Value} {base i : Nat} (h : i < 30) : zref base (zX b fmt adK adV) (5003 + i) = .ref (adK i) ∧ zref base (zX b fmt adK adV) (5040 + i) = .ref (adV i) := by
  unfold zref zX
  refine ⟨?_, ?_⟩
  · rw [if_neg (by omega), if_neg (by omega), if_neg (by omega), if_neg (by omega), if_pos (by omega), show 5003 + i - 5000 - 3 = i by omega]
  · rw [if_neg (by omega), if_neg (by omega), if_neg (by omega), if_neg (by omega), if_neg (by omega), show 5040 + i - 5000 - 40 = i by omega]
theorem zref_scr {adK adV : Nat → Nat} {b : Nat} {fmt : Value} {base : Nat} : zref base (zX b fmt adK adV) 5001 = .ref b := rfl
section ZW3
variable {p : Program} {l : Launch} {e : Env} {R : Room} {s : State} {m : MethodId} {args : Array Value} {below : List Frame} {meth : Method} {c : Code} {H : Heap} {locs : List Loc} {cells slots : Nat} {Q : State → Prop}
variable {D : va_G} {tc : Nat → ClassId} {base b : Nat} {sc : zSc} {fmt : Value} {adK adV : Nat → Nat} {j pc len : Nat} {i : Instr} {ls : Array Slot} {st : List Value}
theorem zW_getf {A : zM} {idx q : Nat} {v : zV} (F : zFr p s m args meth c j) (E : zEv D tc base b sc fmt adK adV s s.heap) (hP : va_P D vwCl (zWo base tc A) H) (hM : zMo A) (hS : va_S (fun q => base ≤ q) s.heap H locs) (hd : decode (zcode j) pc = .ok (.getfield idx, 3)) (h : zgetf (zcls j) A idx q = some v)
    (kk : W p l e R s m args below meth c H locs cells slots Q (F0 m (pc + 3) ls (zval base (zX b fmt adK adV) v :: st))) : W p l e R s m args below meth c H locs cells slots Q (F0 m pc ls (zval base (zX b fmt adK adV) (.inr (.inr q)) :: st)) := by
  obtain ⟨hx, hb, hml, hown, hts, hin⟩ := F
  have hXo := zX_ok (b := b) (adK := adK) (adV := adV) E.2.2.2.2.2.2.1
  unfold zgetf at h
  split at h
  · rename_i e2 he
    obtain ⟨hw, h9, hk, hT⟩ := zFK_w he
    split at h
    · rename_i hA
      have hq : q < 5000 := zMo_lt hM hA
      have hg : (zWo base tc A)[q]? = some (base + q, .inr (e2.2.1, (List.range (zNF e2.2.1)).map (zfv base A.2.1 A.2.2 e2.2.1 q))) := by
        rw [zWo_get hA, zEnt_obj]
      have hv : zfv base A.2.1 A.2.2 e2.2.1 q e2.2.2.1 = zval base (zX b fmt adK adV) v := by
        unfold zfv
        split at h
        · rename_i hz
          rw [hz]; cases h; rfl
        · rename_i hz
          rw [hz]; cases h; rfl
        · rename_i hz
          rw [hz]; cases h; rfl
        · rename_i hz0 hz3 hz1
          split at h
          · rename_i h5
            cases h
            split
            · rename_i hz; exact absurd hz hz0
            · rename_i hz; exact absurd hz hz3
            · rename_i hz; exact absurd hz hz1
            · exact (zro_ref hXo h5).symm
          · cases h
      show W p l e R s m args below meth c H locs cells slots Q (F0 m pc ls (zref base _ q :: st))
      rw [zref_own hq]
      split at hw
      · exact va_getN (D := D) (ref := zRNi e2.2.1) hx hb hts (zY_in h9) hown E.1 hP q hg (zVW_ok _ h9) e2.2.2.1 hk (va_Nw.use rfl (E.2.2.2.2.2.2.2.1 _ hw)) (fun x hx => by rw [← hT]; exact hx) (v := zval base (zX b fmt adK adV) v) (by rw [zmap_at hk, hv]) hd kk
      · exact va_get (D := D) (ref := zRNi e2.2.1) hx hb hts (zY_in h9) hown E.1 hP q hg (zVW_ok _ h9) e2.2.2.1 hk (hts _ hw) (fun x hx => by rw [← hT]; exact hx) (v := zval base (zX b fmt adK adV) v) (by rw [zmap_at hk, hv]) hd kk
    · cases h
  · split at h
    · rename_i e2 he
      obtain ⟨h1, h2⟩ := zfind he
      have h4 := zat_in (List.all_eq_true.mp (zXK_ok (zcls j)) e2 h1)
      rw [eq_of_beq h2] at h4
      split at h
      · rename_i hr
        obtain ⟨i, rfl⟩ : ∃ i, q = 5003 + i := ⟨q - 5003, by omega⟩
        have hi : i < 30 := by omega
        obtain ⟨hV, -⟩ := E.2.2.2.1 i hi
        obtain ⟨-, hco, hva, -⟩ := hV.1 0 (by omega)
        show W p l e R s m args below meth c H locs cells slots Q (F0 m pc ls (zref base _ (5003 + i) :: st))
        rw [(zst_ci hi).1]
        split at h
        · rename_i hz
          cases h
          rw [if_pos hz] at h4
          rw [show 5003 + i + 37 = 5040 + i by omega] at kk
          have kk' : W p l e R s m args below meth c H locs cells slots Q (F0 m (pc + 3) ls (zref base (zX b fmt adK adV) (5040 + i) :: st)) := kk
          rw [(zst_ci hi).2] at kk'
          exact vk_getf hx hb hva hS hown (hts _ h4) (fun _ h => h) hd kk'
        · rename_i hz
          cases h
          rw [if_neg hz] at h4
          exact vk_getf hx hb hco hS hown (hts _ h4) (fun _ h => h) hd kk
      · cases h
    · cases h
theorem zW_len {A : zM} {q : Nat} {n : Int} (F : zFr p s m args meth c j) (E : zEv D tc base b sc fmt adK adV s s.heap) (hP : va_P D vwCl (zWo base tc A) H) (hM : zMo A) (hS : va_S (fun q => base ≤ q) s.heap H locs) (hd : decode (zcode j) pc = .ok (.arraylength, 1)) (h : zlen sc A q = some n)
    (kk : W p l e R s m args below meth c H locs cells slots Q (F0 m (pc + 1) ls (zval base (zX b fmt adK adV) (.inl (w32 n)) :: st))) : W p l e R s m args below meth c H locs cells slots Q (F0 m pc ls (zval base (zX b fmt adK adV) (.inr (.inr q)) :: st)) := by
  obtain ⟨hx, hb, hml, hown, hts, hin⟩ := F
  unfold w32 at kk
  rw [zvi] at kk
  unfold zlen at h
  split at h
  · rename_i t N hA
    split at h
    · rename_i ht
      cases h
      have hq := zMo_lt hM hA
      have hg := zWo_get (base := base) (tc := tc) hA
      have e1 : Int32.ofInt (N : Int) = Int32.ofNat N := rfl
      rw [e1] at kk
      show W p l e R s m args below meth c H locs cells slots Q (F0 m pc ls (zref base _ q :: st))
      rw [zref_own hq]
      match t, ht, hg with
      | 0, _, hg => exact va_alen hx hb E.1 hP q 0 hg rfl rfl hd kk
      | 1, _, hg => exact va_alen hx hb E.1 hP q 1 hg rfl rfl hd kk
      | 2, _, hg => exact va_alen hx hb E.1 hP q 2 hg rfl rfl hd kk
      | 3, _, hg => exact va_alen hx hb E.1 hP q 3 hg rfl rfl hd kk
      | 4, _, hg => exact va_alen hx hb E.1 hP q 4 hg rfl rfl hd kk
      | 5, _, hg => exact va_alen hx hb E.1 hP q 5 hg rfl rfl hd kk
    · cases h
  · split at h
    · rename_i hq
      cases h
      obtain ⟨rfl, -⟩ := hq
      obtain ⟨xs, hX, -⟩ := E.2.1
      exact va_slen hx hb hX E.2.2.1.2.1 (show ¬ base ≤ b from Nat.not_le.mpr E.2.2.1.1) hS hd kk
    · split at h
      · rename_i hr
        cases h
        obtain ⟨i, rfl⟩ : ∃ i, q = 5040 + i := ⟨q - 5040, by omega⟩
        have hi : i < 30 := by omega
        obtain ⟨hV, -⟩ := E.2.2.2.1 i hi
        obtain ⟨-, -, -, hTb⟩ := hV.1 0 (by omega)
        show W p l e R s m args below meth c H locs cells slots Q (F0 m pc ls (zref base _ (5040 + i) :: st))
        rw [(zst_ci hi).2]
        rw [show 5040 + i - 5040 = i by omega] at kk
        exact va_tlen hx hb hTb hS rfl hd kk
      · cases h
theorem zW_ald {A : zM} {q : Nat} {x : Int} {v : zV} (F : zFr p s m args meth c j) (E : zEv D tc base b sc fmt adK adV s s.heap) (hP : va_P D vwCl (zWo base tc A) H) (hM : zMo A) (hS : va_S (fun q => base ≤ q) s.heap H locs) (hx1 : in32 x) (hd : decode (zcode j) pc = .ok (i, 1)) (h : zald sc A i q x = some v)
    (kk : W p l e R s m args below meth c H locs cells slots Q (F0 m (pc + 1) ls (zval base (zX b fmt adK adV) v :: st))) : W p l e R s m args below meth c H locs cells slots Q (F0 m pc ls (zval base (zX b fmt adK adV) (.inl x) :: zval base (zX b fmt adK adV) (.inr (.inr q)) :: st)) := by
  obtain ⟨hx, hb, hml, hown, hts, hin⟩ := F
  have hXo := zX_ok (b := b) (adK := adK) (adV := adV) E.2.2.2.2.2.2.1
  unfold zald at h
  split at h
  · rename_i t n hA
    have hq := zMo_lt hM hA
    have hg := zWo_get (base := base) (tc := tc) hA
    split at h
    · rename_i hr
      have hvi := vp_inI (n := n) hx1 hr.1 hr.2
      have ec := clampI hx1
      show W p l e R s m args below meth c H locs cells slots Q (F0 m pc ls (.int (Int32.ofInt x) :: zref base _ q :: st))
      rw [zref_own hq]
      split at h
      · split at h
        · rename_i ht; subst ht; cases h
          refine va_iald hx hb E.1 hP q 0 hg rfl hvi hd ?_
          rw [ec]; exact kk
        · cases h
      · split at h
        · rename_i ht
          cases h
          rcases ht with rfl | rfl
          · refine va_bald hx hb E.1 hP q 1 hg rfl hvi hd ?_
            rw [ec]; exact kk
          · refine va_zald hx hb E.1 hP q 3 hg rfl hvi hd ?_
            rw [ec]; exact kk
        · cases h
      · split at h
        · rename_i ht; subst ht; cases h
          refine va_lald hx hb E.1 hP q 2 hg rfl hvi hd ?_
          rw [ec]; exact kk
        · cases h
      · split at h
        · rename_i ht; cases h
          have e1 : zval base (zX b fmt adK adV) (.inr (.inr (zgld A.2.1 q x.toNat))) = va_rf (zro base (zgld A.2.1 q x.toNat)) := zro_ref hXo ht.2
          rw [e1] at kk
          rcases ht.1 with rfl | rfl
          · refine va_aldq (C := "LeashedNames$Image") hx hb E.1 hP q 4 hg rfl hvi hd ?_
            rw [ec]; exact kk
          · have hlt : (Int32.ofInt x).toNatClampNeg < n := Nat.not_le.mp fun q => hvi (Or.inr q)
            refine W.aald (v := va_rf (zro base (zgld A.2.1 q x.toNat))) (ty := .array .long) hx hb (hP q _ hg) ((E.1.2 5 _ rfl).1 n (fun j => va_rf (zro base (zgld A.2.1 q j)))) rfl (fun q => by cases q) (by show ¬ (_ < 0 ∨ (arrV _ _ _).slots.size ≤ _); rw [arrV_size]; exact hvi) ?_ rfl rfl hd kk
            show (arrV _ _ _).slots[_]? = _
            rw [arrV_read _ _ hlt, ec]
        · cases h
      · cases h
    · cases h
  · split at h
    · split at h
      · rename_i hr
        cases h
        obtain ⟨rfl, h0, h1⟩ := hr
        obtain ⟨xs, hX, hxs⟩ := E.2.1
        refine va_sld hx hb hX E.2.2.1.2.1 (show ¬ base ≤ b from Nat.not_le.mpr E.2.2.1.1) hS (vp_inI hx1 h0 (by omega)) hd ?_
        rw [clampI hx1]
        have e1 : zval base (zX b fmt adK adV) (.inl (sc.2 x.toNat)) = .int (xs x.toNat) := by rw [← hxs, zvi]
        rw [e1] at kk
        exact kk
      · cases h
    · split at h
      · rename_i hr
        cases h
        obtain ⟨hr1, hr2, h0, h1⟩ := hr
        obtain ⟨i, rfl⟩ : ∃ i, q = 5040 + i := ⟨q - 5040, by omega⟩
        have hi : i < 30 := by omega
        obtain ⟨hV, -⟩ := E.2.2.2.1 i hi
        obtain ⟨-, -, -, hTb⟩ := hV.1 0 (by omega)
        show W p l e R s m args below meth c H locs cells slots Q (F0 m pc ls (.int (Int32.ofInt x) :: zref base _ (5040 + i) :: st))
        rw [(zst_ci hi).2]
        rw [show 5040 + i - 5040 = i by omega] at kk h1
        rw [zvi] at kk
        refine va_tb hx hb hTb hS (vp_inI hx1 h0 h1) ?_ hd kk
        rw [clampI hx1]
        rfl
      · cases h
    · cases h
end ZW3
