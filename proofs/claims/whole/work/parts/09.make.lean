/-! Steps that make cells; the JDK's own members. -/
theorem zPK_w {C idx : Nat} {e : Nat × Nat × Nat} (h : (zPK C).find? (fun e => e.1 == idx) = some e) : Jvm.Cond.methodLink (zRNi C) idx (zPN e.2.1) ∈ zGW := by
  obtain ⟨h1, h2⟩ := zfind h
  have h4 := List.all_eq_true.mp (zPK_ok C) e h1
  rw [eq_of_beq h2] at h4
  exact zat_in h4
theorem zOK_w {C idx : Nat} {e : Nat × Nat} (h : (zOK C).find? (fun e => e.1 == idx) = some e) : Jvm.Cond.methodLink (zRNi C) idx Lib.objectInit ∈ zGW := by
  obtain ⟨h1, h2⟩ := zfind h
  have h4 := List.all_eq_true.mp (zOK_ok C) e h1
  rw [eq_of_beq h2] at h4
  exact zat_in h4
theorem zKK_w {C idx : Nat} {e : Nat × Nat × Nat} (h : (zKK C).find? (fun e => e.1 == idx) = some e) : Jvm.Cond.classLink (zRNi C) idx (zRNi e.2.1) ∈ zGW ∧ e.2.1 < 9 := by
  obtain ⟨h1, h2⟩ := zfind h
  have h4 := List.all_eq_true.mp (zKK_ok C) e h1
  rw [eq_of_beq h2, Bool.and_eq_true, decide_eq_true_eq] at h4
  exact ⟨zat_in h4.1, h4.2⟩
theorem zK2_w {C idx : Nat} {e : Nat × Nat} (h : (zK2 C).find? (fun e => e.1 == idx) = some e) : Jvm.Cond.classLink (zRNi C) idx "[[J" ∈ zGW := by
  obtain ⟨h1, h2⟩ := zfind h
  have h4 := List.all_eq_true.mp (zK2_ok C) e h1
  rw [eq_of_beq h2] at h4
  exact zat_in h4
theorem zI_w {ci : Nat} (h : ci < 9) : Jvm.Cond.instantiable (zRNi ci) (zNF ci) ∈ zGW ∧ Jvm.Cond.initialized (zRNi ci) ∈ zGW := by
  have h4 := List.all_eq_true.mp zI_ok ci (List.mem_range.mpr h)
  rw [Bool.and_eq_true] at h4
  exact ⟨zat_in h4.1, zat_in h4.2⟩
theorem zgld_app {G G' : List (List Nat)} {i j : Nat} (h : i < G.length) : zgld (G ++ G') i j = zgld G i j := by
  unfold zgld
  rw [List.getD_eq_getElem?_getD (l := G ++ G'), List.getElem?_append_left h, ← List.getD_eq_getElem?_getD]
theorem zEnt_ap {base : Nat} {tc : Nat → ClassId} {t n i : Nat} {G G' : List (List Nat)} {M M' : Nat → Nat → Int} (h : i < G.length) (hm : ∀ j, M' i j = M i j) : zEnt base tc t n (G ++ G') M' i = zEnt base tc t n G M i := by
  have e2 : zfv base (G ++ G') M' (t - 10) i = zfv base G M (t - 10) i := by
    funext j
    unfold zfv
    rw [hm, zgld_app h]
  unfold zEnt
  simp only [hm, e2, zgld_app h]
theorem zrng_0 {t j : Nat} : zrng t j 0 := by
  unfold zrng
  split
  · exact ⟨by decide, by decide⟩
  · exact ⟨by decide, by decide⟩
theorem zMo_mk {A : zM} (hM : zMo A) {t n : Nat} (h : A.1.length < 5000) : zMo (zmk A t n) := by
  refine ⟨?_, ?_, fun k t' n' hk => ?_⟩
  · show (A.2.1 ++ [List.replicate n 5000]).length = (A.1 ++ [(t, n)]).length
    simp [hM.1]
  · show (A.1 ++ [(t, n)]).length ≤ 5000
    simp; omega
  · have hk' : (A.1 ++ [(t, n)])[k]? = some (t', n') := hk
    show ((A.2.1 ++ [List.replicate n 5000]).getD k []).length = n' ∧ ∀ j, zrng t' j (zclr A.2.2 A.1.length k j)
    by_cases hl : k < A.1.length
    · rw [List.getElem?_append_left hl] at hk'
      obtain ⟨h1, h2⟩ := hM.2.2 k t' n' hk'
      refine ⟨?_, fun j => ?_⟩
      · rw [List.getD_eq_getElem?_getD, List.getElem?_append_left (by rw [hM.1]; exact hl), ← List.getD_eq_getElem?_getD]
        exact h1
      · unfold zclr
        rw [if_neg (by omega)]
        exact h2 j
    · rw [List.getElem?_append_right (by omega)] at hk'
      have hz : k - A.1.length < 1 := (List.getElem?_eq_some_iff.mp hk').1
      have hk0 : k = A.1.length := by omega
      subst hk0
      rw [Nat.sub_self] at hk'
      cases hk'
      refine ⟨?_, fun j => ?_⟩
      · rw [List.getD_eq_getElem?_getD, List.getElem?_append_right (by rw [hM.1]; omega), hM.1, Nat.sub_self]
        simp
      · unfold zclr
        rw [if_pos rfl]
        exact zrng_0
theorem zWo_mk {A : zM} (hM : zMo A) {t n base : Nat} {tc : Nat → ClassId} {e : va_E} (he : zEnt base tc t n (A.2.1 ++ [List.replicate n 5000]) (zclr A.2.2 A.1.length) A.1.length = e) : zWo base tc A ++ [(base + A.1.length, e)] = zWo base tc (zmk A t n) := by
  refine zWo_push rfl (fun i hi t n => zEnt_ap (by rw [hM.1]; exact hi) (fun j => ?_)) he
  exact if_neg (by omega)
theorem zq_eq {A : zM} {base q : Nat} {tc : Nat → ClassId} {D : va_G} {e : va_E} {H1 : Heap} (hP : va_P D vwCl (zWo base tc A ++ [(q, e)]) H1) (hD : va_D (fun q => base ≤ q) (zWo base tc A ++ [(q, e)])) (hz : H1.size ≤ base + A.1.length + 1) : q = base + A.1.length := by
  have hl : (zWo base tc A ++ [(q, e)])[A.1.length]? = some (q, e) := by
    rw [List.getElem?_append_right (by rw [zWo_len]; omega), zWo_len, Nat.sub_self]
    rfl
  have h1 : q < H1.size := (hP _ _ hl).lt
  have h2 : base ≤ q := hD.2 _ _ hl
  by_cases h : q < base + A.1.length
  · exfalso
    have hk : q - base < A.1.length := by omega
    have hg : A.1[q - base]? = some A.1[q - base] := List.getElem?_eq_getElem hk
    have hw := zWo_get (base := base) (tc := tc) hg
    have hw' := (List.getElem?_append_left (l₂ := [(q, e)]) (by rw [zWo_len]; exact hk : q - base < (zWo base tc A).length)).trans hw
    have := hD.1 (q - base) A.1.length _ _ hw' hl (by show base + (q - base) = q; omega)
    omega
  · omega
theorem zsl_app {a b : List (Nat × Nat)} : zsl (a ++ b) = zsl a + zsl b := by simp [zsl]
section ZW5
variable {p : Program} {l : Launch} {e : Env} {R : Room} {s : State} {m : MethodId} {args : Array Value} {below : List Frame} {meth : Method} {c : Code} {H : Heap} {locs : List Loc} {cells slots : Nat} {Q : State → Prop}
variable {D : va_G} {tc : Nat → ClassId} {base b : Nat} {sc : zSc} {fmt : Value} {adK adV : Nat → Nat} {j pc len : Nat} {i : Instr} {ls : Array Slot} {st : List Value}
theorem W_sz {g : JFrame} (k : H.size ≤ s.heap.size + cells → W p l e R s m args below meth c H locs cells slots Q g) : W p l e R s m args below meth c H locs cells slots Q g := fun T hT X => k (by rw [← hT]; exact X.heapSize) T hT X
theorem zW_new {A : zM} {idx n0 : Nat} {e2 : Nat × Nat × Nat} (F : zFr p s m args meth c j) (E : zEv D tc base b sc fmt adK adV s s.heap) (hP : va_P D vwCl (zWo base tc A) H) (hM : zMo A) (hS : va_S (fun q => base ≤ q) s.heap H locs) (hs : s.heap.size = base + n0) (hc : cells + n0 = A.1.length) (hl5 : A.1.length < 5000) (hd : decode (zcode j) pc = .ok (.new idx, 3)) (he : (zKK (zcls j)).find? (fun e => e.1 == idx) = some e2)
    (hcells : cells + 1 ≤ R.cells) (hslots : slots + zNF e2.2.1 ≤ R.slots)
    (kk : ∀ (H1 : Heap), va_P D vwCl (zWo base tc (zmk A (10 + e2.2.1) (zNF e2.2.1))) H1 → va_S (fun q => base ≤ q) s.heap H1 locs → W p l e R s m args below meth c H1 locs (cells + 1) (slots + zNF e2.2.1) Q (F0 m (pc + 3) ls (zval base (zX b fmt adK adV) (.inr (.inr A.1.length)) :: st))) : W p l e R s m args below meth c H locs cells slots Q (F0 m pc ls st) := by
  obtain ⟨hx, hb, hml, hown, hts, hin⟩ := F
  obtain ⟨hw, h9⟩ := zKK_w he
  obtain ⟨hi1, hi2⟩ := zI_w h9
  refine va_new (T := zTX e2.2.1) (N := zNF e2.2.1) (ci := e2.2.1) (fs := (List.range (zNF e2.2.1)).map (zfv base (A.2.1 ++ [List.replicate (zNF e2.2.1) 5000]) (zclr A.2.2 A.1.length) e2.2.1 A.1.length)) hx hb hts (zY_in h9) (zTY e2.2.1) (zPT_ok _ h9) hown (hts _ hw) (hts _ hi1) (hts _ hi2) E.1 hP zWo_D hS (fun q hq => by show base ≤ q; omega) (zVW_ok _ h9) ?_ hcells hslots hd ?_
  · intro k hk
    unfold vp_V
    rw [List.getD_eq_getElem?_getD, zmap_at hk]
    have hkt := zKT_at h9 hk
    show _ = zfv base _ _ e2.2.1 A.1.length k
    have h0 : zclr A.2.2 A.1.length A.1.length k = 0 := if_pos rfl
    have h5 : zgld (A.2.1 ++ [List.replicate (zNF e2.2.1) 5000]) A.1.length k = 5000 := by
      unfold zgld
      rw [List.getD_eq_getElem?_getD (l := A.2.1 ++ _), List.getElem?_append_right (by rw [hM.1]; omega), hM.1, Nat.sub_self]
      show (List.replicate (zNF e2.2.1) 5000).getD k 5000 = 5000
      rw [List.getD_eq_getElem?_getD]
      by_cases hkk : k < zNF e2.2.1
      · rw [List.getElem?_replicate, if_pos hkk]; rfl
      · rw [List.getElem?_replicate, if_neg hkk]; rfl
    unfold zfv
    rw [h0, h5]
    split
    · rename_i hz; rw [hz] at hkt; rw [zKT_0 hkt]; rfl
    · rename_i hz; rw [hz] at hkt; rw [zKT_3 hkt]; rfl
    · rename_i hz; rw [hz] at hkt; rw [zKT_1 hkt]; rfl
    · show _ = Value.null
      cases ht : zTY e2.2.1 k <;> rw [ht] at hkt <;> first | rfl | skip
      all_goals (exfalso; revert hkt; generalize zfk e2.2.1 k = kd at *; intro hkt; unfold zKT at hkt; split at hkt <;> simp_all)
  · intro q H1 a1 a2 a3
    refine W_sz fun hz => ?_
    have hq := zq_eq a1 a2 (by omega)
    subst hq
    rw [zWo_mk hM (by rw [zEnt_obj])] at a1
    have := kk H1 a1 a3
    rw [show zval base (zX b fmt adK adV) (.inr (.inr A.1.length)) = .ref (base + A.1.length) from zref_own hl5] at this
    exact this
theorem ztc_eq {cA : ClassId} {t : Nat} (ht : t < 4) (E : zEv D tc base b sc fmt adK adV s s.heap) (hK : va_K D vwCl (ztys tc ++ [(cA, zty t)]) s) : cA = tc t := by
  have h1 : va_RA s cA (zty t) := (hK.2 6 (cA, zty t) rfl).2
  match t, ht with
  | 0, _ => exact Option.some.inj (h1.symm.trans (E.1.2 0 _ rfl).2)
  | 1, _ => exact Option.some.inj (h1.symm.trans (E.1.2 1 _ rfl).2)
  | 2, _ => exact Option.some.inj (h1.symm.trans (E.1.2 2 _ rfl).2)
  | 3, _ => exact Option.some.inj (h1.symm.trans (E.1.2 3 _ rfl).2)
theorem ztc_eq4 {cA : ClassId} (E : zEv D tc base b sc fmt adK adV s s.heap) (hK : va_K D vwCl (ztys tc ++ [(cA, .object "LeashedNames$Image")]) s) : cA = tc 4 := by
  obtain ⟨-, -, -, -, -, h1⟩ := (hK.2 6 (cA, .object "LeashedNames$Image") rfl).2
  obtain ⟨-, -, -, -, -, h2⟩ := (E.1.2 4 _ rfl).2
  exact Option.some.inj (h1.symm.trans h2)
theorem ztc_eq5 {cA : ClassId} (E : zEv D tc base b sc fmt adK adV s s.heap) (hK : va_K D vwCl (ztys tc ++ [(cA, .array .long)]) s) : cA = tc 5 :=
  Option.some.inj ((hK.2 6 (cA, .array .long) rfl).2.symm.trans (E.1.2 5 _ rfl).2)
theorem zEnt_n0 {t n k : Nat} {G : List (List Nat)} {M : Nat → Nat → Int} (h : t < 2 ∨ t = 3) (hm : ∀ j, M k j = 0) : zEnt base tc t n G M k = .inl (tc t, n, .inl (fun _ => 0)) := by
  unfold zEnt
  rw [if_pos h]
  simp only [hm]
  rfl
theorem zEnt_n2 {n k : Nat} {G : List (List Nat)} {M : Nat → Nat → Int} (hm : ∀ j, M k j = 0) : zEnt base tc 2 n G M k = .inl (tc 2, n, .inr (.inl (fun _ => 0))) := by
  unfold zEnt
  rw [if_neg (by omega), if_pos rfl]
  simp only [hm]
  rfl
theorem zgld_rep {G : List (List Nat)} {n j : Nat} : zgld (G ++ [List.replicate n 5000]) G.length j = 5000 := by
  unfold zgld
  rw [List.getD_eq_getElem?_getD (l := G ++ _), List.getElem?_append_right (by omega), Nat.sub_self]
  show (List.replicate n 5000).getD j 5000 = 5000
  rw [List.getD_eq_getElem?_getD]
  by_cases hkk : j < n
  · rw [List.getElem?_replicate, if_pos hkk]; rfl
  · rw [List.getElem?_replicate, if_neg hkk]; rfl
theorem zclr_0 {M : Nat → Nat → Int} {a j : Nat} : zclr M a a j = 0 := if_pos rfl
theorem zW_newa {A : zM} {at_ : ArrayType} {t n0 : Nat} {n : Int} (F : zFr p s m args meth c j) (E : zEv D tc base b sc fmt adK adV s s.heap) (hP : va_P D vwCl (zWo base tc A) H) (hM : zMo A) (hS : va_S (fun q => base ≤ q) s.heap H locs) (hs : s.heap.size = base + n0) (hc : cells + n0 = A.1.length) (hl5 : A.1.length < 5000) (hd : decode (zcode j) pc = .ok (.newarray at_, 2)) (ht : zatk at_ = some t) (h0 : 0 ≤ n) (h1 : n ≤ 10000)
    (hcells : cells + 1 ≤ R.cells) (hslots : slots + n.toNat ≤ R.slots)
    (kk : ∀ (H1 : Heap), va_P D vwCl (zWo base tc (zmk A t n.toNat)) H1 → va_S (fun q => base ≤ q) s.heap H1 locs → W p l e R s m args below meth c H1 locs (cells + 1) (slots + n.toNat) Q (F0 m (pc + 2) ls (zval base (zX b fmt adK adV) (.inr (.inr A.1.length)) :: st))) : W p l e R s m args below meth c H locs cells slots Q (F0 m pc ls (zval base (zX b fmt adK adV) (.inl n) :: st)) := by
  obtain ⟨hx, hb, hml, hown, hts, hin⟩ := F
  have hn32 : in32 n := ⟨by omega, by omega⟩
  have hac := zAC_ok
  simp only [Bool.and_eq_true] at hac
  have hnn : ¬ Int32.ofInt n < 0 := fun z => by
    rw [Int32.lt_iff_toInt_lt, i32_of hn32] at z
    have : (0 : Int32).toInt = 0 := rfl
    omega
  have hcl := clampI hn32
  have fin : ∀ (q : Nat) (e0 : va_E) (H1 : Heap), zEnt base tc t n.toNat (A.2.1 ++ [List.replicate n.toNat 5000]) (zclr A.2.2 A.1.length) A.1.length = e0 → va_P D vwCl (zWo base tc A ++ [(q, e0)]) H1 → va_D (fun q => base ≤ q) (zWo base tc A ++ [(q, e0)]) → va_S (fun q => base ≤ q) s.heap H1 locs → W p l e R s m args below meth c H1 locs (cells + 1) (slots + n.toNat) Q (F0 m (pc + 2) ls (.ref q :: st)) := by
    intro q e0 H1 he a1 a2 a3
    refine W_sz fun hz => ?_
    have hq := zq_eq a1 a2 (by omega)
    subst hq
    rw [zWo_mk hM he] at a1
    have := kk H1 a1 a3
    rw [show zval base (zX b fmt adK adV) (.inr (.inr A.1.length)) = .ref (base + A.1.length) from zref_own hl5] at this
    exact this
  have hbA : ∀ q : Nat, s.heap.size ≤ q → base ≤ q := fun q hq => by omega
  cases at_ <;> cases ht
  · refine va_newa (atype := .boolean) (ty := .boolean) (a0 := (n.toNat, .inl (fun _ => 0))) hx hb (hts _ (zat_in hac.2)) rfl E.1 hP zWo_D hS hbA (fun _ => rfl) hnn hcl (by show n.toNat * 1 ≤ _; omega) hcells hslots hd (fun q cA H1 k1 a1 a2 a3 => ?_)
    rw [ztc_eq (t := 3) (by omega) E k1] at a1 a2
    exact fin q _ H1 (zEnt_n0 (Or.inr rfl) (fun _ => zclr_0)) a1 a2 a3
  · refine va_newa (atype := .byte) (ty := .byte) (a0 := (n.toNat, .inl (fun _ => 0))) hx hb (hts _ (zat_in hac.1.1.2)) rfl E.1 hP zWo_D hS hbA (fun _ => rfl) hnn hcl (by show n.toNat * 1 ≤ _; omega) hcells hslots hd (fun q cA H1 k1 a1 a2 a3 => ?_)
    rw [ztc_eq (t := 1) (by omega) E k1] at a1 a2
    exact fin q _ H1 (zEnt_n0 (Or.inl (by omega)) (fun _ => zclr_0)) a1 a2 a3
  · refine va_newa (atype := .int) (ty := .int) (a0 := (n.toNat, .inl (fun _ => 0))) hx hb (hts _ (zat_in hac.1.1.1)) rfl E.1 hP zWo_D hS hbA (fun _ => rfl) hnn hcl (by show n.toNat * 4 ≤ _; omega) hcells hslots hd (fun q cA H1 k1 a1 a2 a3 => ?_)
    rw [ztc_eq (t := 0) (by omega) E k1] at a1 a2
    exact fin q _ H1 (zEnt_n0 (Or.inl (by omega)) (fun _ => zclr_0)) a1 a2 a3
  · refine va_newa (atype := .long) (ty := .long) (a0 := (n.toNat, .inr (.inl (fun _ => 0)))) hx hb (hts _ (zat_in hac.1.2)) rfl E.1 hP zWo_D hS hbA (fun _ => rfl) hnn hcl (by show n.toNat * 8 ≤ _; omega) hcells hslots hd (fun q cA H1 k1 a1 a2 a3 => ?_)
    rw [ztc_eq (t := 2) (by omega) E k1] at a1 a2
    exact fin q _ H1 (zEnt_n2 (fun _ => zclr_0)) a1 a2 a3
theorem zW_newq {A : zM} {idx n0 : Nat} {n : Int} {e2 : Nat × Nat × Nat} (F : zFr p s m args meth c j) (E : zEv D tc base b sc fmt adK adV s s.heap) (hP : va_P D vwCl (zWo base tc A) H) (hM : zMo A) (hS : va_S (fun q => base ≤ q) s.heap H locs) (hs : s.heap.size = base + n0) (hc : cells + n0 = A.1.length) (hl5 : A.1.length < 5000) (hd : decode (zcode j) pc = .ok (.anewarray idx, 3)) (he : (zKK (zcls j)).find? (fun e => e.1 == idx) = some e2) (he2 : e2.2.1 = 2) (h0 : 0 ≤ n) (h1 : n ≤ 10000)
    (hcells : cells + 1 ≤ R.cells) (hslots : slots + n.toNat ≤ R.slots)
    (kk : ∀ (H1 : Heap), va_P D vwCl (zWo base tc (zmk A 4 n.toNat)) H1 → va_S (fun q => base ≤ q) s.heap H1 locs → W p l e R s m args below meth c H1 locs (cells + 1) (slots + n.toNat) Q (F0 m (pc + 3) ls (zval base (zX b fmt adK adV) (.inr (.inr A.1.length)) :: st))) : W p l e R s m args below meth c H locs cells slots Q (F0 m pc ls (zval base (zX b fmt adK adV) (.inl n) :: st)) := by
  obtain ⟨hx, hb, hml, hown, hts, hin⟩ := F
  have hn32 : in32 n := ⟨by omega, by omega⟩
  have hnn : ¬ Int32.ofInt n < 0 := fun z => by
    rw [Int32.lt_iff_toInt_lt, i32_of hn32] at z
    have : (0 : Int32).toInt = 0 := rfl
    omega
  have hcl := clampI hn32
  obtain ⟨hw, -⟩ := zKK_w he
  rw [he2] at hw
  refine va_newq (C := "LeashedNames$Image") hx hb hown (hts _ hw) E.2.2.2.2.2.2.2.2.1 E.1 hP zWo_D hS (fun q hq => by show base ≤ q; omega) hnn hcl (by omega) hcells hslots hd (fun q cA H1 k1 a1 a2 a3 => ?_)
  rw [ztc_eq4 E k1] at a1 a2
  refine W_sz fun hz => ?_
  have hq := zq_eq a1 a2 (by omega)
  subst hq
  rw [zWo_mk (t := 4) (n := n.toNat) hM ?_] at a1
  · have := kk H1 a1 a3
    rw [show zval base (zX b fmt adK adV) (.inr (.inr A.1.length)) = .ref (base + A.1.length) from zref_own hl5] at this
    exact this
  · unfold zEnt
    rw [if_neg (by omega), if_neg (by omega), if_pos (by omega), ← hM.1]
    simp only [zgld_rep]
    rfl
theorem zW_oin {idx r : Nat} (F : zFr p s m args meth c j) (hl : ls.size = zml j) (hX : zXok (zX b fmt adK adV)) (hS5 : (st.map (fun v => v.category)).sum ≤ 8) (hd : decode (zcode j) pc = .ok (.invokespecial idx, 3)) (he : ((zOK (zcls j)).find? (fun e => e.1 == idx)).isSome = true) (hr : r < 5000) (hf : 1 ≤ R.frames) (hlo : 64 ≤ R.locals)
    (kk : W p l e R s m args below meth c H locs cells slots Q (F0 m (pc + 3) ls st)) : W p l e R s m args below meth c H locs cells slots Q (F0 m pc ls (zval base (zX b fmt adK adV) (.inr (.inr r)) :: st)) := by
  obtain ⟨hx, hb, hml, hown, hts, hin⟩ := F
  obtain ⟨e2, he2⟩ := Option.isSome_iff_exists.mp he
  have hps := zPS_ok
  simp only [Bool.and_eq_true] at hps
  rw [show zval base (zX b fmt adK adV) (.inr (.inr r)) = .ref (base + r) from zref_own hr]
  refine W.objInit hx hb hown (hts _ (zOK_w he2)) (hts _ (zat_in hps.1.2)) (hts _ (zat_in hps.2)) rfl (by rw [hml]; exact hl) rfl hd hf ?_ kk
  show 2 * 0 + _ + 12 ≤ _
  omega
end ZW5
