/-! min, max, abs, arraycopy; arrays of arrays. -/
section ZW6
variable {p : Program} {l : Launch} {e : Env} {R : Room} {s : State} {m : MethodId} {args : Array Value} {below : List Frame} {meth : Method} {c : Code} {H : Heap} {locs : List Loc} {cells slots : Nat} {Q : State → Prop}
variable {D : va_G} {tc : Nat → ClassId} {base b : Nat} {sc : zSc} {fmt : Value} {adK adV : Nat → Nat} {j pc len : Nat} {i : Instr} {ls : Array Slot} {st : List Value}
theorem zcp_f {M : Nat → Nat → Int} {a q sp dp n : Nat} : (fun j => Int32.ofInt (zcpy M a sp q dp n q j)) = va_cpy (fun j => Int32.ofInt (M a j)) (fun j => Int32.ofInt (M q j)) sp dp n := by
  funext k
  unfold zcpy va_cpy
  by_cases h : dp ≤ k ∧ k < dp + n
  · rw [if_pos ⟨rfl, h⟩, if_pos h]
  · rw [if_neg (fun z => h z.2), if_neg h]
theorem zcp_fL {M : Nat → Nat → Int} {a q sp dp n : Nat} : (fun j => Int64.ofInt (zcpy M a sp q dp n q j)) = va_cpy (fun j => Int64.ofInt (M a j)) (fun j => Int64.ofInt (M q j)) sp dp n := by
  funext k
  unfold zcpy va_cpy
  by_cases h : dp ≤ k ∧ k < dp + n
  · rw [if_pos ⟨rfl, h⟩, if_pos h]
  · rw [if_neg (fun z => h z.2), if_neg h]
theorem zWo_cp {A : zM} {D : va_G} {cl : List vw_C} {base : Nat} {tc : Nat → ClassId} {H1 : Heap} {a q sp dp k t n : Nat} {e : va_E} (hA : A.1[q]? = some (t, n)) (he : zEnt base tc t n A.2.1 (zcpy A.2.2 a sp q dp k) q = e) (h : va_P D cl ((zWo base tc A).set q (base + q, e)) H1) : va_P D cl (zWo base tc (A.1, A.2.1, zcpy A.2.2 a sp q dp k)) H1 := by
  rw [zWo_set (A' := (A.1, A.2.1, zcpy A.2.2 a sp q dp k)) (A := A) rfl hA (fun i hi t n => zEnt_cpy (G := A.2.1) (M := A.2.2) (c := q) (a := a) (sp := sp) (dp := dp) (k := k) hi) he] at h
  exact h
theorem zMo_cp {A : zM} (hM : zMo A) {a q sp dp k t n n' : Nat} (ha : A.1[a]? = some (t, n)) (hq : A.1[q]? = some (t, n')) (ht : t < 10) : zMo (A.1, A.2.1, zcpy A.2.2 a sp q dp k) := by
  refine ⟨hM.1, hM.2.1, fun x t' m' h => ⟨(hM.2.2 x t' m' h).1, fun i => ?_⟩⟩
  show zrng t' i (zcpy A.2.2 a sp q dp k x i)
  unfold zcpy
  split
  · rename_i z
    obtain ⟨rfl, -, -⟩ := z
    have h' : A.1[x]? = some (t', m') := h
    rw [h'] at hq
    cases hq
    have := (hM.2.2 a _ _ ha).2 (sp + (i - dp))
    unfold zrng at this ⊢
    have e1 : (t = 2 ∨ 10 ≤ t ∧ zfk (t - 10) (sp + (i - dp)) = 1) ↔ t = 2 := ⟨fun z => z.elim id (fun z => by omega), Or.inl⟩
    have e2 : (t = 2 ∨ 10 ≤ t ∧ zfk (t - 10) i = 1) ↔ t = 2 := ⟨fun z => z.elim id (fun z => by omega), Or.inl⟩
    simp only [e1, e2] at this ⊢
    exact this
  · exact (hM.2.2 x t' m' h).2 i
theorem zW_prim {A A' : zM} {idx : Nat} {e2 : Nat × Nat × Nat} {S S' : List zV} (F : zFr p s m args meth c j) (E : zEv D tc base b sc fmt adK adV s s.heap) (hl : ls.size = zml j) (hP : va_P D vwCl (zWo base tc A) H) (hM : zMo A) (hS : va_S (fun q => base ≤ q) s.heap H locs) (hok : ∀ v ∈ S, zokv v) (hS5 : (S'.map zcat).sum ≤ 8) (hd : decode (zcode j) pc = .ok (.invokestatic idx, 3)) (he : (zPK (zcls j)).find? (fun e => e.1 == idx) = some e2) (h : zprim A e2.2.1 S = some (S', A')) (hf : 1 ≤ R.frames) (hlo : 64 ≤ R.locals) (hce : cells ≤ R.cells) (hsl : slots ≤ R.slots)
    (kk : ∀ (H1 : Heap) (locs1 : List Loc), A'.1 = A.1 → va_P D vwCl (zWo base tc A') H1 → zMo A' → va_S (fun q => base ≤ q) s.heap H1 locs1 → (∀ v ∈ S', zokv v) → W p l e R s m args below meth c H1 locs1 cells slots Q (F0 m (pc + 3) ls (S'.map (zval base (zX b fmt adK adV))))) : W p l e R s m args below meth c H locs cells slots Q (F0 m pc ls (S.map (zval base (zX b fmt adK adV)))) := by
  have hXo := zX_ok (b := b) (adK := adK) (adV := adV) E.2.2.2.2.2.2.1
  have hcs : ((S'.map (zval base (zX b fmt adK adV))).map (fun v => v.category)).sum ≤ 8 := by rw [zcat_sum hXo]; exact hS5
  obtain ⟨hx, hb, hml, hown, hts, hin⟩ := F
  have hmls : c.maxLocals = ls.size := by rw [hml, hl]
  have hw := hts _ (zPK_w he)
  have hps := zPS_ok
  have hpr := zPR_ok
  simp only [Bool.and_eq_true] at hps hpr
  unfold zprim at h
  split at h
  · rename_i y x S0 ht
    cases h
    rw [ht] at hw
    have hy1 : in32 y := hok (.inl y) (by simp)
    have hx1 : in32 x := hok (.inl x) (by simp)
    simp only [List.map_cons, List.sum_cons] at hcs
    refine va_mmin hx hb hmls hown hw (hts _ (zat_in hpr.1.1.1.1.1.1)) (hts _ (zat_in hpr.2)) (hts _ (zat_in hpr.1.1.1.1.1.2)) hf (by omega) hce hsl hd ?_
    have e1 : (if Int32.ofInt y < Int32.ofInt x then Int32.ofInt y else Int32.ofInt x) = Int32.ofInt (if y < x then y else x) := by
      by_cases q : y < x
      · rw [if_pos ((zlt32 hy1 hx1).mpr q), if_pos q]
      · rw [if_neg (fun z => q ((zlt32 hy1 hx1).mp z)), if_neg q]
    rw [e1]
    exact kk H locs rfl hP hM hS (fun v hv => by
      rcases List.mem_cons.mp hv with rfl | hv
      · show in32 _
        split
        · exact hy1
        · exact hx1
      · exact hok v (by simp [hv]))
  · rename_i y x S0 ht
    cases h
    rw [ht] at hw
    have hy1 : in32 y := hok (.inl y) (by simp)
    have hx1 : in32 x := hok (.inl x) (by simp)
    simp only [List.map_cons, List.sum_cons] at hcs
    refine va_mmax hx hb hmls hown hw (hts _ (zat_in hpr.1.1.1.1.2)) (hts _ (zat_in hpr.2)) (hts _ (zat_in hpr.1.1.1.2)) hf (by omega) hce hsl hd ?_
    have e1 : (if Int32.ofInt x < Int32.ofInt y then Int32.ofInt y else Int32.ofInt x) = Int32.ofInt (if x < y then y else x) := by
      by_cases q : x < y
      · rw [if_pos ((zlt32 hx1 hy1).mpr q), if_pos q]
      · rw [if_neg (fun z => q ((zlt32 hx1 hy1).mp z)), if_neg q]
    rw [e1]
    exact kk H locs rfl hP hM hS (fun v hv => by
      rcases List.mem_cons.mp hv with rfl | hv
      · show in32 _
        split
        · exact hy1
        · exact hx1
      · exact hok v (by simp [hv]))
  · rename_i x S0 ht
    cases h
    rw [ht] at hw
    have hx1 : in64 x := hok (.inr (.inl x)) (by simp)
    simp only [List.map_cons, List.sum_cons] at hcs
    refine va_mabs_long hx hb hmls hown hw (hts _ (zat_in hpr.1.1.2)) (hts _ (zat_in hpr.2)) (hts _ (zat_in hpr.1.2)) hf (by omega) hce hsl hd ?_
    have z0 : (0 : Int64).toInt = 0 := rfl
    have e1 : (if 0 < Int64.ofInt x then Int64.ofInt x else -Int64.ofInt x) = Int64.ofInt (if 0 < x then x else w64 (-x)) := by
      by_cases q : 0 < x
      · rw [if_pos (by rw [Int64.lt_iff_toInt_lt, i64_of hx1, z0]; exact q), if_pos q]
      · rw [if_neg (fun z => q (by rw [Int64.lt_iff_toInt_lt, i64_of hx1, z0] at z; exact z)), if_neg q]
        unfold w64
        rw [Int64.ofInt_toInt, Int64.ofInt_neg]
    rw [e1]
    exact kk H locs rfl hP hM hS (fun v hv => by
      rcases List.mem_cons.mp hv with rfl | hv
      · show in64 _
        split
        · exact hx1
        · exact i64_in _
      · exact hok v (by simp [hv]))
  · rename_i n dp q sp a S0 ht
    rw [ht] at hw
    split at h
    · rename_i t0 n0 t1 n1 hA hB
      split at h
      · rename_i hc
        cases h
        obtain ⟨rfl, ht2, hsp, hdp, hn, hb1, hb2⟩ := hc
        have hn1 : in32 n := hok (.inl n) (by simp)
        have hdp1 : in32 dp := hok (.inl dp) (by simp)
        have hsp1 : in32 sp := hok (.inl sp) (by simp)
        have z0 : (0 : Int32).toInt = 0 := rfl
        have nn : ∀ x : Int, in32 x → 0 ≤ x → ¬ Int32.ofInt x < 0 := fun x h1 h2 z => by
          rw [Int32.lt_iff_toInt_lt, i32_of h1, z0] at z; omega
        have hga := zWo_get (base := base) (tc := tc) hA
        have hgb := zWo_get (base := base) (tc := tc) hB
        show W p l e R s m args below meth c H locs cells slots Q (F0 m pc ls (.int (Int32.ofInt n) :: .int (Int32.ofInt dp) :: zref base _ q :: .int (Int32.ofInt sp) :: zref base _ a :: List.map (zval base (zX b fmt adK adV)) S'))
        rw [zref_own (zMo_lt hM hA), zref_own (zMo_lt hM hB)]
        rcases ht2 with rfl | rfl
        · refine va_copyi hx hb hmls hown hw (hts _ (zat_in hps.1.1.1.1)) (hts _ (zat_in hps.1.1.1.2)) (hts _ (zat_in hps.1.1.2)) E.1 hP zWo_D hS a q 0 0 hga hgb rfl rfl rfl (nn _ hsp1 hsp) (nn _ hdp1 hdp) (nn _ hn1 hn) (by rw [clampI hsp1, clampI hn1]; omega) (by rw [clampI hdp1, clampI hn1]; omega) (fun _ _ => rfl) hf (by rw [show nativeFrameWords "java/lang/System" "arraycopy" 5 = 7 by decide +kernel]; omega) hd (fun H1 l1 a1 _ a3 => kk H1 l1 rfl ?_ (zMo_cp hM hA hB (by omega)) a3 (fun v hv => hok v (by simp [hv])))
          rw [clampI hsp1, clampI hdp1, clampI hn1] at a1
          exact zWo_cp hB (by show _ = Sum.inl (tc 0, n1, Sum.inl _); rw [← zcp_f]; rfl) a1
        · refine va_copyl hx hb hmls hown hw (hts _ (zat_in hps.1.1.1.1)) (hts _ (zat_in hps.1.1.1.2)) (hts _ (zat_in hps.1.1.2)) E.1 hP zWo_D hS a q 2 2 hga hgb rfl rfl rfl (nn _ hsp1 hsp) (nn _ hdp1 hdp) (nn _ hn1 hn) (by rw [clampI hsp1, clampI hn1]; omega) (by rw [clampI hdp1, clampI hn1]; omega) (fun _ _ => rfl) hf (by rw [show nativeFrameWords "java/lang/System" "arraycopy" 5 = 7 by decide +kernel]; omega) hd (fun H1 l1 a1 _ a3 => kk H1 l1 rfl ?_ (zMo_cp hM hA hB (by omega)) a3 (fun v hv => hok v (by simp [hv])))
          rw [clampI hsp1, clampI hdp1, clampI hn1] at a1
          exact zWo_cp hB (by show _ = Sum.inl (tc 2, n1, Sum.inr (Sum.inl _)); rw [← zcp_fL]; rfl) a1
      · cases h
    · cases h
  · cases h
end ZW6
