/-! Steps of arithmetic and branches. -/
section ZW2
variable {p : Program} {l : Launch} {e : Env} {R : Room} {s : State} {m : MethodId} {args : Array Value} {below : List Frame} {meth : Method} {c : Code} {H : Heap} {locs : List Loc} {cells slots : Nat} {Q : State → Prop}
variable {base : Nat} {X : Nat → Value} {j pc len : Nat} {i : Instr} {ls : Array Slot} {st : List Value}
theorem zW_b32 {nz : Bool} {f : Int32 → Int32 → Int32} {x y : Int} (F : zFr p s m args meth c j) (hd : decode (zcode j) pc = .ok (i, 1)) (h : zb32 i = some (nz, f)) (hy : in32 y) (hnz : nz = true → y ≠ 0)
    (kk : W p l e R s m args below meth c H locs cells slots Q (F0 m (pc + 1) ls (zval base X (.inl (zbi f x y)) :: st))) : W p l e R s m args below meth c H locs cells slots Q (F0 m pc ls (zval base X (.inl y) :: zval base X (.inl x) :: st)) := by
  obtain ⟨hx, hb, hml, hown, hts, hin⟩ := F
  unfold zbi at kk
  rw [zvi] at kk
  have hne : nz = true → ¬ Int32.ofInt y = 0 := fun q z => hnz q ((zeq0 hy).mp z)
  unfold zb32 at h
  split at h <;> cases h
  · exact lv_iadd hx hb hd kk
  · exact lv_isub hx hb hd kk
  · exact lv_imul hx hb hd kk
  · exact lv_iand hx hb hd kk
  · exact lv_ior hx hb hd kk
  · exact lv_ixor hx hb hd kk
  · exact lv_ishl hx hb hd kk
  · exact lv_ishr hx hb hd kk
  · exact lv_iushr hx hb hd rfl kk
  · exact lv_idiv hx hb hd (hne rfl) kk
  · exact lv_irem hx hb hd (hne rfl) kk
theorem zW_b64 {nz : Bool} {f : Int64 → Int64 → Int64} {x y : Int} (F : zFr p s m args meth c j) (hd : decode (zcode j) pc = .ok (i, 1)) (h : zb64 i = some (nz, f)) (hy : in64 y) (hnz : nz = true → y ≠ 0)
    (kk : W p l e R s m args below meth c H locs cells slots Q (F0 m (pc + 1) ls (zval base X (.inr (.inl (zbl f x y))) :: st))) : W p l e R s m args below meth c H locs cells slots Q (F0 m pc ls (zval base X (.inr (.inl y)) :: zval base X (.inr (.inl x)) :: st)) := by
  obtain ⟨hx, hb, hml, hown, hts, hin⟩ := F
  unfold zbl at kk
  rw [zvl] at kk
  have hne : nz = true → ¬ Int64.ofInt y = 0 := fun q z => hnz q ((zeqL0 hy).mp z)
  unfold zb64 at h
  split at h <;> cases h
  · exact lv_ladd hx hb hd kk
  · exact lv_lmul hx hb hd kk
  · exact lv_land hx hb hd kk
  · exact lv_lor hx hb hd kk
  · exact lv_ldiv hx hb hd (hne rfl) kk
  · exact lv_lrem hx hb hd (hne rfl) kk
theorem zW_u32 {f : Int32 → Int32} {x : Int} (F : zFr p s m args meth c j) (hd : decode (zcode j) pc = .ok (i, 1)) (h : zu32 i = some f)
    (kk : W p l e R s m args below meth c H locs cells slots Q (F0 m (pc + 1) ls (zval base X (.inl (f (Int32.ofInt x)).toInt) :: st))) : W p l e R s m args below meth c H locs cells slots Q (F0 m pc ls (zval base X (.inl x) :: st)) := by
  obtain ⟨hx, hb, hml, hown, hts, hin⟩ := F
  rw [zvi] at kk
  unfold zu32 at h
  split at h <;> cases h
  · exact lv_i2b hx hb hd rfl kk
  · exact lv_i2s hx hb hd rfl kk
  · exact lv_i2c hx hb hd rfl kk
theorem zW_if {cnd : Jvm.ClassFile.Cond} {off : Int} {t : Nat} {x : Int} (F : zFr p s m args meth c j) (hd : decode (zcode j) pc = .ok (.ifCond cnd off, 3)) (ht : (pc : Int) + off = (t : Int)) (hx1 : in32 x)
    (kk : W p l e R s m args below meth c H locs cells slots Q (F0 m (if zcd cnd x 0 = true then t else pc + 3) ls st)) : W p l e R s m args below meth c H locs cells slots Q (F0 m pc ls (zval base X (.inl x) :: st)) := by
  obtain ⟨hx, hb, hml, hown, hts, hin⟩ := F
  have z0 : (0 : Int32) = Int32.ofInt 0 := rfl
  cases cnd
  · refine lv_if_eq hx hb hd ht (fun q => ?_) (fun q => ?_)
    · rw [if_pos (show zcd .eq x 0 = true from decide_eq_true ((zeq0 hx1).mp q))] at kk; exact kk
    · rw [if_neg (show ¬ zcd .eq x 0 = true from fun z => q ((zeq0 hx1).mpr (of_decide_eq_true z)))] at kk; exact kk
  · refine lv_if_ne hx hb hd ht (fun q => ?_) (fun q => ?_)
    · rw [if_pos (show zcd .ne x 0 = true from decide_eq_true (fun z => q ((zeq0 hx1).mpr z)))] at kk; exact kk
    · rw [if_neg (show ¬ zcd .ne x 0 = true from fun z => of_decide_eq_true z ((zeq0 hx1).mp q))] at kk; exact kk
  · refine lv_if_lt hx hb hd ht (fun q => ?_) (fun q => ?_)
    · rw [if_pos (show zcd .lt x 0 = true from decide_eq_true ((zlt32 hx1 in32_0).mp q))] at kk; exact kk
    · rw [if_neg (show ¬ zcd .lt x 0 = true from fun z => q ((zlt32 hx1 in32_0).mpr (of_decide_eq_true z)))] at kk; exact kk
  · refine lv_if_ge hx hb hd ht (fun q => ?_) (fun q => ?_)
    · rw [if_pos (show zcd .ge x 0 = true from decide_eq_true ((zle32 in32_0 hx1).mp q))] at kk; exact kk
    · rw [if_neg (show ¬ zcd .ge x 0 = true from fun z => q ((zle32 in32_0 hx1).mpr (of_decide_eq_true z)))] at kk; exact kk
  · refine lv_if_gt hx hb hd ht (fun q => ?_) (fun q => ?_)
    · rw [if_pos (show zcd .gt x 0 = true from decide_eq_true ((zlt32 in32_0 hx1).mp q))] at kk; exact kk
    · rw [if_neg (show ¬ zcd .gt x 0 = true from fun z => q ((zlt32 in32_0 hx1).mpr (of_decide_eq_true z)))] at kk; exact kk
  · refine lv_if_le hx hb hd ht (fun q => ?_) (fun q => ?_)
    · rw [if_pos (show zcd .le x 0 = true from decide_eq_true ((zle32 hx1 in32_0).mp q))] at kk; exact kk
    · rw [if_neg (show ¬ zcd .le x 0 = true from fun z => q ((zle32 hx1 in32_0).mpr (of_decide_eq_true z)))] at kk; exact kk
theorem zW_icmp {cnd : Jvm.ClassFile.Cond} {off : Int} {t : Nat} {x y : Int} (F : zFr p s m args meth c j) (hd : decode (zcode j) pc = .ok (.if_icmp cnd off, 3)) (ht : (pc : Int) + off = (t : Int)) (hx1 : in32 x) (hy1 : in32 y)
    (kk : W p l e R s m args below meth c H locs cells slots Q (F0 m (if zcd cnd x y = true then t else pc + 3) ls st)) : W p l e R s m args below meth c H locs cells slots Q (F0 m pc ls (zval base X (.inl y) :: zval base X (.inl x) :: st)) := by
  obtain ⟨hx, hb, hml, hown, hts, hin⟩ := F
  cases cnd
  · refine lv_icmp_eq hx hb hd ht (fun q => ?_) (fun q => ?_)
    · rw [if_pos (show zcd .eq x y = true from decide_eq_true ((zeq32 hx1 hy1).mp q))] at kk; exact kk
    · rw [if_neg (show ¬ zcd .eq x y = true from fun z => q ((zeq32 hx1 hy1).mpr (of_decide_eq_true z)))] at kk; exact kk
  · refine lv_icmp_ne hx hb hd ht (fun q => ?_) (fun q => ?_)
    · rw [if_pos (show zcd .ne x y = true from decide_eq_true (fun z => q ((zeq32 hx1 hy1).mpr z)))] at kk; exact kk
    · rw [if_neg (show ¬ zcd .ne x y = true from fun z => of_decide_eq_true z ((zeq32 hx1 hy1).mp q))] at kk; exact kk
  · refine lv_icmp_lt hx hb hd ht (fun q => ?_) (fun q => ?_)
    · rw [if_pos (show zcd .lt x y = true from decide_eq_true ((zlt32 hx1 hy1).mp q))] at kk; exact kk
    · rw [if_neg (show ¬ zcd .lt x y = true from fun z => q ((zlt32 hx1 hy1).mpr (of_decide_eq_true z)))] at kk; exact kk
  · refine lv_icmp_ge hx hb hd ht (fun q => ?_) (fun q => ?_)
    · rw [if_pos (show zcd .ge x y = true from decide_eq_true ((zle32 hy1 hx1).mp q))] at kk; exact kk
    · rw [if_neg (show ¬ zcd .ge x y = true from fun z => q ((zle32 hy1 hx1).mpr (of_decide_eq_true z)))] at kk; exact kk
  · refine lv_icmp_gt hx hb hd ht (fun q => ?_) (fun q => ?_)
    · rw [if_pos (show zcd .gt x y = true from decide_eq_true ((zlt32 hy1 hx1).mp q))] at kk; exact kk
    · rw [if_neg (show ¬ zcd .gt x y = true from fun z => q ((zlt32 hy1 hx1).mpr (of_decide_eq_true z)))] at kk; exact kk
  · refine lv_icmp_le hx hb hd ht (fun q => ?_) (fun q => ?_)
    · rw [if_pos (show zcd .le x y = true from decide_eq_true ((zle32 hx1 hy1).mp q))] at kk; exact kk
    · rw [if_neg (show ¬ zcd .le x y = true from fun z => q ((zle32 hx1 hy1).mpr (of_decide_eq_true z)))] at kk; exact kk
theorem ztg_eq {pc t : Nat} {off : Int} (h : ztg pc off = some t) : (pc : Int) + off = (t : Int) := by
  unfold ztg at h
  split at h
  · cases h
    omega
  · cases h
theorem zW_lcmp {x y : Int} (F : zFr p s m args meth c j) (hd : decode (zcode j) pc = .ok (.lcmp, 1)) (hx1 : in64 x) (hy1 : in64 y)
    (kk : W p l e R s m args below meth c H locs cells slots Q (F0 m (pc + 1) ls (zval base X (.inl (if x < y then -1 else if x = y then 0 else 1)) :: st))) : W p l e R s m args below meth c H locs cells slots Q (F0 m pc ls (zval base X (.inr (.inl y)) :: zval base X (.inr (.inl x)) :: st)) := by
  obtain ⟨hx, hb, hml, hown, hts, hin⟩ := F
  have e1 : zval base X (.inl (if x < y then -1 else if x = y then 0 else 1)) = .int (lg_cmp (Int64.ofInt x) (Int64.ofInt y)) := by
    unfold lg_cmp
    have h1 : Int64.ofInt x > Int64.ofInt y ↔ y < x := by
      show Int64.ofInt y < Int64.ofInt x ↔ _
      rw [Int64.lt_iff_toInt_lt, i64_of hx1, i64_of hy1]
    have h2 : Int64.ofInt x = Int64.ofInt y ↔ x = y := by rw [← Int64.toInt_inj, i64_of hx1, i64_of hy1]
    by_cases q : y < x
    · rw [if_pos (h1.mpr q), if_neg (by omega), if_neg (by omega)]
      rfl
    · rw [if_neg (fun z => q (h1.mp z))]
      by_cases q2 : x = y
      · rw [if_pos (h2.mpr q2), if_neg (by omega), if_pos q2]
        rfl
      · rw [if_neg (fun z => q2 (h2.mp z)), if_pos (by omega)]
        rfl
  rw [e1] at kk
  exact W.lcmp hx hb hd kk
theorem zW_sw {d lo hi : Int} {offs : Array Int} {t : Nat} {x : Int} (F : zFr p s m args meth c j) (hd : decode (zcode j) pc = .ok (.tableswitch d lo hi offs, len)) (hx1 : in32 x) (ht : (pc : Int) + (if x < lo ∨ hi < x then d else offs.getD (x - lo).toNat 0) = (t : Int)) (ho : (x < lo ∨ hi < x) ∨ (x - lo).toNat < offs.size)
    (kk : W p l e R s m args below meth c H locs cells slots Q (F0 m t ls st)) : W p l e R s m args below meth c H locs cells slots Q (F0 m pc ls (zval base X (.inl x) :: st)) := by
  obtain ⟨hx, hb, hml, hown, hts, hin⟩ := F
  have ex := i32_of hx1
  by_cases q : x < lo ∨ hi < x
  · rw [if_pos q] at ht
    exact lv_tableOut hx hb hd (by rw [ex]; exact q) ht kk
  · rw [if_neg q] at ht
    have h3 := ho.resolve_left q
    refine lv_tableIn hx hb hd (by rw [ex]; omega) (by rw [ex]; omega) (off := offs.getD (x - lo).toNat 0) ?_ ht kk
    rw [ex, Array.getD_eq_getD_getElem?, Array.getElem?_eq_getElem h3]
    rfl
theorem zW_iinc (hX : zXok X) {n : Nat} {k x : Int} {L : zL} (F : zFr p s m args meth c j) (hl : zlr base X L ls (zml j)) (hd : decode (zcode j) pc = .ok (.iinc n k, 3)) (hv : zlo L n = some (.inl x)) (hn : n < zml j)
    (kk : ∀ ls', zlr base X (zs_1 L n (.inl (zbi (fun x y => x + y) x k))) ls' (zml j) → W p l e R s m args below meth c H locs cells slots Q (F0 m (pc + 3) ls' st)) : W p l e R s m args below meth c H locs cells slots Q (F0 m pc ls st) := by
  obtain ⟨hx, hb, hml, hown, hts, hin⟩ := F
  have hh := zlr_has hl
  obtain ⟨hg, hok⟩ := hl.2.2 n _ (zlo_get hv)
  have hh2 : lv_has ls (zml j) ((n, .int (Int32.ofInt x)) :: zas base X L) := ⟨hh.1, hh.2.1, fun q hq => by
    rcases List.mem_cons.mp hq with rfl | h
    · exact hg
    · exact hh.2.2 q h⟩
  refine lv_iinc hx hb hd hh2 (k := 0) rfl rfl hn rfl (fun ls' h' => kk ls' (zlr_1 hX hl (i32_in _) ⟨h'.1, h'.2.1, fun q hq => h'.2.2 q ?_⟩))
  rcases List.mem_cons.mp hq with h | h
  · rw [h]
    unfold zbi
    rw [zvi]
    exact List.mem_cons_self
  · refine List.mem_cons_of_mem _ ?_
    obtain ⟨h1, h2⟩ := List.mem_filter.mp h
    exact List.mem_filter.mpr ⟨List.mem_cons_of_mem _ h1, h2⟩
end ZW2
