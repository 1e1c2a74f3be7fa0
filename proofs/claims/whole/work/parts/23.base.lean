/-! The decode rows and the facts of the methods (written by wip/whole/lift.py). -/
def zN : Nat := 10000
def zDo (j : Nat) (l : List (Nat × Instr × Nat)) : Bool := l.all (fun e => decide (decode (zcode j) e.1 = .ok (e.2.1, e.2.2)))
theorem zDk {j : Nat} {l : List (Nat × Instr × Nat)} (h : zDo j l = true) (k : Nat) {pc : Nat} {i : Instr} {len : Nat} (e : l[k]? = some (pc, i, len)) : decode (zcode j) pc = .ok (i, len) := of_decide_eq_true (List.all_eq_true.mp h (pc, i, len) (List.mem_of_getElem? e))
def zmin (x y : Int) : Int := if y < x then y else x
def zmax (x y : Int) : Int := if x < y then y else x
def zabs (x : Int) : Int := if 0 < x then x else w64 (-x)
section ZRX
variable {sc : zSc} {q j pc : Nat} {L L' : zL} {S : List zV} {M M' : Nat → Nat → Int} {P : Option zV → (Nat → Nat → Int) → Prop} {ml : Nat}
theorem W_istore_n {n : Fin 4} {x : Int} (hd : decode (zcode j) pc = .ok (.istore_n n, 1)) (hm : zml j = ml) (hn : (n : Nat) < ml) (hL : zs_1 L n (.inl x) = L') (k : zWp sc q j (pc + 1) L' S M P) : zWp sc q j pc L (.inl x :: S) M P := E_istore_n hd (by rw [hm]; exact hn) hL k
theorem W_istore {n : Nat} {x : Int} (hd : decode (zcode j) pc = .ok (.istore n, 2)) (hm : zml j = ml) (hn : (n : Nat) < ml) (hL : zs_1 L n (.inl x) = L') (k : zWp sc q j (pc + 2) L' S M P) : zWp sc q j pc L (.inl x :: S) M P := E_istore hd (by rw [hm]; exact hn) hL k
theorem W_lstore_n {n : Fin 4} {x : Int} (hd : decode (zcode j) pc = .ok (.lstore_n n, 1)) (hm : zml j = ml) (hn : (n : Nat) + 1 < ml) (hL : zs_2 L n (.inr (.inl x)) = L') (k : zWp sc q j (pc + 1) L' S M P) : zWp sc q j pc L (.inr (.inl x) :: S) M P := E_lstore_n hd (by rw [hm]; exact hn) hL k
theorem W_lstore {n : Nat} {x : Int} (hd : decode (zcode j) pc = .ok (.lstore n, 2)) (hm : zml j = ml) (hn : (n : Nat) + 1 < ml) (hL : zs_2 L n (.inr (.inl x)) = L') (k : zWp sc q j (pc + 2) L' S M P) : zWp sc q j pc L (.inr (.inl x) :: S) M P := E_lstore hd (by rw [hm]; exact hn) hL k
theorem W_astore_n {n : Fin 4} {x : Nat} (hd : decode (zcode j) pc = .ok (.astore_n n, 1)) (hm : zml j = ml) (hn : (n : Nat) < ml) (hL : zs_1 L n (.inr (.inr x)) = L') (k : zWp sc q j (pc + 1) L' S M P) : zWp sc q j pc L (.inr (.inr x) :: S) M P := E_astore_n hd (by rw [hm]; exact hn) hL k
theorem W_astore {n : Nat} {x : Nat} (hd : decode (zcode j) pc = .ok (.astore n, 2)) (hm : zml j = ml) (hn : n < ml) (hL : zs_1 L n (.inr (.inr x)) = L') (k : zWp sc q j (pc + 2) L' S M P) : zWp sc q j pc L (.inr (.inr x) :: S) M P := E_stor hd rfl rfl rfl rfl rfl (by rw [hm]; exact hn) (by rw [if_neg (by decide)]; rw [hL]; exact k)
theorem W_iinc {n : Nat} {d x : Int} (hd : decode (zcode j) pc = .ok (.iinc n d, 3)) (hl : zlo L n = some (.inl x)) (hm : zml j = ml) (hn : n < ml) (hL : zs_1 L n (.inl (w32 (x + d))) = L') (k : zWp sc q j (pc + 3) L' S M P) : zWp sc q j pc L S M P := by
  refine E_1 hd rfl ?_ k
  show (match zlo L n with | some (.inl x) => (if 3 = 3 ∧ n < zml j then some (pc + 3, zs_1 L n (.inl (zbi (fun x y => x + y) x d)), S, zA M) else none) | _ => none) = _
  rw [hl]
  show (if 3 = 3 ∧ n < zml j then some (pc + 3, zs_1 L n (.inl (zbi (fun x y => x + y) x d)), S, zA M) else none) = _
  have e : zbi (fun x y => x + y) x d = w32 (x + d) := by unfold w32; rw [Int32.ofInt_add]; rfl
  rw [if_pos ⟨rfl, by rw [hm]; exact hn⟩, e, hL]
theorem zb_iadd (x y : Int) : zbi (fun x y => x + y) x y = w32 (x + y) := by unfold w32; rw [Int32.ofInt_add]; rfl
theorem W_iadd {x y : Int} (hd : decode (zcode j) pc = .ok (.iadd, 1)) (k : zWp sc q j (pc + 1) L (.inl (w32 (x + y)) :: S) M P) : zWp sc q j pc L (.inl y :: .inl x :: S) M P := E_b32 hd rfl rfl rfl rfl rfl (fun h => by cases h) (by rw [zb_iadd]; exact k)
theorem zb_isub (x y : Int) : zbi (fun x y => x - y) x y = w32 (x - y) := by unfold w32; rw [Int32.ofInt_sub]; rfl
theorem W_isub {x y : Int} (hd : decode (zcode j) pc = .ok (.isub, 1)) (k : zWp sc q j (pc + 1) L (.inl (w32 (x - y)) :: S) M P) : zWp sc q j pc L (.inl y :: .inl x :: S) M P := E_b32 hd rfl rfl rfl rfl rfl (fun h => by cases h) (by rw [zb_isub]; exact k)
theorem zb_imul (x y : Int) : zbi (fun x y => x * y) x y = w32 (x * y) := by unfold w32; rw [Int32.ofInt_mul]; rfl
theorem W_imul {x y : Int} (hd : decode (zcode j) pc = .ok (.imul, 1)) (k : zWp sc q j (pc + 1) L (.inl (w32 (x * y)) :: S) M P) : zWp sc q j pc L (.inl y :: .inl x :: S) M P := E_b32 hd rfl rfl rfl rfl rfl (fun h => by cases h) (by rw [zb_imul]; exact k)
theorem zb_ladd (x y : Int) : zbl (fun x y => x + y) x y = w64 (x + y) := by unfold w64; rw [Int64.ofInt_add]; rfl
theorem W_ladd {x y : Int} (hd : decode (zcode j) pc = .ok (.ladd, 1)) (k : zWp sc q j (pc + 1) L (.inr (.inl (w64 (x + y))) :: S) M P) : zWp sc q j pc L (.inr (.inl y) :: .inr (.inl x) :: S) M P := E_b64 hd rfl rfl rfl rfl rfl rfl (fun h => by cases h) (by rw [zb_ladd]; exact k)
theorem zb_lmul (x y : Int) : zbl (fun x y => x * y) x y = w64 (x * y) := by unfold w64; rw [Int64.ofInt_mul]; rfl
theorem W_lmul {x y : Int} (hd : decode (zcode j) pc = .ok (.lmul, 1)) (k : zWp sc q j (pc + 1) L (.inr (.inl (w64 (x * y))) :: S) M P) : zWp sc q j pc L (.inr (.inl y) :: .inr (.inl x) :: S) M P := E_b64 hd rfl rfl rfl rfl rfl rfl (fun h => by cases h) (by rw [zb_lmul]; exact k)
theorem W_lcmp {x y : Int} (hd : decode (zcode j) pc = .ok (.lcmp, 1)) (k : zWp sc q j (pc + 1) L (.inl (zlc x y) :: S) M P) : zWp sc q j pc L (.inr (.inl y) :: .inr (.inl x) :: S) M P := E_lcmp hd k
theorem W_min {idx C : Nat} {x y : Int} (hd : decode (zcode j) pc = .ok (.invokestatic idx, 3)) (hc : zcls j = C) (hf : zpx C idx = some 0) (hs : ((.inl (zmin x y) :: S : List zV).map zcat).sum ≤ 8) (hq : 1 - 1 < q) (k : zWp sc q j (pc + 3) L (.inl (zmin x y) :: S) M P) : zWp sc q j pc L (.inl y :: .inl x :: S) M P := E_min hd hc hf hs hq k
theorem W_max {idx C : Nat} {x y : Int} (hd : decode (zcode j) pc = .ok (.invokestatic idx, 3)) (hc : zcls j = C) (hf : zpx C idx = some 1) (hs : ((.inl (zmax x y) :: S : List zV).map zcat).sum ≤ 8) (hq : 1 - 1 < q) (k : zWp sc q j (pc + 3) L (.inl (zmax x y) :: S) M P) : zWp sc q j pc L (.inl y :: .inl x :: S) M P := E_max hd hc hf hs hq k
theorem W_abs {idx C : Nat} {x : Int} (hd : decode (zcode j) pc = .ok (.invokestatic idx, 3)) (hc : zcls j = C) (hf : zpx C idx = some 2) (hs : ((.inr (.inl (zabs x)) :: S : List zV).map zcat).sum ≤ 8) (hq : 1 - 1 < q) (k : zWp sc q j (pc + 3) L (.inr (.inl (zabs x)) :: S) M P) : zWp sc q j pc L (.inr (.inl x) :: S) M P := E_abs hd hc hf hs hq k
theorem W_putI {idx c C ci f : Nat} {x : Int} (hd : decode (zcode j) pc = .ok (.putfield idx, 3)) (hc : zcls j = C) (hf : zfx C idx = some (ci, f)) (hk : zfk ci f = 0 ∧ (zTX ci f).2.2.2 = false) (hz : zis ci c = true) (hM : zup M c f x = M') (k : zWp sc q j (pc + 3) L S M' P) : zWp sc q j pc L (.inl x :: .inr (.inr c) :: S) M P := E_putI hd hc hf hk hz (by rw [hM]; exact k)
theorem W_putZ {idx c C ci f : Nat} {x : Int} (hd : decode (zcode j) pc = .ok (.putfield idx, 3)) (hc : zcls j = C) (hf : zfx C idx = some (ci, f)) (hk : zfk ci f = 3 ∧ (zTX ci f).2.2.2 = false) (hz : zis ci c = true) (hx : x = 0 ∨ x = 1) (hM : zup M c f x = M') (k : zWp sc q j (pc + 3) L S M' P) : zWp sc q j pc L (.inl x :: .inr (.inr c) :: S) M P := E_putZ hd hc hf hk hz hx (by rw [hM]; exact k)
theorem W_putL {idx c C ci f : Nat} {x : Int} (hd : decode (zcode j) pc = .ok (.putfield idx, 3)) (hc : zcls j = C) (hf : zfx C idx = some (ci, f)) (hk : zfk ci f = 1 ∧ (zTX ci f).2.2.2 = false) (hz : zis ci c = true) (hM : zup M c f x = M') (k : zWp sc q j (pc + 3) L S M' P) : zWp sc q j pc L (.inr (.inl x) :: .inr (.inr c) :: S) M P := E_putL hd hc hf hk hz (by rw [hM]; exact k)
end ZRX
theorem zis_0_23 : zis 0 23 = true := by decide +kernel
theorem zis_0_57 : zis 0 57 = true := by decide +kernel
theorem zis_0_74 : zis 0 74 = true := by decide +kernel
theorem zis_0_91 : zis 0 91 = true := by decide +kernel
theorem zis_1_29 : zis 1 29 = true := by decide +kernel
theorem zis_1_37 : zis 1 37 = true := by decide +kernel
theorem zis_2_46 : zis 2 46 = true := by decide +kernel
theorem zis_2_63 : zis 2 63 = true := by decide +kernel
theorem zis_2_80 : zis 2 80 = true := by decide +kernel
theorem zis_3_30 : zis 3 30 = true := by decide +kernel
theorem zis_3_38 : zis 3 38 = true := by decide +kernel
theorem zis_4_1 : zis 4 1 = true := by decide +kernel
theorem zis_5_97 : zis 5 97 = true := by decide +kernel
theorem zis_6_3 : zis 6 3 = true := by decide +kernel
theorem zis_6_13 : zis 6 13 = true := by decide +kernel
theorem zis_6_47 : zis 6 47 = true := by decide +kernel
theorem zis_6_64 : zis 6 64 = true := by decide +kernel
theorem zis_6_81 : zis 6 81 = true := by decide +kernel
theorem zis_7_0 : zis 7 0 = true := by decide +kernel
theorem zis_8_106 : zis 8 106 = true := by decide +kernel
theorem zis_0 {c : Nat} (h : zis 0 c = true) : c = 23 ∨ c = 57 ∨ c = 74 ∨ c = 91 := by
  have hl : c < 130 := by
    have h := of_decide_eq_true h
    by_cases hc : c < 130
    · exact hc
    · rw [List.getElem?_eq_none (by have e : zSH.length = 130 := by decide +kernel
                                    omega)] at h
      cases h
  have key : (List.range 130).all (fun c => !(zis 0 c) || decide (c = 23 ∨ c = 57 ∨ c = 74 ∨ c = 91)) = true := by decide +kernel
  have k1 := List.all_eq_true.mp key c (List.mem_range.mpr hl)
  rw [h] at k1
  exact of_decide_eq_true k1
theorem zg_0_2 {c : Nat} (h : zis 0 c = true) : zgld zGG c 2 = c + 1 := by rcases zis_0 h with rfl | rfl | rfl | rfl <;> decide +kernel
theorem zh_0_2 {c : Nat} (h : zis 0 c = true) : c + 1 ≤ 5000 := by rcases zis_0 h with rfl | rfl | rfl | rfl <;> decide
theorem zg_0_3 {c : Nat} (h : zis 0 c = true) : zgld zGG c 3 = c + 2 := by rcases zis_0 h with rfl | rfl | rfl | rfl <;> decide +kernel
theorem zh_0_3 {c : Nat} (h : zis 0 c = true) : c + 2 ≤ 5000 := by rcases zis_0 h with rfl | rfl | rfl | rfl <;> decide
theorem zg_0_4 {c : Nat} (h : zis 0 c = true) : zgld zGG c 4 = c + 3 := by rcases zis_0 h with rfl | rfl | rfl | rfl <;> decide +kernel
theorem zh_0_4 {c : Nat} (h : zis 0 c = true) : c + 3 ≤ 5000 := by rcases zis_0 h with rfl | rfl | rfl | rfl <;> decide
theorem zg_0_5 {c : Nat} (h : zis 0 c = true) : zgld zGG c 5 = c + 4 := by rcases zis_0 h with rfl | rfl | rfl | rfl <;> decide +kernel
theorem zh_0_5 {c : Nat} (h : zis 0 c = true) : c + 4 ≤ 5000 := by rcases zis_0 h with rfl | rfl | rfl | rfl <;> decide
theorem zg_0_6 {c : Nat} (h : zis 0 c = true) : zgld zGG c 6 = c + 5 := by rcases zis_0 h with rfl | rfl | rfl | rfl <;> decide +kernel
theorem zh_0_6 {c : Nat} (h : zis 0 c = true) : c + 5 ≤ 5000 := by rcases zis_0 h with rfl | rfl | rfl | rfl <;> decide
theorem zis_1 {c : Nat} (h : zis 1 c = true) : c = 29 ∨ c = 37 := by
  have hl : c < 130 := by
    have h := of_decide_eq_true h
    by_cases hc : c < 130
    · exact hc
    · rw [List.getElem?_eq_none (by have e : zSH.length = 130 := by decide +kernel
                                    omega)] at h
      cases h
  have key : (List.range 130).all (fun c => !(zis 1 c) || decide (c = 29 ∨ c = 37)) = true := by decide +kernel
  have k1 := List.all_eq_true.mp key c (List.mem_range.mpr hl)
  rw [h] at k1
  exact of_decide_eq_true k1
theorem zg_1_0 {c : Nat} (h : zis 1 c = true) : zgld zGG c 0 = 3 := by rcases zis_1 h with rfl | rfl <;> decide +kernel
theorem zg_1_1 {c : Nat} (h : zis 1 c = true) : zgld zGG c 1 = 23 := by rcases zis_1 h with rfl | rfl <;> decide +kernel
theorem zg_1_2 {c : Nat} (h : zis 1 c = true) : zgld zGG c 2 = c + 1 := by rcases zis_1 h with rfl | rfl <;> decide +kernel
theorem zh_1_2 {c : Nat} (h : zis 1 c = true) : c + 1 ≤ 5000 := by rcases zis_1 h with rfl | rfl <;> decide
theorem zi_1_2 {c : Nat} (h : zis 1 c = true) : zis 3 (c + 1) = true := by rcases zis_1 h with rfl | rfl <;> decide +kernel
theorem zg_1_3 {c : Nat} (h : zis 1 c = true) : zgld zGG c 3 = c + 3 := by rcases zis_1 h with rfl | rfl <;> decide +kernel
theorem zh_1_3 {c : Nat} (h : zis 1 c = true) : c + 3 ≤ 5000 := by rcases zis_1 h with rfl | rfl <;> decide
theorem zg_1_4 {c : Nat} (h : zis 1 c = true) : zgld zGG c 4 = c + 4 := by rcases zis_1 h with rfl | rfl <;> decide +kernel
theorem zh_1_4 {c : Nat} (h : zis 1 c = true) : c + 4 ≤ 5000 := by rcases zis_1 h with rfl | rfl <;> decide
theorem zg_1_5 {c : Nat} (h : zis 1 c = true) : zgld zGG c 5 = c + 5 := by rcases zis_1 h with rfl | rfl <;> decide +kernel
theorem zh_1_5 {c : Nat} (h : zis 1 c = true) : c + 5 ≤ 5000 := by rcases zis_1 h with rfl | rfl <;> decide
theorem zg_1_6 {c : Nat} (h : zis 1 c = true) : zgld zGG c 6 = c + 6 := by rcases zis_1 h with rfl | rfl <;> decide +kernel
theorem zh_1_6 {c : Nat} (h : zis 1 c = true) : c + 6 ≤ 5000 := by rcases zis_1 h with rfl | rfl <;> decide
theorem zg_1_7 {c : Nat} (h : zis 1 c = true) : zgld zGG c 7 = c + 7 := by rcases zis_1 h with rfl | rfl <;> decide +kernel
theorem zh_1_7 {c : Nat} (h : zis 1 c = true) : c + 7 ≤ 5000 := by rcases zis_1 h with rfl | rfl <;> decide
theorem zis_2 {c : Nat} (h : zis 2 c = true) : c = 46 ∨ c = 63 ∨ c = 80 := by
  have hl : c < 130 := by
    have h := of_decide_eq_true h
    by_cases hc : c < 130
    · exact hc
    · rw [List.getElem?_eq_none (by have e : zSH.length = 130 := by decide +kernel
                                    omega)] at h
      cases h
  have key : (List.range 130).all (fun c => !(zis 2 c) || decide (c = 46 ∨ c = 63 ∨ c = 80)) = true := by decide +kernel
  have k1 := List.all_eq_true.mp key c (List.mem_range.mpr hl)
  rw [h] at k1
  exact of_decide_eq_true k1
theorem zg_2_1 {c : Nat} (h : zis 2 c = true) : zgld zGG c 1 = c + 1 := by rcases zis_2 h with rfl | rfl | rfl <;> decide +kernel
theorem zh_2_1 {c : Nat} (h : zis 2 c = true) : c + 1 ≤ 5000 := by rcases zis_2 h with rfl | rfl | rfl <;> decide
theorem zi_2_1 {c : Nat} (h : zis 2 c = true) : zis 6 (c + 1) = true := by rcases zis_2 h with rfl | rfl | rfl <;> decide +kernel
theorem zg_2_2 {c : Nat} (h : zis 2 c = true) : zgld zGG c 2 = c + 11 := by rcases zis_2 h with rfl | rfl | rfl <;> decide +kernel
theorem zh_2_2 {c : Nat} (h : zis 2 c = true) : c + 11 ≤ 5000 := by rcases zis_2 h with rfl | rfl | rfl <;> decide
theorem zi_2_2 {c : Nat} (h : zis 2 c = true) : zis 0 (c + 11) = true := by rcases zis_2 h with rfl | rfl | rfl <;> decide +kernel
theorem zis_3 {c : Nat} (h : zis 3 c = true) : c = 30 ∨ c = 38 := by
  have hl : c < 130 := by
    have h := of_decide_eq_true h
    by_cases hc : c < 130
    · exact hc
    · rw [List.getElem?_eq_none (by have e : zSH.length = 130 := by decide +kernel
                                    omega)] at h
      cases h
  have key : (List.range 130).all (fun c => !(zis 3 c) || decide (c = 30 ∨ c = 38)) = true := by decide +kernel
  have k1 := List.all_eq_true.mp key c (List.mem_range.mpr hl)
  rw [h] at k1
  exact of_decide_eq_true k1
theorem zg_3_0 {c : Nat} (h : zis 3 c = true) : zgld zGG c 0 = c + 1 := by rcases zis_3 h with rfl | rfl <;> decide +kernel
theorem zh_3_0 {c : Nat} (h : zis 3 c = true) : c + 1 ≤ 5000 := by rcases zis_3 h with rfl | rfl <;> decide
theorem zis_6 {c : Nat} (h : zis 6 c = true) : c = 3 ∨ c = 13 ∨ c = 47 ∨ c = 64 ∨ c = 81 := by
  have hl : c < 130 := by
    have h := of_decide_eq_true h
    by_cases hc : c < 130
    · exact hc
    · rw [List.getElem?_eq_none (by have e : zSH.length = 130 := by decide +kernel
                                    omega)] at h
      cases h
  have key : (List.range 130).all (fun c => !(zis 6 c) || decide (c = 3 ∨ c = 13 ∨ c = 47 ∨ c = 64 ∨ c = 81)) = true := by decide +kernel
  have k1 := List.all_eq_true.mp key c (List.mem_range.mpr hl)
  rw [h] at k1
  exact of_decide_eq_true k1
theorem zg_6_9 {c : Nat} (h : zis 6 c = true) : zgld zGG c 9 = c + 1 := by rcases zis_6 h with rfl | rfl | rfl | rfl | rfl <;> decide +kernel
theorem zh_6_9 {c : Nat} (h : zis 6 c = true) : c + 1 ≤ 5000 := by rcases zis_6 h with rfl | rfl | rfl | rfl | rfl <;> decide
theorem zg_6_10 {c : Nat} (h : zis 6 c = true) : zgld zGG c 10 = c + 2 := by rcases zis_6 h with rfl | rfl | rfl | rfl | rfl <;> decide +kernel
theorem zh_6_10 {c : Nat} (h : zis 6 c = true) : c + 2 ≤ 5000 := by rcases zis_6 h with rfl | rfl | rfl | rfl | rfl <;> decide
theorem zg_6_11 {c : Nat} (h : zis 6 c = true) : zgld zGG c 11 = c + 3 := by rcases zis_6 h with rfl | rfl | rfl | rfl | rfl <;> decide +kernel
theorem zh_6_11 {c : Nat} (h : zis 6 c = true) : c + 3 ≤ 5000 := by rcases zis_6 h with rfl | rfl | rfl | rfl | rfl <;> decide
theorem zg_6_12 {c : Nat} (h : zis 6 c = true) : zgld zGG c 12 = c + 4 := by rcases zis_6 h with rfl | rfl | rfl | rfl | rfl <;> decide +kernel
theorem zh_6_12 {c : Nat} (h : zis 6 c = true) : c + 4 ≤ 5000 := by rcases zis_6 h with rfl | rfl | rfl | rfl | rfl <;> decide
theorem zg_6_13 {c : Nat} (h : zis 6 c = true) : zgld zGG c 13 = c + 5 := by rcases zis_6 h with rfl | rfl | rfl | rfl | rfl <;> decide +kernel
theorem zh_6_13 {c : Nat} (h : zis 6 c = true) : c + 5 ≤ 5000 := by rcases zis_6 h with rfl | rfl | rfl | rfl | rfl <;> decide
theorem zg_6_14 {c : Nat} (h : zis 6 c = true) : zgld zGG c 14 = c + 6 := by rcases zis_6 h with rfl | rfl | rfl | rfl | rfl <;> decide +kernel
theorem zh_6_14 {c : Nat} (h : zis 6 c = true) : c + 6 ≤ 5000 := by rcases zis_6 h with rfl | rfl | rfl | rfl | rfl <;> decide
theorem zg_6_15 {c : Nat} (h : zis 6 c = true) : zgld zGG c 15 = c + 7 := by rcases zis_6 h with rfl | rfl | rfl | rfl | rfl <;> decide +kernel
theorem zh_6_15 {c : Nat} (h : zis 6 c = true) : c + 7 ≤ 5000 := by rcases zis_6 h with rfl | rfl | rfl | rfl | rfl <;> decide
theorem zg_6_16 {c : Nat} (h : zis 6 c = true) : zgld zGG c 16 = c + 8 := by rcases zis_6 h with rfl | rfl | rfl | rfl | rfl <;> decide +kernel
theorem zh_6_16 {c : Nat} (h : zis 6 c = true) : c + 8 ≤ 5000 := by rcases zis_6 h with rfl | rfl | rfl | rfl | rfl <;> decide
theorem zg_6_17 {c : Nat} (h : zis 6 c = true) : zgld zGG c 17 = c + 9 := by rcases zis_6 h with rfl | rfl | rfl | rfl | rfl <;> decide +kernel
theorem zh_6_17 {c : Nat} (h : zis 6 c = true) : c + 9 ≤ 5000 := by rcases zis_6 h with rfl | rfl | rfl | rfl | rfl <;> decide
