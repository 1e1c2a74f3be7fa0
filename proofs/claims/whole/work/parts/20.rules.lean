/-! Rules: from a run behind a row to a run ahead of it. -/
def zWp (sc : zSc) (q j pc : Nat) (L : zL) (S : List zV) (M : Nat → Nat → Int) (P : Option zV → (Nat → Nat → Int) → Prop) : Prop := ∃ (n : Nat) (r : Option zV) (M' : Nat → Nat → Int), zex sc n q j pc L S (zA M) = some (r, zA M') ∧ P r M'
/-- a method's call -/
def zCw (sc : zSc) (c : Nat) (as : List zV) (M : Nat → Nat → Int) (P : Option zV → (Nat → Nat → Int) → Prop) : Prop := zWp sc (zrk c as) c 0 (zarg (zml c) as) [] M P
def zCi (sc : zSc) (c : Nat) (as : List zV) (M : Nat → Nat → Int) (P : Int → (Nat → Nat → Int) → Prop) : Prop := zCw sc c as M (fun r M1 => ∃ x, r = some (.inl x) ∧ P x M1)
def zCl (sc : zSc) (c : Nat) (as : List zV) (M : Nat → Nat → Int) (P : Int → (Nat → Nat → Int) → Prop) : Prop := zCw sc c as M (fun r M1 => ∃ x, r = some (.inr (.inl x)) ∧ P x M1)
def zCv (sc : zSc) (c : Nat) (as : List zV) (M : Nat → Nat → Int) (P : (Nat → Nat → Int) → Prop) : Prop := zCw sc c as M (fun r M1 => r = none ∧ P M1)
section ZRU
variable {sc : zSc} {q j pc : Nat} {L L' : zL} {S S' : List zV} {M M' : Nat → Nat → Int} {P P' : Option zV → (Nat → Nat → Int) → Prop}
theorem zWp_mono (h : zWp sc q j pc L S M P) (hp : ∀ r M', P r M' → P' r M') : zWp sc q j pc L S M P' := by
  obtain ⟨n, r, M', h1, h2⟩ := h
  exact ⟨n, r, M', h1, hp r M' h2⟩
theorem zCi_mono {c : Nat} {as : List zV} {P P' : Int → (Nat → Nat → Int) → Prop} (h : zCi sc c as M P) (hp : ∀ x M', P x M' → P' x M') : zCi sc c as M P' := zWp_mono h (fun r M' ⟨x, e, hx⟩ => ⟨x, e, hp x M' hx⟩)
theorem zCl_mono {c : Nat} {as : List zV} {P P' : Int → (Nat → Nat → Int) → Prop} (h : zCl sc c as M P) (hp : ∀ x M', P x M' → P' x M') : zCl sc c as M P' := zWp_mono h (fun r M' ⟨x, e, hx⟩ => ⟨x, e, hp x M' hx⟩)
theorem zCv_mono {c : Nat} {as : List zV} {P P' : (Nat → Nat → Int) → Prop} (h : zCv sc c as M P) (hp : ∀ M', P M' → P' M') : zCv sc c as M P' := zWp_mono h (fun r M' ⟨e, hx⟩ => ⟨e, hp M' hx⟩)
theorem E_step {i : Instr} {len pc' : Nat} (hd : decode (zcode j) pc = .ok (i, len)) (hr : zret j S i len = none) (hs : zstep sc q j pc L S (zA M) i len = some (pc', L', S', zA M')) (k : zWp sc q j pc' L' S' M' P) : zWp sc q j pc L S M P := by
  obtain ⟨n, r, M1, h, hp⟩ := k
  refine ⟨n + 1, r, M1, ?_, hp⟩
  unfold zex
  simp only [hd, hr, hs]
  exact h
theorem E_1 {i : Instr} {len pc' : Nat} (hd : decode (zcode j) pc = .ok (i, len)) (hr : zret j S i len = none) (hs : zs1 sc q j pc L S (zA M) i len = some (pc', L', S', zA M')) (k : zWp sc q j pc' L' S' M' P) : zWp sc q j pc L S M P := by
  refine E_step hd hr ?_ k
  unfold zstep
  rw [hs]
/-- constants -/
theorem E_push {i : Instr} {len : Nat} {v : zV} (hd : decode (zcode j) pc = .ok (i, len)) (hr : zret j S i len = none) (hp : zpush i len (zcls j) = some v) (k : zWp sc q j (pc + len) L (v :: S) M P) : zWp sc q j pc L S M P := by
  refine E_1 hd hr ?_ k
  unfold zs1
  simp only [hp]
theorem w32_id {x : Int} (h : in32 x) : w32 x = x := i32_of h
theorem w64_id {x : Int} (h : in64 x) : w64 x = x := i64_of h
theorem E_iconst {n : Int} (hd : decode (zcode j) pc = .ok (.iconst n, 1)) (h : w32 n = n) (k : zWp sc q j (pc + 1) L (.inl n :: S) M P) : zWp sc q j pc L S M P := E_push hd rfl (by show some (Sum.inl (w32 n)) = _; rw [h]) k
theorem E_bipush {n : Int} (hd : decode (zcode j) pc = .ok (.bipush n, 2)) (h : (Int8.ofInt n).toInt32.toInt = n) (k : zWp sc q j (pc + 2) L (.inl n :: S) M P) : zWp sc q j pc L S M P := E_push hd rfl (by show some (Sum.inl ((Int8.ofInt n).toInt32.toInt)) = _; rw [h]) k
theorem E_sipush {n : Int} (hd : decode (zcode j) pc = .ok (.sipush n, 3)) (h : (Int16.ofInt n).toInt32.toInt = n) (k : zWp sc q j (pc + 3) L (.inl n :: S) M P) : zWp sc q j pc L S M P := E_push hd rfl (by show some (Sum.inl ((Int16.ofInt n).toInt32.toInt)) = _; rw [h]) k
theorem E_lconst {n : Fin 2} {v : Int} (hd : decode (zcode j) pc = .ok (.lconst n, 1)) (h : (Int64.ofNat (n : Nat)).toInt = v) (k : zWp sc q j (pc + 1) L (.inr (.inl v) :: S) M P) : zWp sc q j pc L S M P := E_push hd rfl (by show some (Sum.inr (Sum.inl ((Int64.ofNat (n : Nat)).toInt))) = _; rw [h]) k
theorem E_ldc {n C : Nat} {v : zV} (hd : decode (zcode j) pc = .ok (.ldc n, 2)) (hc : zcls j = C) (h : zpush (.ldc n) 2 C = some v) (k : zWp sc q j (pc + 2) L (v :: S) M P) : zWp sc q j pc L S M P := E_push hd rfl (by rw [hc]; exact h) k
theorem E_ldc_w {n C : Nat} {v : zV} (hd : decode (zcode j) pc = .ok (.ldc_w n, 3)) (hc : zcls j = C) (h : zpush (.ldc_w n) 3 C = some v) (k : zWp sc q j (pc + 3) L (v :: S) M P) : zWp sc q j pc L S M P := E_push hd rfl (by rw [hc]; exact h) k
theorem E_ldc2_w {n C : Nat} {v : zV} (hd : decode (zcode j) pc = .ok (.ldc2_w n, 3)) (hc : zcls j = C) (h : zpush (.ldc2_w n) 3 C = some v) (k : zWp sc q j (pc + 3) L (v :: S) M P) : zWp sc q j pc L S M P := E_push hd rfl (by rw [hc]; exact h) k
theorem E_getstatic {n C : Nat} {v : zV} (hd : decode (zcode j) pc = .ok (.getstatic n, 3)) (hc : zcls j = C) (h : zpush (.getstatic n) 3 C = some v) (k : zWp sc q j (pc + 3) L (v :: S) M P) : zWp sc q j pc L S M P := E_push hd rfl (by rw [hc]; exact h) k
/-- locals -/
theorem E_load {i : Instr} {len kd n : Nat} {v : zV} (hd : decode (zcode j) pc = .ok (i, len)) (hr : zret j S i len = none) (hp : zpush i len (zcls j) = none) (hz : zload i len = some (kd, n)) (hl : zlo L n = some v) (hk : zkind v = kd) (k : zWp sc q j (pc + len) L (v :: S) M P) : zWp sc q j pc L S M P := by
  refine E_1 hd hr ?_ k
  unfold zs1
  simp only [hp, hz, hl, if_pos hk]
theorem E_iload_n {n : Fin 4} {x : Int} (hd : decode (zcode j) pc = .ok (.iload_n n, 1)) (hl : zlo L n = some (.inl x)) (k : zWp sc q j (pc + 1) L (.inl x :: S) M P) : zWp sc q j pc L S M P := E_load hd rfl rfl rfl hl rfl k
theorem E_iload {n : Nat} {x : Int} (hd : decode (zcode j) pc = .ok (.iload n, 2)) (hl : zlo L n = some (.inl x)) (k : zWp sc q j (pc + 2) L (.inl x :: S) M P) : zWp sc q j pc L S M P := E_load hd rfl rfl rfl hl rfl k
theorem E_lload_n {n : Fin 4} {x : Int} (hd : decode (zcode j) pc = .ok (.lload_n n, 1)) (hl : zlo L n = some (.inr (.inl x))) (k : zWp sc q j (pc + 1) L (.inr (.inl x) :: S) M P) : zWp sc q j pc L S M P := E_load hd rfl rfl rfl hl rfl k
theorem E_lload {n : Nat} {x : Int} (hd : decode (zcode j) pc = .ok (.lload n, 2)) (hl : zlo L n = some (.inr (.inl x))) (k : zWp sc q j (pc + 2) L (.inr (.inl x) :: S) M P) : zWp sc q j pc L S M P := E_load hd rfl rfl rfl hl rfl k
theorem E_aload_n {n : Fin 4} {x : Nat} (hd : decode (zcode j) pc = .ok (.aload_n n, 1)) (hl : zlo L n = some (.inr (.inr x))) (k : zWp sc q j (pc + 1) L (.inr (.inr x) :: S) M P) : zWp sc q j pc L S M P := E_load hd rfl rfl rfl hl rfl k
theorem E_aload {n : Nat} {x : Nat} (hd : decode (zcode j) pc = .ok (.aload n, 2)) (hl : zlo L n = some (.inr (.inr x))) (k : zWp sc q j (pc + 2) L (.inr (.inr x) :: S) M P) : zWp sc q j pc L S M P := E_load hd rfl rfl rfl hl rfl k
theorem E_stor {i : Instr} {len kd n : Nat} {v : zV} (hd : decode (zcode j) pc = .ok (i, len)) (hr : zret j (v :: S) i len = none) (hp : zpush i len (zcls j) = none) (hp2 : zload i len = none) (hz : zstor i len = some (kd, n)) (hk : zkind v = kd) (hn : n + (if kd = 2 then 1 else 0) < zml j) (k : zWp sc q j (pc + len) (if kd = 2 then zs_2 L n v else zs_1 L n v) S M P) : zWp sc q j pc L (v :: S) M P := by
  refine E_1 hd hr ?_ k
  unfold zs1
  simp only [hp, hp2, hz]
  rw [if_pos ⟨hk, hn⟩]
theorem E_istore_n {n : Fin 4} {x : Int} (hd : decode (zcode j) pc = .ok (.istore_n n, 1)) (hn : (n : Nat) < zml j) (hL : zs_1 L n (.inl x) = L') (k : zWp sc q j (pc + 1) L' S M P) : zWp sc q j pc L (.inl x :: S) M P := E_stor hd rfl rfl rfl rfl rfl hn (by rw [if_neg (by decide)]; rw [hL]; exact k)
theorem E_istore {n : Nat} {x : Int} (hd : decode (zcode j) pc = .ok (.istore n, 2)) (hn : n < zml j) (hL : zs_1 L n (.inl x) = L') (k : zWp sc q j (pc + 2) L' S M P) : zWp sc q j pc L (.inl x :: S) M P := E_stor hd rfl rfl rfl rfl rfl hn (by rw [if_neg (by decide)]; rw [hL]; exact k)
theorem E_lstore_n {n : Fin 4} {x : Int} (hd : decode (zcode j) pc = .ok (.lstore_n n, 1)) (hn : (n : Nat) + 1 < zml j) (hL : zs_2 L n (.inr (.inl x)) = L') (k : zWp sc q j (pc + 1) L' S M P) : zWp sc q j pc L (.inr (.inl x) :: S) M P := E_stor hd rfl rfl rfl rfl rfl hn (by rw [if_pos rfl]; rw [hL]; exact k)
theorem E_lstore {n : Nat} {x : Int} (hd : decode (zcode j) pc = .ok (.lstore n, 2)) (hn : n + 1 < zml j) (hL : zs_2 L n (.inr (.inl x)) = L') (k : zWp sc q j (pc + 2) L' S M P) : zWp sc q j pc L (.inr (.inl x) :: S) M P := E_stor hd rfl rfl rfl rfl rfl hn (by rw [if_pos rfl]; rw [hL]; exact k)
theorem E_astore_n {n : Fin 4} {x : Nat} (hd : decode (zcode j) pc = .ok (.astore_n n, 1)) (hn : (n : Nat) < zml j) (hL : zs_1 L n (.inr (.inr x)) = L') (k : zWp sc q j (pc + 1) L' S M P) : zWp sc q j pc L (.inr (.inr x) :: S) M P := E_stor hd rfl rfl rfl rfl rfl hn (by rw [if_neg (by decide)]; rw [hL]; exact k)
/-- arithmetic: the functions that stay -/
def zand (x y : Int) : Int := zbi (fun x y => x &&& y) x y
def zor (x y : Int) : Int := zbi (fun x y => x ||| y) x y
def zxor (x y : Int) : Int := zbi (fun x y => x ^^^ y) x y
def zshl (x y : Int) : Int := zbi (fun x y => x <<< (y &&& 31)) x y
def zshr (x y : Int) : Int := zbi (fun x y => x >>> (y &&& 31)) x y
def zushr (x y : Int) : Int := zbi (fun x y => (x.toUInt32 >>> (y.toUInt32 &&& Int32.toUInt32 31)).toInt32) x y
def zdiv (x y : Int) : Int := zbi (fun x y => x / y) x y
def zrem (x y : Int) : Int := zbi (fun x y => x - x / y * y) x y
def zdivL (x y : Int) : Int := zbl (fun x y => x / y) x y
def zremL (x y : Int) : Int := zbl (fun x y => x - x / y * y) x y
def zandL (x y : Int) : Int := zbl (fun x y => x &&& y) x y
def zorL (x y : Int) : Int := zbl (fun x y => x ||| y) x y
def zshlL (x y : Int) : Int := (Int64.ofInt x <<< ((Int32.ofInt y).toInt64 &&& 63)).toInt
def zshrL (x y : Int) : Int := (Int64.ofInt x >>> ((Int32.ofInt y).toInt64 &&& 63)).toInt
def zi2b (x : Int) : Int := (Int32.ofInt x).toInt8.toInt32.toInt
def zi2s (x : Int) : Int := (Int32.ofInt x).toInt16.toInt32.toInt
def zi2c (x : Int) : Int := ((Int32.ofInt x).toUInt32 % 65536).toInt32.toInt
theorem E_b32 {i : Instr} {nz : Bool} {f : Int32 → Int32 → Int32} {x y : Int} (hd : decode (zcode j) pc = .ok (i, 1)) (hr : zret j (.inl y :: .inl x :: S) i 1 = none) (hp : zpush i 1 (zcls j) = none) (hp2 : zload i 1 = none) (hp3 : zstor i 1 = none) (hf : zb32 i = some (nz, f)) (hn : nz = true → y ≠ 0) (k : zWp sc q j (pc + 1) L (.inl (zbi f x y) :: S) M P) : zWp sc q j pc L (.inl y :: .inl x :: S) M P := by
  refine E_1 hd hr ?_ k
  unfold zs1
  simp only [hp, hp2, hp3, hf]
  rw [if_pos ⟨trivial, hn⟩]
theorem zbi_add {x y : Int} (h : in32 (x + y)) : zbi (fun x y => x + y) x y = x + y := by
  show (Int32.ofInt x + Int32.ofInt y).toInt = _
  rw [← Int32.ofInt_add]
  exact i32_of h
theorem zbi_sub {x y : Int} (h : in32 (x - y)) : zbi (fun x y => x - y) x y = x - y := by
  show (Int32.ofInt x - Int32.ofInt y).toInt = _
  rw [← Int32.ofInt_sub]
  exact i32_of h
theorem zbi_mul {x y : Int} (h : in32 (x * y)) : zbi (fun x y => x * y) x y = x * y := by
  show (Int32.ofInt x * Int32.ofInt y).toInt = _
  rw [← Int32.ofInt_mul]
  exact i32_of h
theorem E_iadd {x y : Int} (hd : decode (zcode j) pc = .ok (.iadd, 1)) (h : in32 (x + y)) (k : zWp sc q j (pc + 1) L (.inl (x + y) :: S) M P) : zWp sc q j pc L (.inl y :: .inl x :: S) M P := E_b32 hd rfl rfl rfl rfl rfl (fun h => by cases h) (by rw [zbi_add h]; exact k)
theorem E_isub {x y : Int} (hd : decode (zcode j) pc = .ok (.isub, 1)) (h : in32 (x - y)) (k : zWp sc q j (pc + 1) L (.inl (x - y) :: S) M P) : zWp sc q j pc L (.inl y :: .inl x :: S) M P := E_b32 hd rfl rfl rfl rfl rfl (fun h => by cases h) (by rw [zbi_sub h]; exact k)
theorem E_imul {x y : Int} (hd : decode (zcode j) pc = .ok (.imul, 1)) (h : in32 (x * y)) (k : zWp sc q j (pc + 1) L (.inl (x * y) :: S) M P) : zWp sc q j pc L (.inl y :: .inl x :: S) M P := E_b32 hd rfl rfl rfl rfl rfl (fun h => by cases h) (by rw [zbi_mul h]; exact k)
theorem E_iand {x y : Int} (hd : decode (zcode j) pc = .ok (.iand, 1)) (k : zWp sc q j (pc + 1) L (.inl (zand x y) :: S) M P) : zWp sc q j pc L (.inl y :: .inl x :: S) M P := E_b32 hd rfl rfl rfl rfl rfl (fun h => by cases h) k
theorem E_ior {x y : Int} (hd : decode (zcode j) pc = .ok (.ior, 1)) (k : zWp sc q j (pc + 1) L (.inl (zor x y) :: S) M P) : zWp sc q j pc L (.inl y :: .inl x :: S) M P := E_b32 hd rfl rfl rfl rfl rfl (fun h => by cases h) k
theorem E_ixor {x y : Int} (hd : decode (zcode j) pc = .ok (.ixor, 1)) (k : zWp sc q j (pc + 1) L (.inl (zxor x y) :: S) M P) : zWp sc q j pc L (.inl y :: .inl x :: S) M P := E_b32 hd rfl rfl rfl rfl rfl (fun h => by cases h) k
theorem E_ishl {x y : Int} (hd : decode (zcode j) pc = .ok (.ishl, 1)) (k : zWp sc q j (pc + 1) L (.inl (zshl x y) :: S) M P) : zWp sc q j pc L (.inl y :: .inl x :: S) M P := E_b32 hd rfl rfl rfl rfl rfl (fun h => by cases h) k
theorem E_ishr {x y : Int} (hd : decode (zcode j) pc = .ok (.ishr, 1)) (k : zWp sc q j (pc + 1) L (.inl (zshr x y) :: S) M P) : zWp sc q j pc L (.inl y :: .inl x :: S) M P := E_b32 hd rfl rfl rfl rfl rfl (fun h => by cases h) k
theorem E_iushr {x y : Int} (hd : decode (zcode j) pc = .ok (.iushr, 1)) (k : zWp sc q j (pc + 1) L (.inl (zushr x y) :: S) M P) : zWp sc q j pc L (.inl y :: .inl x :: S) M P := E_b32 hd rfl rfl rfl rfl rfl (fun h => by cases h) k
theorem E_idiv {x y : Int} (hd : decode (zcode j) pc = .ok (.idiv, 1)) (h : y ≠ 0) (k : zWp sc q j (pc + 1) L (.inl (zdiv x y) :: S) M P) : zWp sc q j pc L (.inl y :: .inl x :: S) M P := E_b32 hd rfl rfl rfl rfl rfl (fun _ => h) k
theorem E_irem {x y : Int} (hd : decode (zcode j) pc = .ok (.irem, 1)) (h : y ≠ 0) (k : zWp sc q j (pc + 1) L (.inl (zrem x y) :: S) M P) : zWp sc q j pc L (.inl y :: .inl x :: S) M P := E_b32 hd rfl rfl rfl rfl rfl (fun _ => h) k
theorem E_b64 {i : Instr} {nz : Bool} {f : Int64 → Int64 → Int64} {x y : Int} (hd : decode (zcode j) pc = .ok (i, 1)) (hr : zret j (.inr (.inl y) :: .inr (.inl x) :: S) i 1 = none) (hp : zpush i 1 (zcls j) = none) (hp2 : zload i 1 = none) (hp3 : zstor i 1 = none) (hp4 : zb32 i = none) (hf : zb64 i = some (nz, f)) (hn : nz = true → y ≠ 0) (k : zWp sc q j (pc + 1) L (.inr (.inl (zbl f x y)) :: S) M P) : zWp sc q j pc L (.inr (.inl y) :: .inr (.inl x) :: S) M P := by
  refine E_1 hd hr ?_ k
  unfold zs1
  simp only [hp, hp2, hp3, hp4, hf]
  rw [if_pos ⟨trivial, hn⟩]
theorem zbl_add {x y : Int} (h : in64 (x + y)) : zbl (fun x y => x + y) x y = x + y := by
  show (Int64.ofInt x + Int64.ofInt y).toInt = _
  rw [← Int64.ofInt_add]
  exact i64_of h
theorem zbl_mul {x y : Int} (h : in64 (x * y)) : zbl (fun x y => x * y) x y = x * y := by
  show (Int64.ofInt x * Int64.ofInt y).toInt = _
  rw [← Int64.ofInt_mul]
  exact i64_of h
theorem E_ladd {x y : Int} (hd : decode (zcode j) pc = .ok (.ladd, 1)) (h : in64 (x + y)) (k : zWp sc q j (pc + 1) L (.inr (.inl (x + y)) :: S) M P) : zWp sc q j pc L (.inr (.inl y) :: .inr (.inl x) :: S) M P := E_b64 hd rfl rfl rfl rfl rfl rfl (fun h => by cases h) (by rw [zbl_add h]; exact k)
theorem E_lmul {x y : Int} (hd : decode (zcode j) pc = .ok (.lmul, 1)) (h : in64 (x * y)) (k : zWp sc q j (pc + 1) L (.inr (.inl (x * y)) :: S) M P) : zWp sc q j pc L (.inr (.inl y) :: .inr (.inl x) :: S) M P := E_b64 hd rfl rfl rfl rfl rfl rfl (fun h => by cases h) (by rw [zbl_mul h]; exact k)
theorem E_land {x y : Int} (hd : decode (zcode j) pc = .ok (.land, 1)) (k : zWp sc q j (pc + 1) L (.inr (.inl (zandL x y)) :: S) M P) : zWp sc q j pc L (.inr (.inl y) :: .inr (.inl x) :: S) M P := E_b64 hd rfl rfl rfl rfl rfl rfl (fun h => by cases h) k
theorem E_lor {x y : Int} (hd : decode (zcode j) pc = .ok (.lor, 1)) (k : zWp sc q j (pc + 1) L (.inr (.inl (zorL x y)) :: S) M P) : zWp sc q j pc L (.inr (.inl y) :: .inr (.inl x) :: S) M P := E_b64 hd rfl rfl rfl rfl rfl rfl (fun h => by cases h) k
theorem E_ldiv {x y : Int} (hd : decode (zcode j) pc = .ok (.ldiv, 1)) (h : y ≠ 0) (k : zWp sc q j (pc + 1) L (.inr (.inl (zdivL x y)) :: S) M P) : zWp sc q j pc L (.inr (.inl y) :: .inr (.inl x) :: S) M P := E_b64 hd rfl rfl rfl rfl rfl rfl (fun _ => h) k
theorem E_lrem {x y : Int} (hd : decode (zcode j) pc = .ok (.lrem, 1)) (h : y ≠ 0) (k : zWp sc q j (pc + 1) L (.inr (.inl (zremL x y)) :: S) M P) : zWp sc q j pc L (.inr (.inl y) :: .inr (.inl x) :: S) M P := E_b64 hd rfl rfl rfl rfl rfl rfl (fun _ => h) k
theorem E_i2b {x : Int} (hd : decode (zcode j) pc = .ok (.i2b, 1)) (k : zWp sc q j (pc + 1) L (.inl (zi2b x) :: S) M P) : zWp sc q j pc L (.inl x :: S) M P := E_1 hd rfl rfl k
theorem E_i2s {x : Int} (hd : decode (zcode j) pc = .ok (.i2s, 1)) (k : zWp sc q j (pc + 1) L (.inl (zi2s x) :: S) M P) : zWp sc q j pc L (.inl x :: S) M P := E_1 hd rfl rfl k
theorem E_i2c {x : Int} (hd : decode (zcode j) pc = .ok (.i2c, 1)) (k : zWp sc q j (pc + 1) L (.inl (zi2c x) :: S) M P) : zWp sc q j pc L (.inl x :: S) M P := E_1 hd rfl rfl k
theorem E_lshl {x y : Int} (hd : decode (zcode j) pc = .ok (.lshl, 1)) (k : zWp sc q j (pc + 1) L (.inr (.inl (zshlL x y)) :: S) M P) : zWp sc q j pc L (.inl y :: .inr (.inl x) :: S) M P := E_1 hd rfl rfl k
theorem E_lshr {x y : Int} (hd : decode (zcode j) pc = .ok (.lshr, 1)) (k : zWp sc q j (pc + 1) L (.inr (.inl (zshrL x y)) :: S) M P) : zWp sc q j pc L (.inl y :: .inr (.inl x) :: S) M P := E_1 hd rfl rfl k
theorem E_i2l {x : Int} (hd : decode (zcode j) pc = .ok (.i2l, 1)) (k : zWp sc q j (pc + 1) L (.inr (.inl x) :: S) M P) : zWp sc q j pc L (.inl x :: S) M P := E_1 hd rfl rfl k
theorem E_l2i {x : Int} (hd : decode (zcode j) pc = .ok (.l2i, 1)) (k : zWp sc q j (pc + 1) L (.inl (w32 x) :: S) M P) : zWp sc q j pc L (.inr (.inl x) :: S) M P := E_1 hd rfl rfl k
theorem E_lcmp {x y : Int} (hd : decode (zcode j) pc = .ok (.lcmp, 1)) (k : zWp sc q j (pc + 1) L (.inl (if x < y then -1 else if x = y then 0 else 1) :: S) M P) : zWp sc q j pc L (.inr (.inl y) :: .inr (.inl x) :: S) M P := E_1 hd rfl rfl k
theorem E_dup {v : zV} (hd : decode (zcode j) pc = .ok (.dup, 1)) (hv : zcat v = 1) (k : zWp sc q j (pc + 1) L (v :: v :: S) M P) : zWp sc q j pc L (v :: S) M P := E_1 hd rfl (by show (if 1 = 1 ∧ zcat v = 1 then _ else none) = _; rw [if_pos ⟨rfl, hv⟩]) k
theorem E_pop {v : zV} (hd : decode (zcode j) pc = .ok (.pop, 1)) (hv : zcat v = 1) (k : zWp sc q j (pc + 1) L S M P) : zWp sc q j pc L (v :: S) M P := E_1 hd rfl (by show (if 1 = 1 ∧ zcat v = 1 then _ else none) = _; rw [if_pos ⟨rfl, hv⟩]) k
theorem E_dup2 {v w : zV} (hd : decode (zcode j) pc = .ok (.dup2, 1)) (hv : zcat v = 1) (hw : zcat w = 1) (k : zWp sc q j (pc + 1) L (v :: w :: v :: w :: S) M P) : zWp sc q j pc L (v :: w :: S) M P := E_1 hd rfl (by show (if 1 ≠ 1 then none else if zcat v = 2 then _ else if zcat w = 1 then _ else none) = _; rw [if_neg (by decide), if_neg (by omega), if_pos hw]) k
theorem E_iinc {n : Nat} {d x : Int} (hd : decode (zcode j) pc = .ok (.iinc n d, 3)) (hl : zlo L n = some (.inl x)) (hn : n < zml j) (h : in32 (x + d)) (hL : zs_1 L n (.inl (x + d)) = L') (k : zWp sc q j (pc + 3) L' S M P) : zWp sc q j pc L S M P := by
  refine E_1 hd rfl ?_ k
  show (match zlo L n with | some (.inl x) => (if 3 = 3 ∧ n < zml j then some (pc + 3, zs_1 L n (.inl (zbi (fun x y => x + y) x d)), S, zA M) else none) | _ => none) = _
  rw [hl]
  show (if 3 = 3 ∧ n < zml j then some (pc + 3, zs_1 L n (.inl (zbi (fun x y => x + y) x d)), S, zA M) else none) = _
  rw [if_pos ⟨rfl, hn⟩, zbi_add h, hL]
theorem E_goto {off : Int} {t : Nat} (hd : decode (zcode j) pc = .ok (.goto off, 3)) (ht : ztg pc off = some t) (k : zWp sc q j t L S M P) : zWp sc q j pc L S M P := by
  refine E_1 hd rfl ?_ k
  show (match ztg pc off with | some t => (if 3 = 3 then some (t, L, S, zA M) else none) | none => none) = _
  rw [ht]
  rfl
theorem E_if {c : Jvm.ClassFile.Cond} {off : Int} {t : Nat} {x : Int} (hd : decode (zcode j) pc = .ok (.ifCond c off, 3)) (ht : ztg pc off = some t) (k1 : zcd c x 0 = true → zWp sc q j t L S M P) (k2 : zcd c x 0 = false → zWp sc q j (pc + 3) L S M P) : zWp sc q j pc L (.inl x :: S) M P := by
  have key : ∀ t', (if zcd c x 0 = true then t else pc + 3) = t' → zWp sc q j t' L S M P → zWp sc q j pc L (.inl x :: S) M P := fun t' h k => by
    refine E_1 hd rfl ?_ k
    show (match ztg pc off with | some t => (if 3 = 3 then some (if zcd c x 0 = true then t else pc + 3, L, S, zA M) else none) | none => none) = _
    rw [ht]
    show some (if zcd c x 0 = true then t else pc + 3, L, S, zA M) = _
    rw [h]
  cases hz : zcd c x 0 with
  | true => exact key t (by rw [if_pos hz]) (k1 hz)
  | false => exact key (pc + 3) (by rw [hz]; rfl) (k2 hz)
theorem E_icmp {c : Jvm.ClassFile.Cond} {off : Int} {t : Nat} {x y : Int} (hd : decode (zcode j) pc = .ok (.if_icmp c off, 3)) (ht : ztg pc off = some t) (k1 : zcd c x y = true → zWp sc q j t L S M P) (k2 : zcd c x y = false → zWp sc q j (pc + 3) L S M P) : zWp sc q j pc L (.inl y :: .inl x :: S) M P := by
  have key : ∀ t', (if zcd c x y = true then t else pc + 3) = t' → zWp sc q j t' L S M P → zWp sc q j pc L (.inl y :: .inl x :: S) M P := fun t' h k => by
    refine E_1 hd rfl ?_ k
    show (match ztg pc off with | some t => (if 3 = 3 then some (if zcd c x y = true then t else pc + 3, L, S, zA M) else none) | none => none) = _
    rw [ht]
    show some (if zcd c x y = true then t else pc + 3, L, S, zA M) = _
    rw [h]
  cases hz : zcd c x y with
  | true => exact key t (by rw [if_pos hz]) (k1 hz)
  | false => exact key (pc + 3) (by rw [hz]; rfl) (k2 hz)
theorem T_eq {x y : Int} (h : zcd .eq x y = true) : x = y := of_decide_eq_true h
theorem F_eq {x y : Int} (h : zcd .eq x y = false) : x ≠ y := of_decide_eq_false h
theorem T_ne {x y : Int} (h : zcd .ne x y = true) : x ≠ y := of_decide_eq_true h
theorem F_ne {x y : Int} (h : zcd .ne x y = false) : x = y := Decidable.not_not.mp (of_decide_eq_false h)
theorem T_lt {x y : Int} (h : zcd .lt x y = true) : x < y := of_decide_eq_true h
theorem F_lt {x y : Int} (h : zcd .lt x y = false) : y ≤ x := Int.not_lt.mp (of_decide_eq_false h)
theorem T_ge {x y : Int} (h : zcd .ge x y = true) : y ≤ x := of_decide_eq_true h
theorem F_ge {x y : Int} (h : zcd .ge x y = false) : x < y := Int.not_le.mp (of_decide_eq_false h)
theorem T_gt {x y : Int} (h : zcd .gt x y = true) : y < x := of_decide_eq_true h
theorem F_gt {x y : Int} (h : zcd .gt x y = false) : x ≤ y := Int.not_lt.mp (of_decide_eq_false h)
theorem T_le {x y : Int} (h : zcd .le x y = true) : x ≤ y := of_decide_eq_true h
theorem F_le {x y : Int} (h : zcd .le x y = false) : y < x := Int.not_le.mp (of_decide_eq_false h)
end ZRU
