/-! More fuel; calls; switches. -/
theorem zex_up {sc : zSc} : ∀ (n m q j pc : Nat) (L : zL) (S : List zV) (A : zM) (x : Option zV × zM), zex sc n q j pc L S A = some x → n ≤ m → zex sc m q j pc L S A = some x
  | 0, _, _, _, _, _, _, _, _, h, _ => by cases h
  | n + 1, 0, _, _, _, _, _, _, _, _, hm => by omega
  | n + 1, m + 1, q, j, pc, L, S, A, x, h, hm => by
    have hm : n ≤ m := by omega
    unfold zex at h ⊢
    split at h
    · cases h
    · rename_i i len hd
      split at h
      · rename_i hr
        exact h
      · rename_i hr
        split at h
        · rename_i pc' L' S' A1 hs
          exact zex_up n m q j pc' L' S' A1 x h hm
        · rename_i hs
          split at h
          · rename_i c as rest hc
            split at h
            · rename_i hk
              split at h
              · rename_i r A1 hr
                have h1 := zex_up n m _ c 0 _ [] A (r, A1) hr hm
                have h2 := zex_up n m q j (pc + 3) L _ A1 x h hm
                simp only [hs, hc, if_pos hk, h1]
                exact h2
              · cases h
            · cases h
          · cases h
def zlx (C idx : Nat) : Option Nat := ((zLK C).find? (fun e => e.1 == idx)).map (fun e => e.2.1)
theorem zald_n2 {sc : zSc} {A : zM} {i : Instr} {c : Nat} {x : Int} (h : (match i with | .iaload => false | .baload => false | .laload => false | .aaload => false | _ => true) = true) : zald sc A i c x = none := by
  unfold zald
  split
  · split
    · cases i <;> first | rfl | cases h
    · rfl
  · cases i <;> first | rfl | cases h
theorem zast_n2 {A : zM} {i : Instr} {c : Nat} {x : Int} {v : zV} (h : (match i with | .iastore => false | .bastore => false | .lastore => false | .aastore => false | _ => true) = true) : zast A i c x v = none := by
  unfold zast
  split
  · split
    · cases i <;> first | rfl | cases h
    · rfl
  · rfl
theorem zs2_n2 {sc : zSc} {pc : Nat} {L : zL} {S : List zV} {A : zM} {i : Instr} {len : Nat} (h : (match i with | .iaload => false | .baload => false | .laload => false | .aaload => false | _ => true) = true) : zs2 sc pc L S A i len = none := by
  unfold zs2
  split
  · rw [zald_n2 h]
  · rfl
theorem zs3_n2 {pc : Nat} {L : zL} {S : List zV} {A : zM} {i : Instr} {len : Nat} (h : (match i with | .iastore => false | .bastore => false | .lastore => false | .aastore => false | _ => true) = true) : zs3 pc L S A i len = none := by
  unfold zs3
  split
  · rw [zast_n2 h]
  · rfl
section ZRW
variable {sc : zSc} {q j pc pc' : Nat} {L L' : zL} {S S' : List zV} {M M' : Nat → Nat → Int} {P : Option zV → (Nat → Nat → Int) → Prop}
theorem zstep_vir {idx : Nat} {A : zM} : zstep sc q j pc L S A (.invokevirtual idx) 3 = none := by
  unfold zstep
  have h1 : zs1 sc q j pc L S A (.invokevirtual idx) 3 = none := by
    unfold zs1
    show zs0 sc q j pc L S A (.invokevirtual idx) 3 = none
    unfold zs0
    rfl
  rw [h1, zs2_n2 rfl, zs3_n2 rfl]
theorem zstep_sta {idx : Nat} {A : zM} (h : zpx (zcls j) idx = none) : zstep sc q j pc L S A (.invokestatic idx) 3 = none := by
  unfold zstep
  have h1 : zs1 sc q j pc L S A (.invokestatic idx) 3 = none := by
    unfold zs1
    show zs0 sc q j pc L S A (.invokestatic idx) 3 = none
    unfold zs0
    unfold zpx at h
    cases hz : (zPK (zcls j)).find? (fun e => e.1 == idx) with
    | none => simp only [hz]
    | some e => rw [hz] at h; cases h
  rw [h1, zs2_n2 rfl, zs3_n2 rfl]
theorem E_call {i : Instr} {c : Nat} {as rest : List zV} (hd : decode (zcode j) pc = .ok (i, 3)) (hr : zret j S i 3 = none) (hs : zstep sc q j pc L S (zA M) i 3 = none) (hc : zcall j S i 3 = some (c, as, rest)) (hq : zrk c as < q) (hm : (zarg0 as).length ≤ zml c) (hv : zrv (zA M) c as = true) (k : zCw sc c as M (fun r M' => zWp sc q j (pc + 3) L (r.toList ++ rest) M' P)) : zWp sc q j pc L S M P := by
  obtain ⟨n1, r, M1, h1, n2, r2, M2, h2, hp⟩ := k
  refine ⟨n1 + n2 + 1, r2, M2, ?_, hp⟩
  have g1 := zex_up n1 (n1 + n2) _ _ _ _ _ _ _ h1 (by omega)
  have g2 := zex_up n2 (n1 + n2) _ _ _ _ _ _ _ h2 (by omega)
  unfold zex
  simp only [hd, hr, hs, hc]
  rw [if_pos ⟨hq, hm, hv⟩]
  simp only [g1]
  exact g2
theorem zlx_of {C idx c : Nat} (h : zlx C idx = some c) : ∃ e, (zLK C).find? (fun e => e.1 == idx) = some e ∧ e.2.1 = c := by
  unfold zlx at h
  cases hz : (zLK C).find? (fun e => e.1 == idx) with
  | none => rw [hz] at h; cases h
  | some e => rw [hz] at h; cases h; exact ⟨e, rfl, rfl⟩
theorem zcall_v {idx C c m : Nat} {as rest : List zV} (hc : zcls j = C) (hl : zlx C idx = some c) (hk : zkd c = 1 ∧ znp c + 1 = m) (hS : m ≤ S.length ∧ (S.take m).reverse = as ∧ S.drop m = rest) (hcat : (rest.map zcat).sum ≤ 8) : zcall j S (.invokevirtual idx) 3 = some (c, as, rest) := by
  obtain ⟨e, h1, h2⟩ := zlx_of hl
  unfold zcall
  show (match (zLK (zcls j)).find? (fun e => e.1 == idx) with
      | some e => _
      | none => none) = _
  rw [hc]
  simp only [h1, h2]
  have e1 : znp c + (if 1 = 0 then 0 else 1) = m := hk.2
  rw [e1, hS.2.1, hS.2.2, if_pos ⟨hk.1, hS.1, hcat⟩]
theorem zcall_s {idx C c m : Nat} {as rest : List zV} (hc : zcls j = C) (hl : zlx C idx = some c) (hk : zkd c = 0 ∧ znp c = m) (hS : m ≤ S.length ∧ (S.take m).reverse = as ∧ S.drop m = rest) (hcat : (rest.map zcat).sum ≤ 8) : zcall j S (.invokestatic idx) 3 = some (c, as, rest) := by
  obtain ⟨e, h1, h2⟩ := zlx_of hl
  unfold zcall
  show (match (zLK (zcls j)).find? (fun e => e.1 == idx) with
      | some e => _
      | none => none) = _
  rw [hc]
  simp only [h1, h2]
  have e1 : znp c + (if True then 0 else 1) = m := hk.2
  rw [e1, hS.2.1, hS.2.2, if_pos ⟨hk.1, hS.1, hcat⟩]
theorem zrv_s {c : Nat} {as : List zV} {A : zM} (hk : zkd c = 0) : zrv A c as = true := by
  unfold zrv
  rw [hk]
  cases as <;> rfl
theorem zrv_v {c ci r : Nat} {as : List zV} (hk : zkd c = 1) (hc : zcls c = ci) (hci : ci < 9) (hz : zis ci r = true) : zrv (zA M) c (.inr (.inr r) :: as) = true := by
  have hz : (zA M).1[r]? = some (10 + ci, zNF ci) := of_decide_eq_true hz
  unfold zrv
  rw [hk, hc]
  show (decide _ || _) = true
  rw [decide_eq_true ⟨hz, hci⟩]
  rfl
theorem zrv_S {c r : Nat} {as : List zV} {A : zM} (hk : zkd c = 1) (hc : zcls c = 11) (hz : 5003 ≤ r ∧ r < 5033) : zrv A c (.inr (.inr r) :: as) = true := by
  unfold zrv
  rw [hk, hc]
  show (_ || decide (11 = 11 ∧ 5003 ≤ r ∧ r < 5033)) = true
  have hh : decide (11 = 11 ∧ 5003 ≤ r ∧ r < 5033) = true := decide_eq_true ⟨rfl, hz⟩
  rw [hh, Bool.or_true]
/-- with the answer's kind -/
theorem K_I {c : Nat} {as rest : List zV} (k : zCi sc c as M (fun x M' => zWp sc q j (pc + 3) L (.inl x :: rest) M' P)) : zCw sc c as M (fun r M' => zWp sc q j (pc + 3) L (r.toList ++ rest) M' P) := zWp_mono k (fun r M' ⟨x, e, hx⟩ => by rw [e]; exact hx)
theorem K_L {c : Nat} {as rest : List zV} (k : zCl sc c as M (fun x M' => zWp sc q j (pc + 3) L (.inr (.inl x) :: rest) M' P)) : zCw sc c as M (fun r M' => zWp sc q j (pc + 3) L (r.toList ++ rest) M' P) := zWp_mono k (fun r M' ⟨x, e, hx⟩ => by rw [e]; exact hx)
theorem K_V {c : Nat} {as rest : List zV} (k : zCv sc c as M (fun M' => zWp sc q j (pc + 3) L rest M' P)) : zCw sc c as M (fun r M' => zWp sc q j (pc + 3) L (r.toList ++ rest) M' P) := zWp_mono k (fun r M' ⟨e, hx⟩ => by rw [e]; exact hx)
theorem E_virI {idx C c m ci r k0 : Nat} {as rest : List zV} (hd : decode (zcode j) pc = .ok (.invokevirtual idx, 3)) (hc : zcls j = C) (hl : zlx C idx = some c) (hk : zkd c = 1 ∧ znp c + 1 = m) (hS : m ≤ S.length ∧ (S.take m).reverse = .inr (.inr r) :: as ∧ S.drop m = rest) (hcat : (rest.map zcat).sum ≤ 8) (hR : zrk c (.inr (.inr r) :: as) = k0) (hq : k0 < q) (hm : (zarg0 (.inr (.inr r) :: as)).length ≤ zml c) (hci : zcls c = ci ∧ ci < 9) (hz : zis ci r = true) (k : zCi sc c (.inr (.inr r) :: as) M (fun x M' => zWp sc q j (pc + 3) L (.inl x :: rest) M' P)) : zWp sc q j pc L S M P :=
  E_call hd (by cases S <;> rfl) zstep_vir (zcall_v hc hl hk hS hcat) (by rw [hR]; exact hq) hm (zrv_v hk.1 hci.1 hci.2 hz) (K_I k)
theorem E_virL {idx C c m ci r k0 : Nat} {as rest : List zV} (hd : decode (zcode j) pc = .ok (.invokevirtual idx, 3)) (hc : zcls j = C) (hl : zlx C idx = some c) (hk : zkd c = 1 ∧ znp c + 1 = m) (hS : m ≤ S.length ∧ (S.take m).reverse = .inr (.inr r) :: as ∧ S.drop m = rest) (hcat : (rest.map zcat).sum ≤ 8) (hR : zrk c (.inr (.inr r) :: as) = k0) (hq : k0 < q) (hm : (zarg0 (.inr (.inr r) :: as)).length ≤ zml c) (hci : zcls c = ci ∧ ci < 9) (hz : zis ci r = true) (k : zCl sc c (.inr (.inr r) :: as) M (fun x M' => zWp sc q j (pc + 3) L (.inr (.inl x) :: rest) M' P)) : zWp sc q j pc L S M P :=
  E_call hd (by cases S <;> rfl) zstep_vir (zcall_v hc hl hk hS hcat) (by rw [hR]; exact hq) hm (zrv_v hk.1 hci.1 hci.2 hz) (K_L k)
theorem E_virV {idx C c m ci r k0 : Nat} {as rest : List zV} (hd : decode (zcode j) pc = .ok (.invokevirtual idx, 3)) (hc : zcls j = C) (hl : zlx C idx = some c) (hk : zkd c = 1 ∧ znp c + 1 = m) (hS : m ≤ S.length ∧ (S.take m).reverse = .inr (.inr r) :: as ∧ S.drop m = rest) (hcat : (rest.map zcat).sum ≤ 8) (hR : zrk c (.inr (.inr r) :: as) = k0) (hq : k0 < q) (hm : (zarg0 (.inr (.inr r) :: as)).length ≤ zml c) (hci : zcls c = ci ∧ ci < 9) (hz : zis ci r = true) (k : zCv sc c (.inr (.inr r) :: as) M (fun M' => zWp sc q j (pc + 3) L rest M' P)) : zWp sc q j pc L S M P :=
  E_call hd (by cases S <;> rfl) zstep_vir (zcall_v hc hl hk hS hcat) (by rw [hR]; exact hq) hm (zrv_v hk.1 hci.1 hci.2 hz) (K_V k)
theorem E_strI {idx C c m r k0 : Nat} {as rest : List zV} (hd : decode (zcode j) pc = .ok (.invokevirtual idx, 3)) (hc : zcls j = C) (hl : zlx C idx = some c) (hk : zkd c = 1 ∧ znp c + 1 = m) (hS : m ≤ S.length ∧ (S.take m).reverse = .inr (.inr r) :: as ∧ S.drop m = rest) (hcat : (rest.map zcat).sum ≤ 8) (hR : zrk c (.inr (.inr r) :: as) = k0) (hq : k0 < q) (hm : (zarg0 (.inr (.inr r) :: as)).length ≤ zml c) (hci : zcls c = 11) (hz : 5003 ≤ r ∧ r < 5033) (k : zCi sc c (.inr (.inr r) :: as) M (fun x M' => zWp sc q j (pc + 3) L (.inl x :: rest) M' P)) : zWp sc q j pc L S M P :=
  E_call hd (by cases S <;> rfl) zstep_vir (zcall_v hc hl hk hS hcat) (by rw [hR]; exact hq) hm (zrv_S hk.1 hci hz) (K_I k)
theorem E_staI {idx C c m k0 : Nat} {as rest : List zV} (hd : decode (zcode j) pc = .ok (.invokestatic idx, 3)) (hc : zcls j = C) (hl : zlx C idx = some c) (hp : zpx C idx = none) (hk : zkd c = 0 ∧ znp c = m) (hS : m ≤ S.length ∧ (S.take m).reverse = as ∧ S.drop m = rest) (hcat : (rest.map zcat).sum ≤ 8) (hR : zrk c as = k0) (hq : k0 < q) (hm : (zarg0 as).length ≤ zml c) (k : zCi sc c as M (fun x M' => zWp sc q j (pc + 3) L (.inl x :: rest) M' P)) : zWp sc q j pc L S M P :=
  E_call hd (by cases S <;> rfl) (zstep_sta (by rw [hc]; exact hp)) (zcall_s hc hl hk hS hcat) (by rw [hR]; exact hq) hm (zrv_s hk.1) (K_I k)
theorem E_staL {idx C c m k0 : Nat} {as rest : List zV} (hd : decode (zcode j) pc = .ok (.invokestatic idx, 3)) (hc : zcls j = C) (hl : zlx C idx = some c) (hp : zpx C idx = none) (hk : zkd c = 0 ∧ znp c = m) (hS : m ≤ S.length ∧ (S.take m).reverse = as ∧ S.drop m = rest) (hcat : (rest.map zcat).sum ≤ 8) (hR : zrk c as = k0) (hq : k0 < q) (hm : (zarg0 as).length ≤ zml c) (k : zCl sc c as M (fun x M' => zWp sc q j (pc + 3) L (.inr (.inl x) :: rest) M' P)) : zWp sc q j pc L S M P :=
  E_call hd (by cases S <;> rfl) (zstep_sta (by rw [hc]; exact hp)) (zcall_s hc hl hk hS hcat) (by rw [hR]; exact hq) hm (zrv_s hk.1) (K_L k)
theorem E_staV {idx C c m k0 : Nat} {as rest : List zV} (hd : decode (zcode j) pc = .ok (.invokestatic idx, 3)) (hc : zcls j = C) (hl : zlx C idx = some c) (hp : zpx C idx = none) (hk : zkd c = 0 ∧ znp c = m) (hS : m ≤ S.length ∧ (S.take m).reverse = as ∧ S.drop m = rest) (hcat : (rest.map zcat).sum ≤ 8) (hR : zrk c as = k0) (hq : k0 < q) (hm : (zarg0 as).length ≤ zml c) (k : zCv sc c as M (fun M' => zWp sc q j (pc + 3) L rest M' P)) : zWp sc q j pc L S M P :=
  E_call hd (by cases S <;> rfl) (zstep_sta (by rw [hc]; exact hp)) (zcall_s hc hl hk hS hcat) (by rw [hR]; exact hq) hm (zrv_s hk.1) (K_V k)
/-- a switch -/
theorem E_tsw {d lo hi : Int} {offs : Array Int} {len t : Nat} {x : Int} (hd : decode (zcode j) pc = .ok (.tableswitch d lo hi offs, len)) {o : Int} (ho : (if x < lo ∨ hi < x then d else offs.getD (x - lo).toNat 0) = o) (ht : ztg pc o = some t) (hs : (x < lo ∨ hi < x) ∨ (x - lo).toNat < offs.size) (k : zWp sc q j t L S M P) : zWp sc q j pc L (.inl x :: S) M P := by
  refine E_1 hd rfl ?_ k
  show (match ztg pc (if x < lo ∨ hi < x then d else offs.getD (x - lo).toNat 0) with
    | some t => if (x < lo ∨ hi < x) ∨ (x - lo).toNat < offs.size then some (t, L, S, zA M) else none
    | none => none) = _
  rw [ho, ht]
  show (if (x < lo ∨ hi < x) ∨ (x - lo).toNat < offs.size then some (t, L, S, zA M) else none) = _
  rw [if_pos hs]
end ZRW
def zlc (x y : Int) : Int := if x < y then -1 else if x = y then 0 else 1
theorem zlc_eq {x y : Int} (h : zlc x y = 0) : x = y := by unfold zlc at h; split at h; · omega
                                                           · split at h <;> omega
theorem zlc_ne {x y : Int} (h : zlc x y ≠ 0) : x ≠ y := by unfold zlc at h; split at h; · omega
                                                           · split at h <;> omega
theorem zlc_lt {x y : Int} (h : zlc x y < 0) : x < y := by unfold zlc at h; split at h; · omega
                                                           · split at h <;> omega
theorem zlc_ge {x y : Int} (h : 0 ≤ zlc x y) : y ≤ x := by unfold zlc at h; split at h; · omega
                                                           · split at h <;> omega
theorem zlc_gt {x y : Int} (h : 0 < zlc x y) : y < x := by unfold zlc at h; split at h; · omega
                                                           · split at h <;> omega
theorem zlc_le {x y : Int} (h : zlc x y ≤ 0) : x ≤ y := by unfold zlc at h; split at h; · omega
                                                           · split at h <;> omega
