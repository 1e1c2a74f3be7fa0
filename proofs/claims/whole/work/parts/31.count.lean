/-! How many are in a set. -/
def zpc (k n : Nat) : Int := zsum k (fun i => if n.testBit i then 1 else 0)
set_option maxRecDepth 1000000 in
theorem lJ_bitCount_all : (List.range 4096).all (fun n => decide (lJ_bitCount (n : Int) (fun _ _ => 0) = some (zpc 12 n))) = true := by decide +kernel
theorem lJ_bitCount_eq {n : Nat} {M : Nat → Nat → Int} (h : n < 4096) : lJ_bitCount (n : Int) M = some (zpc 12 n) := of_decide_eq_true (List.all_eq_true.mp lJ_bitCount_all n (List.mem_range.mpr h))
