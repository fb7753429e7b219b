/-! facts in an order -/
/-- how many bits of a set of answers -/
def zpc10 (s : Nat) : Nat := zsum (fun k => if s.testBit k = true then 1 else 0) 10
set_option maxRecDepth 100000 in
theorem zx_bits : ∀ s, s < 1024 → xX12_bits (nI s) = some (nI (zpc10 s)) := by decide +kernel
set_option maxRecDepth 100000 in
theorem zx_bitCount : ∀ s, s < 1024 → xJ6_bitCount_0f7a4 (nI s) = some (nI (zpc10 s)) := by decide +kernel
