/-! PURE: how all begins. -/
def hm0 (s : Nat) : Nat := if s % 2 = 1 then 3 else 1
theorem gHeld_hm : ∀ s, s < 512 → gHeld0 s = nI (hm0 s) := by decide +kernel
theorem hm0_0 : ∀ s, s < 512 → (hm0 s ||| 0).testBit 0 = true := by decide +kernel
theorem hm0_1 : ∀ s, s < 512 → (hm0 s ||| 0).testBit 1 = s.testBit 0 := by decide +kernel
theorem g00_0 {k : Nat} (h14 : k ≠ 14) (h15 : k ≠ 15) (i : Nat) : g00.1 k i = 0 := by
  show (if k = 14 then (fun j => if j = 1 then 2 else 0) else if k = 15 then gHeld0 else fun _ => 0) i = 0
  rw [if_neg h14, if_neg h15]
