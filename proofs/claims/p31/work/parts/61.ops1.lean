/-! PURE: calls that only read, of a team. -/
section RO
variable {tx : List Nat} {n : Nat} {hm : Nat → Nat} {S : aS} {L : List aS} {K : Nat → Option aS}
theorem c_neg (a : Int32) : (0 : Int32) ≤ a ↔ ¬ a < 0 := by
  rw [Int32.le_iff_toInt_le, Int32.lt_iff_toInt_lt]
  omega

end RO
