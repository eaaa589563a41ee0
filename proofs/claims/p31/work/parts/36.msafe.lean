/-! PURE: what is safe. -/
def fin (n : Nat) (H : Nat → Nat → Bool) (b : Option Nat) (s : Nat) : Bool := s.testBit (n - 1) || good n H b s
def safe (n : Nat) (H : Nat → Nat → Bool) (s : Nat) : Nat := msk (fun p => canV n H s p && fin n H none (s ||| 2 ^ p)) n
theorem bit_split {n s : Nat} (h2 : 2 ≤ n) (hs : s < 2 ^ n) (h : s.testBit (n - 1) = false) : s < 2 ^ (n - 1) := by
  apply Nat.lt_pow_two_of_testBit
  intro i hi
  by_cases e : i = n - 1
  · rw [e]; exact h
  · exact Nat.testBit_lt_two_pow (Nat.lt_of_lt_of_le hs (Nat.pow_le_pow_right (by decide) (by omega)))
section MF
variable {r n : Nat} {H : Nat → Nat → Bool} {b : Option Nat}
end MF
