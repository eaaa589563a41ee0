/-! PURE: the reference's checks of places and teams. -/
theorem z64 : (0 : Int64).toInt = 0 := by decide
theorem nIm1 {n : Nat} (h : n < 2 ^ 30) : (nI n - (1 : Int32)).toInt = (n : Int) - 1 := by
  cases n with
  | zero => decide
  | succ n => rw [nI_pred, nI_toInt (by omega)]; omega
