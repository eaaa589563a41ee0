/-! PURE: the reference's sets that are good, and what is safe. -/
def dn (m : Nat) : Int32 := nI m - 1
theorem dn_s (m : Nat) : dn (m + 1) = nI m := nI_pred m
theorem dn_m (m : Nat) : nI m + (-1 : Int32) = dn m := by
  unfold dn
  rw [Int32.sub_eq_add_neg]
theorem frI_ne {b : Option Nat} {p : Nat} (hb : ∀ q, b = some q → q < 2 ^ 31) (hp : p < 2 ^ 31) : (nI p = frI b) ↔ b = some p := by
  cases b with
  | none =>
    constructor
    · intro e
      have h1 : (nI p).toInt = (-9 : Int32).toInt := congrArg Int32.toInt e
      rw [nI_toInt hp] at h1
      have h2 : (-9 : Int32).toInt = -9 := by decide
      omega
    · intro e; cases e
  | some q =>
    have := hb q rfl
    show nI p = nI q ↔ _
    rw [nI_eq hp this]
    constructor
    · intro e; rw [e]
    · intro e; cases e; rfl
section MG
variable {r n : Nat} {H : Nat → Nat → Bool} {b : Option Nat}
end MG
