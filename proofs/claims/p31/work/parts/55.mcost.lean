/-! PURE: the reference lays costs. -/
section MC
variable {r n : Nat} {hm : Nat → Nat} {S : aS}
def frO (n q : Nat) : Option Nat := if q < n - 1 then some q else none
def coR (n : Nat) (H : Nat → Nat → Bool) (S : aS) (g : gG) (s : Nat) : Prop := ∀ q, q ≤ 10 → g.1 192 (11 * s + q) = nI (FARv (qOf n H S s (frO n q)))
end MC
