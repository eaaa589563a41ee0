/-! PURE: the reference's teams. -/
section MT
variable {g : gG} {r n : Nat} {S : aS} {hm : Nat → Nat} {t : Nat} {tm : aT}
/-- minutes of one visit, from a place or the camp -/
def adf (a b : Nat) : Nat := if a < b then b - a else a - b
def mns (S : aS) (from_ : Option Nat) (p : Nat) : Nat := match from_ with
  | some q => 1 + adf (S.1 q) (S.1 p) + adf (S.2.1 q) (S.2.1 p)
  | none => 1 + S.1 p + S.2.1 p
def frI (f : Option Nat) : Int32 := match f with
  | some q => nI q
  | none => -9
theorem nI_ne9 {q : Nat} (h : q < 2 ^ 31) : ¬ (nI q = (-9 : Int32)) := by
  intro e
  have h1 := congrArg Int32.toInt e
  rw [nI_toInt h] at h1
  have : (-9 : Int32).toInt = -9 := by decide
  omega
theorem lastP_fr (l : List Nat) : lastP l = frI l.getLast? := rfl
end MT
