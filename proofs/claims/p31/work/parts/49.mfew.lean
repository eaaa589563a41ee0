/-! PURE: the reference lays the fewest visits and the orders. -/
def FARv (o : Option Nat) : Nat := o.getD 99999999
def oLe (B : Nat) (o : Option Nat) : Prop := ∀ x, o = some x → x ≤ B
theorem oLe_omin {B : Nat} {a b : Option Nat} (ha : oLe B a) (hb : oLe B b) : oLe B (omin a b) := by
  intro x h
  cases a with
  | none => exact hb x h
  | some y =>
    cases b with
    | none => exact ha x h
    | some z =>
      have h : some (if z < y then z else y) = some x := h
      have h := Option.some.inj h
      have h1 := ha y rfl
      have h2 := hb z rfl
      split at h <;> omega
theorem oLe_min {B : Nat} {v : Nat → Option Nat} {k : Nat} (h : ∀ p, p < k → oLe B (v p)) : oLe B (minO v k) := by
  induction k with
  | zero => intro x hx; cases hx
  | succ k ih => exact oLe_omin (ih (fun p hp => h p (by omega))) (h k (by omega))
theorem FARv_lt {B : Nat} {o : Option Nat} (h : oLe B o) (hB : B < 99999999) : FARv o ≤ 99999999 := by
  cases o with
  | none => exact Nat.le_refl _
  | some x =>
    have := h x rfl
    show x ≤ _
    omega
theorem FARv_far {B : Nat} {o : Option Nat} (h : oLe B o) (hB : B < 99999999) : 99999999 ≤ FARv o ↔ o = none := by
  cases o with
  | none => exact ⟨fun _ => rfl, fun _ => Nat.le_refl _⟩
  | some x =>
    have h1 := h x rfl
    constructor
    · intro h2
      have h2 : 99999999 ≤ x := h2
      omega
    · intro h2; cases h2
theorem far_step {A : Option Nat} {y : Nat} (hy : y < 99999999) : (if FARv A ≤ y then FARv A else y) = FARv (omin A (some y)) := by
  cases A with
  | none =>
    show (if 99999999 ≤ y then 99999999 else y) = y
    rw [if_neg (by omega)]
  | some x =>
    show (if x ≤ y then x else y) = (if y < x then y else x)
    split <;> split <;> omega
section MFW
variable {r n : Nat} {H : Nat → Nat → Bool}
def fwI (n : Nat) (H : Nat → Nat → Bool) (s i : Nat) : Option Nat := omin (if H (n - 1) s = true then some 1 else none) (minO (fewC n H s) i)
def orI (n : Nat) (H : Nat → Nat → Bool) (s i : Nat) : Nat := (if H (n - 1) s = true then 1 else 0) + sumN (fun p => if canV n H s p = true then (wOf n H (s ||| 2 ^ p)).2.1 else 0) i
theorem fwI_le (h2 : 2 ≤ n) (hn : n ≤ 10) {s i : Nat} (hs : s < 2 ^ n) (hi : i ≤ n) : oLe 11 (fwI n H s i) := by
  refine oLe_omin ?_ (oLe_min (fun p hp x hx => fewC_le h2 hn hs (by omega) hx))
  intro x hx
  split at hx
  · cases hx; omega
  · cases hx
theorem fwI_end (h2 : 2 ≤ n) {s : Nat} (hs : s < 2 ^ n) (hc : s.testBit (n - 1) = false) : fwI n H s (n - 1) = fewO n H s := by
  have e : fewO n H s = omin (minO (fewC n H s) (n - 1)) (fewC n H s (n - 1)) := by
    unfold fewO
    obtain ⟨m, rfl⟩ : ∃ m, n = m + 1 := ⟨n - 1, by omega⟩
    rfl
  rw [e, omin_comm, fewC_chest h2 hs hc]
  rfl
theorem orI_end (h2 : 2 ≤ n) (hn : n ≤ 10) {s : Nat} (hs : s < 2 ^ n) (hc : s.testBit (n - 1) = false) : orI n H s (n - 1) = (wOf n H s).2.1 := by
  rw [wOf_ord hn hs hc]
  obtain ⟨m, rfl⟩ : ∃ m, n = m + 1 := ⟨n - 1, by omega⟩
  show orI (m + 1) H s m = sumN _ m + _
  have e1 := canV_chest (n := m + 1) (H := H) hc
  have e2 := chest_end (n := m + 1) (H := H) hs h2
  rw [show m + 1 - 1 = m from rfl] at e1 e2
  unfold orI
  dsimp only
  rw [e1, e2]
  show (if H m s = true then 1 else 0) + _ = _
  exact Nat.add_comm _ _
theorem orI_lt (h2 : 2 ≤ n) (hn : n ≤ 10) {s i : Nat} (hs : s < 2 ^ n) (hc : s.testBit (n - 1) = false) (hi : i ≤ n - 1) : orI n H s i < 2 ^ 30 := by
  have h := orI_end (H := H) h2 hn hs hc
  have h3 := (wOf_small H h2 hn hs).2.1
  have h4 := sumN_mono (v := fun p => if canV n H s p = true then (wOf n H (s ||| 2 ^ p)).2.1 else 0) hi
  unfold orI at h ⊢
  omega
theorem chest_of {n s : Nat} (hs : s < 2 ^ (n - 1)) : s.testBit (n - 1) = false := Nat.testBit_lt_two_pow hs
theorem two_n {n : Nat} (h2 : 2 ≤ n) : 2 ^ n = 2 * 2 ^ (n - 1) := by
  obtain ⟨m, rfl⟩ : ∃ m, n = m + 1 := ⟨n - 1, by omega⟩
  rw [Nat.pow_succ, Nat.add_sub_cancel, Nat.mul_comm]
/-- what the rows hold of a set -/
def fwR (n : Nat) (H : Nat → Nat → Bool) (g : gG) (s : Nat) : Prop := g.1 190 s = nI (FARv (fewO n H s)) ∧ g.1 191 s = nI (wOf n H s).2.1
end MFW
