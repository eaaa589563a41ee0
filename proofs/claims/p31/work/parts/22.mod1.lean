/-! PURE: the reference's row of numbers. n places, H p s: whether place p's condition holds for the set s. -/
def mH (f : Nat → Int32) (n : Nat) (H : Nat → Nat → Bool) : Prop := f 0 = nI n ∧ ∀ p s, p < n → s < 1024 → bt (f (22 + 32 * p + s / 32)) (s % 32) = H p s
def canV (n : Nat) (H : Nat → Nat → Bool) (s p : Nat) : Bool := !s.testBit p && (!s.testBit (n - 1) && H p s)
def msk (P : Nat → Bool) : Nat → Nat
  | 0 => 0
  | k + 1 => msk P k ||| (if P k = true then 2 ^ k else 0)
theorem msk_bit (P : Nat → Bool) : ∀ k i, (msk P k).testBit i = (decide (i < k) && P i)
  | 0, i => by simp [msk]
  | k + 1, i => by
    rw [msk, Nat.testBit_or, msk_bit P k i]
    by_cases e : i = k
    · subst e
      by_cases hp : P i = true <;> simp [hp]
    · have h2 : (if P k = true then 2 ^ k else 0).testBit i = false := by
        by_cases hp : P k = true
        · rw [if_pos hp, Nat.testBit_two_pow]; simp; omega
        · rw [if_neg hp]; simp
      rw [h2]
      have : (decide (i < k) : Bool) = decide (i < k + 1) := by
        by_cases h3 : i < k
        · simp [h3]; omega
        · simp [h3]; omega
      rw [this]; simp
theorem msk_lt (P : Nat → Bool) (k : Nat) : msk P k < 2 ^ k := by
  apply Nat.lt_pow_two_of_testBit
  intro i hi
  rw [msk_bit]
  simp; omega
theorem msk_cong {P Q : Nat → Bool} {k : Nat} (h : ∀ i, i < k → P i = Q i) : msk P k = msk Q k := by
  apply Nat.eq_of_testBit_eq
  intro i
  rw [msk_bit, msk_bit]
  by_cases hi : i < k
  · rw [h i hi]
  · simp [hi]
def opn (n : Nat) (H : Nat → Nat → Bool) (s : Nat) : Nat := msk (canV n H s) n
theorem inb0 {n : Nat} (h : 0 < n) (hn : n < 2 ^ 31) : inb 0 n = true := inb_nI h hn
theorem clamp0 : (0 : Int32).toNatClampNeg = 0 := rfl
