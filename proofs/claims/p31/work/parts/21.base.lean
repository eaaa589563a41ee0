/-! PURE: small facts. -/
def b2 (b : Bool) : Int32 := if b then 1 else 0
theorem b2_t : b2 true = 1 := rfl
theorem b2_f : b2 false = 0 := rfl
theorem b2_eq0 {b : Bool} : (b2 b = 0) ↔ b = false := by cases b <;> decide
theorem b2_eq1 {b : Bool} : (b2 b = 1) ↔ b = true := by cases b <;> decide
theorem b2_gZb (b : Bool) : gZb (b2 b) = true := by cases b <;> rfl
theorem b2_if (b : Bool) : (if b = true then (1 : Int32) else 0) = b2 b := rfl
theorem nar_b2 (b : Bool) : vp_nar .boolean (b2 b) = b2 b := by cases b <;> decide
/-- the low bits, by a test -/
theorem bt_test (x : Int32) {i : Nat} (h : i < 32) : ((x >>> (nI i &&& 31)) &&& 1 = 1) ↔ bt x i = true := by
  constructor
  · intro e
    have h1 := b_and (x >>> (nI i &&& 31)) 1 0
    rw [e, b_sshr i h x (by decide)] at h1
    have h2 : bt (1 : Int32) 0 = true := by decide
    rw [h2] at h1
    simp at h1
    rw [if_pos (by omega)] at h1
    exact h1
  · intro e
    apply b_ext
    intro j hj
    rw [b_and]
    by_cases hz : j = 0
    · subst hz
      rw [b_sshr i h x hj, if_pos (by omega)]
      simp only [Nat.add_zero, e]
      decide
    · have h3 : bt (1 : Int32) j = false := by
        revert hz
        have : ∀ j, j < 32 → ¬ j = 0 → bt (1 : Int32) j = false := by decide
        exact this j hj
      rw [h3]; simp
theorem nI_lit (n : Nat) : (OfNat.ofNat n : Int32) = nI n := rfl
theorem nI_bt {n i : Nat} (h : i < 32) : bt (nI n) i = n.testBit i := by
  show (BitVec.ofNat 32 n).getLsbD i = _
  rw [BitVec.getLsbD_ofNat]
  simp [h]
theorem nI_shl1 {p : Nat} (h : p < 31) : (nI 1) <<< (nI p &&& nI 31) = nI (2 ^ p) := by
  have := pk_shlN (n := 1) (nI p &&& 31) p (s_l p (by omega)) (by rw [Nat.one_mul]; exact Nat.pow_lt_pow_right (by decide) (by omega))
  rw [Nat.one_mul] at this
  exact this
theorem nI_test {s p : Nat} (h : p < 32) : ((nI s >>> (nI p &&& nI 31)) &&& nI 1 = nI 1) ↔ s.testBit p = true := by
  have h1 := bt_test (nI s) h
  rw [nI_bt h] at h1
  exact h1
theorem nI_test0 {s p : Nat} (hs : s < 2 ^ 31) (h : p < 31) : ((nI s >>> (nI p &&& nI 31)) &&& nI 1 = nI 0) ↔ s.testBit p = false := by
  have e : nI s >>> (nI p &&& nI 31) = nI (s / 2 ^ p) := pk_shrN hs (nI p &&& 31) p (s_l p (by omega))
  rw [e, fa_and]
  have hlt : s / 2 ^ p &&& 1 < 2 := Nat.lt_of_le_of_lt Nat.and_le_right (by decide)
  rw [nI_eq (by omega) (by decide), Nat.and_one_is_mod, Nat.testBit_eq_decide_div_mod_eq]
  constructor
  · intro h9; simp; omega
  · intro h9; simp at h9; omega
theorem nI_shr {s p : Nat} (hs : s < 2 ^ 31) (h : p < 31) : nI s >>> (nI p &&& nI 31) = nI (s / 2 ^ p) := pk_shrN hs (nI p &&& 31) p (s_l p (by omega))
theorem nI_zero : (0 : Int32) = nI 0 := rfl
