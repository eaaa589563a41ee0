/-! PURE: scripts. -/
theorem pow_small {m : Nat} (h : m ≤ 4) : 0 < 10000 ^ m ∧ 10000 ^ m ≤ 10000000000000000 := by
  have : m = 0 ∨ m = 1 ∨ m = 2 ∨ m = 3 ∨ m = 4 := by omega
  rcases this with rfl | rfl | rfl | rfl | rfl <;> decide
theorem pow_ten (m : Nat) : 10 ^ (4 * m) = 10000 ^ m := by rw [Nat.pow_mul]
theorem c_past_l {m : Nat} (h4 : m ≤ 4) (g : gG) (d : Nat) : ∀ i fu, i + d = m → d < fu → fb_X3_pastEnd_4 fu (nI m) (lN (10000 ^ i)) (nI i) g = some (lN (10000 ^ m), g) := by
  induction d with
  | zero =>
    intro i fu hi hf
    obtain ⟨fu, rfl⟩ : ∃ f', fu = f' + 1 := ⟨fu - 1, by omega⟩
    have e : i = m := by omega
    subst e
    unfold fb_X3_pastEnd_4 fs_X3_pastEnd_4
    rw [if_pos (nI_le (Nat.le_refl _) (by omega))]
  | succ d ih =>
    intro i fu hi hf
    obtain ⟨fu, rfl⟩ : ∃ f', fu = f' + 1 := ⟨fu - 1, by omega⟩
    unfold fb_X3_pastEnd_4 fs_X3_pastEnd_4
    rw [if_neg (nI_ge (by omega) (by omega)), if_neg (show ¬ ((4 : Int32) ≤ nI i) from nI_ge (b := 4) (by omega) (by decide))]
    simp only [gl_eq, nI_1]
    rw [show lN (10000 ^ i) * (10000 : Int64) = lN (10000 ^ (i + 1)) by rw [Nat.pow_succ]; exact lN_mul _ _]
    exact ih (i + 1) fu (by omega) (by omega)
theorem c_past {m : Nat} (h4 : m ≤ 4) (g : gG) : f_X3_pastEnd (nI m) g = some (lN (10000 ^ m), g) := by
  unfold f_X3_pastEnd
  exact c_past_l h4 g m 0 gFuel (by omega) (by unfold gFuel; omega)
theorem c_group_l {i : Nat} (hi : i < 4) (g : gG) (d : Nat) : ∀ r fu, d < 4 → r < 2 ^ 62 → d < fu → fb_X3_groupAt_8 fu (nI i) (lN r) (nI (i + d)) g = some (nI (r / 10000 ^ d % 10000), g) := by
  induction d with
  | zero =>
    intro r fu hd hr hf
    obtain ⟨fu, rfl⟩ : ∃ f', fu = f' + 1 := ⟨fu - 1, by omega⟩
    unfold fb_X3_groupAt_8 fs_X3_groupAt_8
    rw [if_pos (nI_le (by omega) (by omega)), show lN r - lN r / (10000 : Int64) * (10000 : Int64) = lN (r % 10000) from pk_lRem (b := 10000) (by omega) (by decide) (by decide), lN_i, Nat.pow_zero, Nat.div_one]
  | succ d ih =>
    intro r fu hd hr hf
    obtain ⟨fu, rfl⟩ : ∃ f', fu = f' + 1 := ⟨fu - 1, by omega⟩
    have hdiv : r / 10000 ≤ r := Nat.div_le_self _ _
    unfold fb_X3_groupAt_8 fs_X3_groupAt_8
    rw [if_neg (nI_ge (by omega) (by omega)), show lN r / (10000 : Int64) = lN (r / 10000) from pk_lDiv (b := 10000) (by omega) (by decide) (by decide)]
    simp only [gl_eq]
    rw [show nI (i + (d + 1)) + (-1 : Int32) = nI (i + d) from pk_m1 (i + d), ih (r / 10000) fu (by omega) (by omega) (by omega), Nat.div_div_eq_div_mul, Nat.pow_succ, Nat.mul_comm 10000]
theorem c_group {i m v : Nat} (hi : i < m) (h4 : m ≤ 4) (hv : v < 2 ^ 62) (g : gG) : f_X3_groupAt (nI i) (nI m) (lN v) g = some (nI (v / 10000 ^ (m - 1 - i) % 10000), g) := by
  unfold f_X3_groupAt
  simp only [gl_eq]
  have h := c_group_l (i := i) (by omega) g (m - 1 - i) v gFuel (by omega) hv (by unfold gFuel; omega)
  rw [show i + (m - 1 - i) = m - 1 by omega] at h
  rw [show nI m - (1 : Int32) = nI (m - 1) from pk_sub (a := m) (b := 1) (by omega)]
  exact h
theorem lN_ne0 {a : Nat} (h0 : 0 < a) (h : a < 2 ^ 62) : ¬ lN a = 0 := by
  intro e
  have h1 := congrArg Int64.toInt e
  rw [pf_lI (by omega)] at h1
  have : (0 : Int64).toInt = 0 := by decide
  omega
section SCR
variable {n : Nat} {hm : Nat → Nat}
end SCR
section OS
variable {tx : List Nat} {n : Nat} {hm : Nat → Nat} {S : aS} {L : List aS} {K : Nat → Option aS}
theorem range14 {a : Int32} {k : Nat} (hk : k < 2 ^ 31) (h : decide ((1 : Int64).toInt ≤ a.toInt64.toInt ∧ a.toInt64.toInt ≤ (lN k).toInt) = true) : ∃ m, 1 ≤ m ∧ m ≤ k ∧ a = nI m := by
  have h1 := of_decide_eq_true h
  rw [Int32.toInt_toInt64, lN_toInt hk, show (1 : Int64).toInt = 1 by decide] at h1
  refine ⟨a.toInt.toNat, by omega, by omega, ?_⟩
  apply Int32.toInt_inj.mp
  rw [nI_toInt (by omega)]
  omega
theorem range14_no {a : Int32} {k : Nat} (hk : k < 2 ^ 31) (h : decide ((1 : Int64).toInt ≤ a.toInt64.toInt ∧ a.toInt64.toInt ≤ (lN k).toInt) = false) : a < 1 ∨ (¬ a < 1 ∧ ¬ a ≤ nI k) := by
  have h1 := of_decide_eq_false h
  rw [Int32.toInt_toInt64, lN_toInt hk, show (1 : Int64).toInt = 1 by decide] at h1
  rw [Int32.lt_iff_toInt_lt, Int32.le_iff_toInt_le, nI_toInt hk, show (1 : Int32).toInt = 1 by decide]
  omega
end OS
