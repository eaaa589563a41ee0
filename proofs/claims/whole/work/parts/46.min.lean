/-! PURE: the reference's checks of places and teams. -/
theorem z64 : (0 : Int64).toInt = 0 := by decide
theorem m_in (a b : Int32) (g : gG) : f_X10_in a.toInt64 0 b.toInt64 g = some (b2 (decide (0 ≤ a.toInt ∧ a.toInt ≤ b.toInt)), g) := by
  unfold f_X10_in
  by_cases h1 : a.toInt < 0
  · have e1 : lg_cmp a.toInt64 0 < 0 := by
      rw [lg_cmp_lt, Int64.lt_iff_toInt_lt, Int32.toInt_toInt64, z64]; exact h1
    have e2 : decide (0 ≤ a.toInt ∧ a.toInt ≤ b.toInt) = false := by
      rw [decide_eq_false_iff_not]; omega
    rw [if_pos e1, e2, b2_f]
  · have e1 : ¬ (lg_cmp a.toInt64 0 < 0) := by
      rw [lg_cmp_lt, Int64.lt_iff_toInt_lt, Int32.toInt_toInt64, z64]; exact h1
    rw [if_neg e1]
    by_cases h3 : b.toInt < a.toInt
    · have e3 : 0 < lg_cmp a.toInt64 b.toInt64 := by
        rw [lg_cmp_gt, Int64.lt_iff_toInt_lt, Int32.toInt_toInt64, Int32.toInt_toInt64]; exact h3
      have e2 : decide (0 ≤ a.toInt ∧ a.toInt ≤ b.toInt) = false := by
        rw [decide_eq_false_iff_not]; omega
      rw [if_pos e3, e2, b2_f]
    · have e3 : ¬ (0 < lg_cmp a.toInt64 b.toInt64) := by
        rw [lg_cmp_gt, Int64.lt_iff_toInt_lt, Int32.toInt_toInt64, Int32.toInt_toInt64]; exact h3
      have e2 : decide (0 ≤ a.toInt ∧ a.toInt ≤ b.toInt) = true := by
        rw [decide_eq_true_iff]; omega
      rw [if_neg e3, e2, b2_t]
theorem nIm1 {n : Nat} (h : n < 2 ^ 30) : (nI n - (1 : Int32)).toInt = (n : Int) - 1 := by
  cases n with
  | zero => decide
  | succ n => rw [nI_pred, nI_toInt (by omega)]; omega
theorem m_isTeam {g : gG} {n : Nat} {hm : Nat → Nat} {S : aS} (h : mS (g.1 183) n hm S) (ok : okS n S) (x : Int32) : f_X10_isTeam x g = some (b2 (isT S x), g) := by
  have hT := ok.2.1
  have c1 : (1 : Int32).toNatClampNeg = 1 := by decide
  have e : isT S x = decide (0 ≤ x.toInt ∧ x.toInt ≤ (nI S.2.2.2.length - (1 : Int32)).toInt) := by
    unfold isT
    rw [nIm1 (by omega)]
    apply decide_eq_decide.mpr
    omega
  unfold f_X10_isTeam
  rw [if_pos (show inb 1 394 = true by decide), c1, show g.1 183 1 = nI S.2.2.2.length from h.2.1, m_in, ← e]
  simp only [ob_eq, b2_gZb, if_true]
theorem m_isPlace {g : gG} {n : Nat} {H : Nat → Nat → Bool} (h : mH (g.1 183) n H) (hn : n ≤ 10) (x : Int32) : f_X10_isPlace x g = some (b2 (decide (0 ≤ x.toInt ∧ x.toInt < n)), g) := by
  have e : decide (0 ≤ x.toInt ∧ x.toInt < n) = decide (0 ≤ x.toInt ∧ x.toInt ≤ (nI n - (1 : Int32)).toInt) := by
    rw [nIm1 (by omega)]
    apply decide_eq_decide.mpr
    omega
  unfold f_X10_isPlace
  rw [if_pos (inb0 (by decide) (by decide)), clamp0, h.1, m_in, ← e]
  simp only [ob_eq, b2_gZb, if_true]
