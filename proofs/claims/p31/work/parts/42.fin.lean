/-! PURE: orders are positive just where the chest can be opened; the leading places are the safe ones. -/
theorem fin_iff {n : Nat} {H : Nat → Nat → Bool} (h2 : 2 ≤ n) {s : Nat} (hs : s < 2 ^ n) : fin n H none s = true ↔ (s.testBit (n - 1) = true ∨ ∃ p, p < n ∧ canV n H s p = true ∧ fin n H none (s ||| 2 ^ p) = true) := by
  cases ec : s.testBit (n - 1) with
  | true => simp [fin, ec]
  | false =>
    have h3 := bit_split h2 hs ec
    have e1 : fin n H none s = good n H none s := by unfold fin; rw [ec, Bool.false_or]
    rw [e1, good_eq n H none h3]
    unfold gst
    rw [Bool.or_eq_true, anyP_iff]
    constructor
    · rintro (h | ⟨i, hi, h⟩)
      · refine Or.inr ⟨n - 1, by omega, ?_, ?_⟩
        · have h9 : H (n - 1) s = true := by simpa using h
          unfold canV
          rw [ec, h9]; rfl
        · unfold fin
          rw [Nat.testBit_or, Nat.testBit_two_pow_self]; simp
      · have h9 : canV n H s i = true ∧ good n H none (s ||| 2 ^ i) = true := by simpa using h
        refine Or.inr ⟨i, by omega, h9.1, ?_⟩
        unfold fin
        rw [h9.2]; simp
    · rintro (h | ⟨p, hp, h, h5⟩)
      · cases h
      · by_cases e9 : p = n - 1
        · refine Or.inl ?_
          rw [e9] at h
          unfold canV at h
          rw [ec] at h
          simpa using h
        · refine Or.inr ⟨p, by omega, ?_⟩
          have e8 : (s ||| 2 ^ p).testBit (n - 1) = false := by
            rw [Nat.testBit_or, ec, Nat.testBit_two_pow]
            simp [e9]
          unfold fin at h5
          rw [e8, Bool.false_or] at h5
          simp [h, h5]
theorem wgo_pos {s O : Nat} {f : Nat → aW} {a : aW} (k : Nat) : 0 < (wgo s f O a k).2.1 ↔ (0 < a.2.1 ∨ ∃ p, p < k ∧ O.testBit p = true ∧ 0 < (f (s ||| 2 ^ p)).2.1) := by
  induction k with
  | zero =>
    constructor
    · intro h; exact Or.inl h
    · rintro (h | ⟨p, hp, _⟩)
      · exact h
      · omega
  | succ k ih =>
    rw [wgo]
    unfold wstep
    by_cases e : O.testBit k = true ∧ 0 < (f (s ||| 2 ^ k)).2.1
    · rw [if_pos e]
      constructor
      · intro _; exact Or.inr ⟨k, by omega, e⟩
      · intro _
        show 0 < _ + _
        omega
    · rw [if_neg e, ih]
      constructor
      · rintro (h | ⟨p, hp, h⟩)
        · exact Or.inl h
        · exact Or.inr ⟨p, by omega, h⟩
      · rintro (h | ⟨p, hp, h⟩)
        · exact Or.inl h
        · by_cases e9 : p = k
          · rw [e9] at h; exact absurd h e
          · exact Or.inr ⟨p, by omega, h⟩
theorem wOf_pos {n : Nat} {H : Nat → Nat → Bool} (h2 : 2 ≤ n) (hn : n ≤ 10) (m : Nat) : ∀ s, s < 2 ^ n → 2 ^ n - s ≤ m → (0 < (wOf n H s).2.1 ↔ fin n H none s = true) := by
  induction m with
  | zero => intro s hs hm; omega
  | succ m ih =>
    intro s hs hm
    have hih : ∀ p, p < n → canV n H s p = true → (0 < (wOf n H (s ||| 2 ^ p)).2.1 ↔ fin n H none (s ||| 2 ^ p) = true) := by
      intro p hp hc
      have h8 := or_gt (canV_bit hc)
      exact ih _ (or_lt hs hp) (by omega)
    rw [wOf_eq n H hs, fin_iff h2 hs]
    unfold wst
    rw [wgo_pos]
    constructor
    · rintro (h | ⟨p, hp, hb, h⟩)
      · cases ec : s.testBit (n - 1) with
        | true => exact Or.inl rfl
        | false => rw [ec] at h; exact absurd h (by simp)
      · rw [opn_bit] at hb
        have h9 := Bool.and_eq_true_iff.mp hb
        have h7 := of_decide_eq_true h9.1
        exact Or.inr ⟨p, h7, h9.2, (hih p h7 h9.2).mp h⟩
    · rintro (h | ⟨p, hp, hc, h⟩)
      · exact Or.inl (by rw [h, if_pos rfl]; exact Nat.one_pos)
      · refine Or.inr ⟨p, by omega, ?_, (hih p hp hc).mpr h⟩
        rw [opn_bit, hc]; simp [hp]
theorem wgo_lead {s O : Nat} {f : Nat → aW} {a : aW} (i : Nat) (k : Nat) : (wgo s f O a k).1.testBit i = (a.1.testBit i || (decide (i < k) && (O.testBit i && decide (0 < (f (s ||| 2 ^ i)).2.1)))) := by
  induction k with
  | zero => simp [wgo]
  | succ k ih =>
    rw [wgo]
    unfold wstep
    by_cases e9 : i = k
    · subst e9
      have e8 : decide (i < i) = false := by simp
      rw [e8, Bool.false_and, Bool.or_false] at ih
      by_cases e : O.testBit i = true ∧ 0 < (f (s ||| 2 ^ i)).2.1
      · rw [if_pos e]
        show Nat.testBit (_ ||| _) i = _
        rw [Nat.testBit_or, Nat.testBit_two_pow_self]
        simp [e.1, e.2]
      · rw [if_neg e, ih]
        by_cases e5 : O.testBit i = true
        · have : ¬ 0 < (f (s ||| 2 ^ i)).2.1 := fun h => e ⟨e5, h⟩
          simp [this]
        · have e5 : O.testBit i = false := by simpa using e5
          simp [e5]
    · have e7 : decide (i < k + 1) = decide (i < k) := by
        by_cases e5 : i < k
        · have : i < k + 1 := by omega
          simp [e5, this]
        · have : ¬ i < k + 1 := by omega
          simp [e5, this]
      rw [e7]
      by_cases e : O.testBit k = true ∧ 0 < (f (s ||| 2 ^ k)).2.1
      · rw [if_pos e]
        show Nat.testBit (_ ||| _) i = _
        have e4 : ¬ k = i := fun h => e9 h.symm
        rw [Nat.testBit_or, ih, Nat.testBit_two_pow]
        simp [e4]
      · rw [if_neg e, ih]
theorem wOf_safe {n : Nat} {H : Nat → Nat → Bool} (h2 : 2 ≤ n) (hn : n ≤ 10) {s : Nat} (hs : s < 2 ^ n) : (wOf n H s).1 = safe n H s := by
  apply Nat.eq_of_testBit_eq
  intro i
  rw [wOf_eq n H hs]
  unfold wst safe
  rw [wgo_lead, msk_bit, opn_bit]
  have e0 : (if s.testBit (n - 1) = true then ((0, 1, 0, 0) : aW) else (0, 0, 0, 2 ^ n - 1)).1.testBit i = false := by
    split <;> simp
  rw [e0, Bool.false_or]
  by_cases hi : i < n
  · have hi10 : i < 10 := by omega
    cases hc : canV n H s i with
    | false => simp
    | true =>
      have h9 := wOf_pos (H := H) h2 hn (2 ^ n) (s ||| 2 ^ i) (or_lt hs hi) (by omega)
      simp only [hi, hi10, decide_true, Bool.true_and]
      cases e : fin n H none (s ||| 2 ^ i) with
      | true => rw [decide_eq_true (h9.mpr e)]
      | false =>
        have : ¬ 0 < (wOf n H (s ||| 2 ^ i)).2.1 := fun h => by rw [h9.mp h] at e; cases e
        rw [decide_eq_false this]
  · simp [hi]
