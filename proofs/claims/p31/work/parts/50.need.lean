/-! PURE: what every way to the chest needs. -/
theorem fin_iffb {n : Nat} {H : Nat → Nat → Bool} {b : Option Nat} (h2 : 2 ≤ n) {s : Nat} (hs : s < 2 ^ n) : fin n H b s = true ↔ (s.testBit (n - 1) = true ∨ ∃ p, p < n ∧ b ≠ some p ∧ canV n H s p = true ∧ fin n H b (s ||| 2 ^ p) = true) := by
  cases ec : s.testBit (n - 1) with
  | true => simp [fin, ec]
  | false =>
    have h3 := bit_split h2 hs ec
    have e1 : fin n H b s = good n H b s := by unfold fin; rw [ec, Bool.false_or]
    rw [e1, good_eq n H b h3]
    unfold gst
    rw [Bool.or_eq_true, anyP_iff]
    constructor
    · rintro (h | ⟨i, hi, h⟩)
      · have h9 : ¬ b = some (n - 1) ∧ H (n - 1) s = true := by simpa using h
        refine Or.inr ⟨n - 1, by omega, h9.1, ?_, ?_⟩
        · unfold canV
          rw [ec, h9.2]; rfl
        · unfold fin
          rw [Nat.testBit_or, Nat.testBit_two_pow_self]; simp
      · have h9 : ¬ b = some i ∧ canV n H s i = true ∧ good n H b (s ||| 2 ^ i) = true := by simpa using h
        refine Or.inr ⟨i, by omega, h9.1, h9.2.1, ?_⟩
        unfold fin
        rw [h9.2.2]; simp
    · rintro (h | ⟨p, hp, hb, h, h5⟩)
      · cases h
      · by_cases e9 : p = n - 1
        · refine Or.inl ?_
          rw [e9] at h hb
          unfold canV at h
          rw [ec] at h
          have h : H (n - 1) s = true := by simpa using h
          simp [h, hb]
        · refine Or.inr ⟨p, by omega, ?_⟩
          have e8 : (s ||| 2 ^ p).testBit (n - 1) = false := by
            rw [Nat.testBit_or, ec, Nat.testBit_two_pow]
            simp [e9]
          unfold fin at h5
          rw [e8, Bool.false_or] at h5
          simp [h, h5, hb]
theorem fin_mono {n : Nat} {H : Nat → Nat → Bool} {b : Option Nat} (h2 : 2 ≤ n) (m : Nat) : ∀ s, s < 2 ^ n → 2 ^ n - s ≤ m → fin n H b s = true → fin n H none s = true := by
  induction m with
  | zero => intro s hs hm; omega
  | succ m ih =>
    intro s hs hm h
    rcases (fin_iffb h2 hs).mp h with h1 | ⟨p, hp, _, h3, h4⟩
    · exact (fin_iffb h2 hs).mpr (Or.inl h1)
    · have := or_gt (canV_bit h3)
      exact (fin_iffb h2 hs).mpr (Or.inr ⟨p, hp, by simp, h3, ih _ (or_lt hs hp) (by omega) h4⟩)
theorem wgo_com {s O : Nat} {f : Nat → aW} {a : aW} (q : Nat) (k : Nat) : (wgo s f O a k).2.2.2.testBit q = true ↔ (a.2.2.2.testBit q = true ∧ ∀ p, p < k → O.testBit p = true → 0 < (f (s ||| 2 ^ p)).2.1 → ((f (s ||| 2 ^ p)).2.2.2.testBit q = true ∨ p = q)) := by
  induction k with
  | zero => exact ⟨fun h => ⟨h, fun p hp => by omega⟩, fun h => h.1⟩
  | succ k ih =>
    rw [wgo]
    unfold wstep
    by_cases e : O.testBit k = true ∧ 0 < (f (s ||| 2 ^ k)).2.1
    · rw [if_pos e]
      show ((wgo s f O a k).2.2.2 &&& ((f (s ||| 2 ^ k)).2.2.2 ||| 2 ^ k)).testBit q = true ↔ _
      rw [Nat.testBit_and, Nat.testBit_or, Nat.testBit_two_pow, Bool.and_eq_true, Bool.or_eq_true, ih]
      constructor
      · rintro ⟨⟨h1, h2⟩, h3⟩
        refine ⟨h1, ?_⟩
        intro p hp h4 h5
        by_cases e9 : p = k
        · rw [e9]
          rcases h3 with h3 | h3
          · exact Or.inl h3
          · exact Or.inr (of_decide_eq_true h3)
        · exact h2 p (by omega) h4 h5
      · rintro ⟨h1, h2⟩
        refine ⟨⟨h1, fun p hp => h2 p (by omega)⟩, ?_⟩
        rcases h2 k (by omega) e.1 e.2 with h3 | h3
        · exact Or.inl h3
        · exact Or.inr (decide_eq_true h3)
    · rw [if_neg e, ih]
      constructor
      · rintro ⟨h1, h2⟩
        refine ⟨h1, ?_⟩
        intro p hp h4 h5
        by_cases e9 : p = k
        · rw [e9] at h4 h5; exact absurd ⟨h4, h5⟩ e
        · exact h2 p (by omega) h4 h5
      · rintro ⟨h1, h2⟩
        exact ⟨h1, fun p hp => h2 p (by omega)⟩
theorem all_bit {n q : Nat} (hq : q < n) : (2 ^ n - 1).testBit q = true := by
  rw [Nat.testBit_two_pow_sub_one]
  simp [hq]
theorem need_eq {n : Nat} {H : Nat → Nat → Bool} (h2 : 2 ≤ n) (hn : n ≤ 10) (m : Nat) : ∀ s, s < 2 ^ n → 2 ^ n - s ≤ m → fin n H none s = true → ∀ q, q < n → (wOf n H s).2.2.2.testBit q = (!s.testBit q && !fin n H (some q) s) := by
  induction m with
  | zero => intro s hs hm; omega
  | succ m ih =>
    intro s hs hm hf q hq
    cases ec : s.testBit (n - 1) with
    | true =>
      rw [wOf_end hs ec]
      have e1 : fin n H (some q) s = true := by unfold fin; rw [ec]; rfl
      rw [e1]; simp
    | false =>
      have hp : ∀ p, p < n → canV n H s p = true → (0 < (wOf n H (s ||| 2 ^ p)).2.1 ↔ fin n H none (s ||| 2 ^ p) = true) := fun p hp _ => wOf_pos (H := H) h2 hn (2 ^ n) _ (or_lt hs hp) (by omega)
      have hI : ∀ p, p < n → canV n H s p = true → fin n H none (s ||| 2 ^ p) = true → (wOf n H (s ||| 2 ^ p)).2.2.2.testBit q = (!(s ||| 2 ^ p).testBit q && !fin n H (some q) (s ||| 2 ^ p)) := by
        intro p hp hc hfp
        have := or_gt (canV_bit hc)
        exact ih _ (or_lt hs hp) (by omega) hfp q hq
      have key : (wOf n H s).2.2.2.testBit q = true ↔ ∀ p, p < n → canV n H s p = true → fin n H none (s ||| 2 ^ p) = true → ((wOf n H (s ||| 2 ^ p)).2.2.2.testBit q = true ∨ p = q) := by
        rw [wOf_eq n H hs]
        unfold wst
        rw [wgo_com, ec, if_neg (by decide)]
        show (2 ^ n - 1).testBit q = true ∧ _ ↔ _
        constructor
        · rintro ⟨_, h⟩ p hpn hc hfp
          exact h p (by omega) (by rw [opn_bit, hc]; simp [hpn]) ((hp p hpn hc).mpr hfp)
        · intro h
          refine ⟨all_bit hq, ?_⟩
          intro p _ hb ho
          rw [opn_bit] at hb
          have h9 := Bool.and_eq_true_iff.mp hb
          have h8 := of_decide_eq_true h9.1
          exact h p h8 h9.2 ((hp p h8 h9.2).mp ho)
      have e0 : (!s.testBit q && !fin n H (some q) s) = true ↔ (s.testBit q = false ∧ fin n H (some q) s = false) := by
        cases s.testBit q <;> cases fin n H (some q) s <;> simp
      have main : (wOf n H s).2.2.2.testBit q = true ↔ (!s.testBit q && !fin n H (some q) s) = true := by
        rw [key, e0]
        constructor
        · intro h
          obtain ⟨p, hpn, hc, hfp⟩ : ∃ p, p < n ∧ canV n H s p = true ∧ fin n H none (s ||| 2 ^ p) = true := by
            rcases (fin_iff h2 hs).mp hf with h1 | h1
            · rw [ec] at h1; cases h1
            · exact h1
          have hsq : s.testBit q = false := by
            cases eq : s.testBit q with
            | false => rfl
            | true =>
              rcases h p hpn hc hfp with h3 | h3
              · rw [hI p hpn hc hfp, Nat.testBit_or, eq] at h3
                simp at h3
              · rw [h3] at hc
                rw [canV_bit hc] at eq; cases eq
          refine ⟨hsq, ?_⟩
          cases ef : fin n H (some q) s with
          | false => rfl
          | true =>
            rcases (fin_iffb h2 hs).mp ef with h1 | ⟨p', h4, h5, h6, h7⟩
            · rw [ec] at h1; cases h1
            · have h8 := fin_mono h2 (2 ^ n) (s ||| 2 ^ p') (or_lt hs h4) (by omega) h7
              rcases h p' h4 h6 h8 with h3 | h3
              · rw [hI p' h4 h6 h8, h7] at h3
                simp at h3
              · rw [h3] at h5; exact absurd rfl h5
        · rintro ⟨h1, h3⟩ p hpn hc hfp
          by_cases e9 : p = q
          · exact Or.inr e9
          · refine Or.inl ?_
            rw [hI p hpn hc hfp]
            have e8 : (s ||| 2 ^ p).testBit q = false := by
              rw [Nat.testBit_or, h1, Nat.testBit_two_pow]
              simp [e9]
            have e7 : fin n H (some q) (s ||| 2 ^ p) = false := by
              cases ef : fin n H (some q) (s ||| 2 ^ p) with
              | false => rfl
              | true =>
                have h9 := (fin_iffb (b := some q) h2 hs).mpr (Or.inr ⟨p, hpn, fun e => e9 (Option.some.inj e).symm, hc, ef⟩)
                rw [h9] at h3; cases h3
            rw [e8, e7]; rfl
      cases e1 : (wOf n H s).2.2.2.testBit q with
      | true => exact (main.mp e1).symm
      | false =>
        cases e3 : (!s.testBit q && !fin n H (some q) s) with
        | false => rfl
        | true => rw [main.mpr e3] at e1; cases e1
theorem need_msk {n : Nat} {H : Nat → Nat → Bool} (h2 : 2 ≤ n) (hn : n ≤ 10) {s : Nat} (hs : s < 2 ^ n) (hf : fin n H none s = true) : (wOf n H s).2.2.2 = msk (fun q => !s.testBit q && !fin n H (some q) s) n := by
  apply Nat.eq_of_testBit_eq
  intro i
  rw [msk_bit]
  by_cases hi : i < n
  · rw [need_eq h2 hn (2 ^ n) s hs (by omega) hf i hi]
    simp [hi]
  · have h9 := (wOf_bnd H h2 hn (2 ^ n) s hs (by omega)).2.2.2
    rw [Nat.testBit_lt_two_pow (Nat.lt_of_lt_of_le h9 (Nat.pow_le_pow_right (by decide) (by omega)))]
    simp [hi]
section MND
variable {n : Nat} {H : Nat → Nat → Bool}
end MND
