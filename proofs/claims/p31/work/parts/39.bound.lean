/-! PURE: bounds of the weights. -/
def cnt (P : Nat → Bool) : Nat → Nat
  | 0 => 0
  | k + 1 => cnt P k + (if P k = true then 1 else 0)
def fct : Nat → Nat
  | 0 => 1
  | k + 1 => (k + 1) * fct k
theorem fct_pos : ∀ k, 0 < fct k
  | 0 => by decide
  | k + 1 => Nat.mul_pos (by omega) (fct_pos k)
theorem fct_mono {a b : Nat} (h : a ≤ b) : fct a ≤ fct b := by
  induction b with
  | zero =>
    have e : a = 0 := by omega
    rw [e]; exact Nat.le_refl _
  | succ b ih =>
    by_cases e : a = b + 1
    · rw [e]; exact Nat.le_refl _
    · refine Nat.le_trans (ih (by omega)) ?_
      rw [fct]
      exact Nat.le_mul_of_pos_left _ (by omega)
theorem cnt_le {P Q : Nat → Bool} (h : ∀ i, P i = true → Q i = true) (k : Nat) : cnt P k ≤ cnt Q k := by
  induction k with
  | zero => exact Nat.le_refl _
  | succ k ih =>
    rw [cnt, cnt]
    by_cases e : P k = true
    · rw [if_pos e, if_pos (h k e)]; omega
    · rw [if_neg e]; omega
theorem cnt_k (P : Nat → Bool) (k : Nat) : cnt P k ≤ k := by
  induction k with
  | zero => exact Nat.le_refl _
  | succ k ih =>
    rw [cnt]
    split <;> omega
theorem cnt_mono (P : Nat → Bool) {a b : Nat} (h : a ≤ b) : cnt P a ≤ cnt P b := by
  induction b with
  | zero =>
    have e : a = 0 := by omega
    rw [e]; exact Nat.le_refl _
  | succ b ih =>
    by_cases e : a = b + 1
    · rw [e]; exact Nat.le_refl _
    · have := ih (by omega)
      rw [cnt]; omega
theorem cnt_one {P Q : Nat → Bool} {p : Nat} (hp : P p = true) (hq : Q p = false) (h : ∀ i, i ≠ p → Q i = P i) (k : Nat) : cnt Q k + (if p < k then 1 else 0) = cnt P k := by
  induction k with
  | zero => rfl
  | succ k ih =>
    rw [cnt, cnt]
    by_cases e : k = p
    · rw [e] at ih
      have e1 : ¬ p < p := by omega
      rw [if_neg e1] at ih
      have e2 : p < p + 1 := by omega
      rw [e, hq, hp, if_pos e2]
      simp
      omega
    · rw [h k e]
      have e3 : (if p < k + 1 then 1 else 0) = (if p < k then 1 else 0) := by
        by_cases e2 : p < k
        · have e4 : p < k + 1 := by omega
          rw [if_pos e2, if_pos e4]
        · have e4 : ¬ p < k + 1 := by omega
          rw [if_neg e2, if_neg e4]
      rw [e3]
      omega
def zrs (n s : Nat) : Nat := cnt (fun i => decide (i < n) && !s.testBit i) 10
theorem zrs_or {n s p : Nat} (hn : n ≤ 10) (hp : p < n) (h : s.testBit p = false) : zrs n (s ||| 2 ^ p) + 1 = zrs n s := by
  have := cnt_one (P := fun i => decide (i < n) && !s.testBit i) (Q := fun i => decide (i < n) && !(s ||| 2 ^ p).testBit i) (p := p) (by simp [hp, h]) (by simp [Nat.testBit_or, Nat.testBit_two_pow_self]) (by
    intro i hi
    have e : ¬ p = i := fun e => hi e.symm
    simp [Nat.testBit_or, Nat.testBit_two_pow, e]) 10
  have e10 : p < 10 := by omega
  rw [if_pos e10] at this
  exact this
theorem wgo_bnd {n s O M Z : Nat} {f : Nat → aW} {a : aW} (hO : O < 2 ^ n) (h1 : a.1 < 2 ^ n) (h3 : a.2.2.1 ≤ Z) (h4 : a.2.2.2 < 2 ^ n) (hf : ∀ p, O.testBit p = true → (f (s ||| 2 ^ p)).2.1 ≤ M ∧ (f (s ||| 2 ^ p)).2.2.1 + 1 ≤ Z) (k : Nat) : (wgo s f O a k).1 < 2 ^ n ∧ (wgo s f O a k).2.1 ≤ a.2.1 + cnt (fun i => O.testBit i) k * M ∧ (wgo s f O a k).2.2.1 ≤ Z ∧ (wgo s f O a k).2.2.2 < 2 ^ n := by
  induction k with
  | zero => exact ⟨h1, by rw [cnt]; simp [wgo], h3, h4⟩
  | succ k ih =>
    obtain ⟨i1, i2, i3, i4⟩ := ih
    rw [wgo, cnt]
    unfold wstep
    by_cases e : O.testBit k = true ∧ 0 < (f (s ||| 2 ^ k)).2.1
    · rw [if_pos e, if_pos e.1]
      have h9 := hf k e.1
      have hk : k < n := by
        by_cases hk : k < n
        · exact hk
        · have := Nat.testBit_lt_two_pow (Nat.lt_of_lt_of_le hO (Nat.pow_le_pow_right (n := 2) (j := k) (by decide) (by omega)))
          rw [e.1] at this; cases this
      refine ⟨Nat.or_lt_two_pow i1 (Nat.pow_lt_pow_right (by decide) hk), ?_, ?_, ?_⟩
      · have e5 : (cnt (fun i => O.testBit i) k + 1) * M = cnt (fun i => O.testBit i) k * M + M := Nat.succ_mul _ _
        show (wgo s f O a k).2.1 + (f (s ||| 2 ^ k)).2.1 ≤ _
        rw [e5]; omega
      · show (if (wgo s f O a k).1 = 0 then _ else _) ≤ Z
        split
        · exact h9.2
        · split
          · exact h9.2
          · exact i3
      · exact Nat.lt_of_le_of_lt Nat.and_le_left i4
    · rw [if_neg e]
      refine ⟨i1, ?_, i3, i4⟩
      have e6 : cnt (fun i => O.testBit i) k ≤ cnt (fun i => O.testBit i) k + (if O.testBit k = true then 1 else 0) := by omega
      have e7 := Nat.mul_le_mul_right M e6
      omega
theorem wOf_bnd {n : Nat} (H : Nat → Nat → Bool) (h2 : 2 ≤ n) (hn : n ≤ 10) (m : Nat) : ∀ s, s < 2 ^ n → 2 ^ n - s ≤ m → (wOf n H s).1 < 2 ^ n ∧ (wOf n H s).2.1 ≤ fct (zrs n s) ∧ (wOf n H s).2.2.1 ≤ zrs n s ∧ (wOf n H s).2.2.2 < 2 ^ n := by
  have hpos : 0 < 2 ^ n := Nat.two_pow_pos n
  induction m with
  | zero => intro s hs hm; omega
  | succ m ih =>
    intro s hs hm
    have hb : ∀ p, (opn n H s).testBit p = true → p < n ∧ s.testBit p = false ∧ canV n H s p = true := by
      intro p hp
      rw [opn_bit] at hp
      have h9 := Bool.and_eq_true_iff.mp hp
      exact ⟨of_decide_eq_true h9.1, canV_bit h9.2, h9.2⟩
    have hf : ∀ p, (opn n H s).testBit p = true → (wOf n H (s ||| 2 ^ p)).2.1 ≤ fct (zrs n s - 1) ∧ (wOf n H (s ||| 2 ^ p)).2.2.1 + 1 ≤ zrs n s := by
      intro p hp
      obtain ⟨p1, p2, p3⟩ := hb p hp
      have h9 := ih (s ||| 2 ^ p) (or_lt hs p1) (by have := or_gt p2; omega)
      have h8 := zrs_or hn p1 p2
      have e : zrs n s - 1 = zrs n (s ||| 2 ^ p) := by omega
      rw [e]
      exact ⟨h9.2.1, by omega⟩
    rw [wOf_eq n H hs]
    unfold wst
    have h10 := wgo_bnd (n := n) (s := s) (f := wOf n H) (a := if s.testBit (n - 1) = true then (0, 1, 0, 0) else (0, 0, 0, 2 ^ n - 1)) (Z := zrs n s) (opn_lt (n := n) (H := H) (s := s)) (by split <;> exact hpos) (by split <;> exact Nat.zero_le _) (by split <;> simp <;> omega) hf 10
    refine ⟨h10.1, Nat.le_trans h10.2.1 ?_, h10.2.2⟩
    by_cases ec : s.testBit (n - 1) = true
    · rw [if_pos ec]
      have hz : cnt (fun i => (opn n H s).testBit i) 10 = 0 := by
        have : ∀ i, (opn n H s).testBit i = true → (fun _ : Nat => false) i = true := by
          intro i hi
          have h9 := (hb i hi).2.2
          unfold canV at h9
          rw [ec] at h9
          simp at h9
        have h7 := cnt_le (P := fun i => (opn n H s).testBit i) (Q := fun _ => false) this 10
        have h6 : cnt (fun _ => false) 10 = 0 := by decide
        omega
      rw [hz]
      have := fct_pos (zrs n s)
      simp; omega
    · rw [if_neg ec]
      have h5 : cnt (fun i => (opn n H s).testBit i) 10 ≤ zrs n s := by
        refine cnt_le ?_ 10
        intro i hi
        obtain ⟨p1, p2, p3⟩ := hb i hi
        simp [p1, p2]
      by_cases hz : zrs n s = 0
      · have : cnt (fun i => (opn n H s).testBit i) 10 = 0 := by omega
        rw [this]
        have := fct_pos (zrs n s)
        simp
      · obtain ⟨z, ez⟩ : ∃ z, zrs n s = z + 1 := ⟨zrs n s - 1, by omega⟩
        have e9 : fct (zrs n s) = zrs n s * fct (zrs n s - 1) := by rw [ez]; rfl
        rw [e9]
        have := Nat.mul_le_mul_right (fct (zrs n s - 1)) h5
        show 0 + _ ≤ _
        omega
theorem wOf_small {n : Nat} (H : Nat → Nat → Bool) (h2 : 2 ≤ n) (hn : n ≤ 10) {s : Nat} (hs : s < 2 ^ n) : (wOf n H s).1 < 1024 ∧ (wOf n H s).2.1 < 2 ^ 30 ∧ (wOf n H s).2.2.1 ≤ 10 ∧ (wOf n H s).2.2.2 < 1024 := by
  have h1024 : 2 ^ n ≤ 1024 := Nat.pow_le_pow_right (n := 2) (j := 10) (by decide) hn
  obtain ⟨a, b, c, d⟩ := wOf_bnd H h2 hn (2 ^ n) s hs (by omega)
  have hz : zrs n s ≤ 10 := cnt_k _ 10
  have h9 := fct_mono hz
  have h8 : fct 10 = 3628800 := by decide
  exact ⟨by omega, by omega, by omega, by omega⟩
