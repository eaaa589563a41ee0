/-! PURE: what is said of a set by what is said of the greater ones. -/
def Rf {α : Type} (z : α) (st : Nat → (Nat → α) → α) : Nat → Nat → α
  | 0, _ => z
  | d + 1, s => st s (Rf z st d)
def Rr {α : Type} (z : α) (st : Nat → (Nat → α) → α) (N s : Nat) : α := Rf z st (N - s) s
def loc {α : Type} (st : Nat → (Nat → α) → α) (N : Nat) : Prop := ∀ s (f f' : Nat → α), s < N → (∀ s', s < s' → s' < N → f s' = f' s') → st s f = st s f'
theorem Rf_ind {α : Type} {z : α} {st : Nat → (Nat → α) → α} {N : Nat} (h : loc st N) : ∀ d d' s, s < N → N - s ≤ d → N - s ≤ d' → Rf z st d s = Rf z st d' s := by
  intro d
  induction d with
  | zero => intro d' s h1 h2 h3; omega
  | succ d ih =>
    intro d' s h1 h2 h3
    obtain ⟨e, rfl⟩ : ∃ e, d' = e + 1 := ⟨d' - 1, by omega⟩
    exact h s _ _ h1 (fun s' a b => ih e s' b (by omega) (by omega))
theorem Rr_eq {α : Type} {z : α} {st : Nat → (Nat → α) → α} {N : Nat} (h : loc st N) {s : Nat} (hs : s < N) : Rr z st N s = st s (Rr z st N) := by
  unfold Rr
  obtain ⟨e, he⟩ : ∃ e, N - s = e + 1 := ⟨N - s - 1, by omega⟩
  rw [he]
  exact h s _ _ hs (fun s' a b => Rf_ind h e (N - s') s' b (by omega) (by omega))
def anyP (P : Nat → Bool) : Nat → Bool
  | 0 => false
  | k + 1 => anyP P k || P k
theorem anyP_iff (P : Nat → Bool) (k : Nat) : anyP P k = true ↔ ∃ i, i < k ∧ P i = true := by
  induction k with
  | zero => simp [anyP]
  | succ k ih =>
    rw [anyP, Bool.or_eq_true, ih]
    constructor
    · rintro (⟨i, a, b⟩ | b)
      · exact ⟨i, by omega, b⟩
      · exact ⟨k, by omega, b⟩
    · rintro ⟨i, a, b⟩
      by_cases e : i = k
      · subst e; exact Or.inr b
      · exact Or.inl ⟨i, by omega, b⟩
theorem anyP_cong {P Q : Nat → Bool} {k : Nat} (h : ∀ i, i < k → P i = Q i) : anyP P k = anyP Q k := by
  induction k with
  | zero => rfl
  | succ k ih => rw [anyP, anyP, ih (fun i hi => h i (by omega)), h k (by omega)]
theorem anyP_true {P : Nat → Bool} {i k : Nat} (h : anyP P i = true) (hi : i ≤ k) : anyP P k = true := by
  obtain ⟨j, a, b⟩ := (anyP_iff P i).mp h
  exact (anyP_iff P k).mpr ⟨j, by omega, b⟩
theorem or_gt {s p : Nat} (h : s.testBit p = false) : s < s ||| 2 ^ p := by
  have h1 : s ≤ s ||| 2 ^ p := Nat.left_le_or
  have h2 : s ≠ s ||| 2 ^ p := by
    intro e
    have : (s ||| 2 ^ p).testBit p = true := by rw [Nat.testBit_or, Nat.testBit_two_pow_self]; simp
    rw [← e, h] at this
    cases this
  omega
theorem or_lt {s p k : Nat} (h : s < 2 ^ k) (hp : p < k) : s ||| 2 ^ p < 2 ^ k := Nat.or_lt_two_pow h (Nat.pow_lt_pow_right (by decide) hp)
theorem canV_bit {n : Nat} {H : Nat → Nat → Bool} {s p : Nat} (h : canV n H s p = true) : s.testBit p = false := by
  unfold canV at h
  cases e : s.testBit p with
  | false => rfl
  | true => rw [e] at h; simp at h
/-- the chest can be opened from s without the place but -/
def gst (n : Nat) (H : Nat → Nat → Bool) (bt0 : Option Nat) (s : Nat) (f : Nat → Bool) : Bool := (!decide (bt0 = some (n - 1)) && H (n - 1) s) || anyP (fun p => !decide (bt0 = some p) && (canV n H s p && f (s ||| 2 ^ p))) (n - 1)
theorem gst_loc (n : Nat) (H : Nat → Nat → Bool) (b : Option Nat) : loc (gst n H b) (2 ^ (n - 1)) := by
  intro s f f' hs h
  unfold gst
  rw [anyP_cong]
  intro p hp
  cases e : canV n H s p with
  | false => simp
  | true => rw [h _ (or_gt (canV_bit e)) (or_lt hs hp)]
def good (n : Nat) (H : Nat → Nat → Bool) (b : Option Nat) (s : Nat) : Bool := Rr false (gst n H b) (2 ^ (n - 1)) s
theorem good_eq (n : Nat) (H : Nat → Nat → Bool) (b : Option Nat) {s : Nat} (hs : s < 2 ^ (n - 1)) : good n H b s = gst n H b s (good n H b) := Rr_eq (gst_loc n H b) hs
