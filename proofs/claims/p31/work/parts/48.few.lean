/-! PURE: minima over places; sums over places; the weights in one row. -/
def omin : Option Nat → Option Nat → Option Nat
  | none, b => b
  | some x, none => some x
  | some x, some y => some (if y < x then y else x)
theorem omin_r (a : Option Nat) : omin a none = a := by cases a <;> rfl
theorem omin_comm (a b : Option Nat) : omin a b = omin b a := by
  cases a with
  | none => cases b <;> rfl
  | some x =>
    cases b with
    | none => rfl
    | some y =>
      show some _ = some _
      congr 1
      split <;> split <;> omega
theorem omin_assoc (a b c : Option Nat) : omin (omin a b) c = omin a (omin b c) := by
  cases a with
  | none => rfl
  | some x =>
    cases b with
    | none => rfl
    | some y =>
      cases c with
      | none => rfl
      | some z =>
        show some _ = some _
        congr 1
        by_cases h1 : y < x
        · by_cases h2 : z < y
          · rw [if_pos h1, if_pos h2, if_pos (by omega)]
          · rw [if_pos h1, if_neg h2, if_pos h1]
        · by_cases h2 : z < y
          · rw [if_neg h1, if_pos h2]
          · rw [if_neg h1, if_neg h2, if_neg h1, if_neg (by omega)]
def minO (v : Nat → Option Nat) : Nat → Option Nat
  | 0 => none
  | k + 1 => omin (minO v k) (v k)
theorem minO_none (v : Nat → Option Nat) (k : Nat) : minO v k = none ↔ ∀ p, p < k → v p = none := by
  induction k with
  | zero => exact ⟨fun _ p hp => by omega, fun _ => rfl⟩
  | succ k ih =>
    rw [minO]
    constructor
    · intro h p hp
      have h1 : minO v k = none ∧ v k = none := by
        revert h
        cases minO v k <;> cases v k <;> simp [omin]
      by_cases e : p = k
      · rw [e]; exact h1.2
      · exact ih.mp h1.1 p (by omega)
    · intro h
      rw [ih.mpr (fun p hp => h p (by omega)), h k (by omega)]; rfl
theorem minO_some {v : Nat → Option Nat} {k m : Nat} (h : minO v k = some m) : (∃ p, p < k ∧ v p = some m) ∧ ∀ p x, p < k → v p = some x → m ≤ x := by
  induction k generalizing m with
  | zero => cases h
  | succ k ih =>
    rw [minO] at h
    cases e1 : minO v k with
    | none =>
      rw [e1] at h
      have h : v k = some m := h
      refine ⟨⟨k, by omega, h⟩, ?_⟩
      intro p x hp hx
      by_cases e : p = k
      · rw [e, h] at hx; cases hx; exact Nat.le_refl _
      · rw [(minO_none v k).mp e1 p (by omega)] at hx; cases hx
    | some a =>
      obtain ⟨⟨q, hq, hv⟩, hl⟩ := ih e1
      rw [e1] at h
      cases e2 : v k with
      | none =>
        rw [e2] at h
        have h : some a = some m := h
        cases h
        refine ⟨⟨q, by omega, hv⟩, ?_⟩
        intro p x hp hx
        by_cases e : p = k
        · rw [e, e2] at hx; cases hx
        · exact hl p x (by omega) hx
      | some y =>
        rw [e2] at h
        have h : some (if y < a then y else a) = some m := h
        have h := Option.some.inj h
        by_cases c : y < a
        · rw [if_pos c] at h
          subst h
          refine ⟨⟨k, by omega, e2⟩, ?_⟩
          intro p x hp hx
          by_cases e : p = k
          · rw [e, e2] at hx; cases hx; exact Nat.le_refl _
          · have := hl p x (by omega) hx; omega
        · rw [if_neg c] at h
          subst h
          refine ⟨⟨q, by omega, hv⟩, ?_⟩
          intro p x hp hx
          by_cases e : p = k
          · rw [e, e2] at hx; cases hx; omega
          · exact hl p x (by omega) hx
theorem minO_cong {v v' : Nat → Option Nat} {k : Nat} (h : ∀ p, p < k → v p = v' p) : minO v k = minO v' k := by
  induction k with
  | zero => rfl
  | succ k ih => rw [minO, minO, ih (fun p hp => h p (by omega)), h k (by omega)]
theorem minO_ext {v : Nat → Option Nat} {n : Nat} (h : ∀ p, n ≤ p → v p = none) : ∀ k, minO v (n + k) = minO v n
  | 0 => rfl
  | k + 1 => by
    show omin (minO v (n + k)) (v (n + k)) = _
    rw [h (n + k) (by omega), omin_r, minO_ext h k]
def sumN (v : Nat → Nat) : Nat → Nat
  | 0 => 0
  | k + 1 => sumN v k + v k
theorem sumN_cong {v v' : Nat → Nat} {k : Nat} (h : ∀ p, p < k → v p = v' p) : sumN v k = sumN v' k := by
  induction k with
  | zero => rfl
  | succ k ih => rw [sumN, sumN, ih (fun p hp => h p (by omega)), h k (by omega)]
theorem sumN_ext {v : Nat → Nat} {n : Nat} (h : ∀ p, n ≤ p → v p = 0) : ∀ k, sumN v (n + k) = sumN v n
  | 0 => rfl
  | k + 1 => by
    show sumN v (n + k) + v (n + k) = _
    rw [h (n + k) (by omega), sumN_ext h k]; rfl
theorem sumN_mono {v : Nat → Nat} {a b : Nat} (h : a ≤ b) : sumN v a ≤ sumN v b := by
  induction b with
  | zero =>
    have e : a = 0 := by omega
    rw [e]; exact Nat.le_refl _
  | succ b ih =>
    by_cases e : a = b + 1
    · rw [e]; exact Nat.le_refl _
    · have := ih (by omega)
      rw [sumN]; omega
theorem wgo_zero {s : Nat} {f : Nat → aW} {a : aW} (k : Nat) : wgo s f 0 a k = a := by
  induction k with
  | zero => rfl
  | succ k ih =>
    rw [wgo, ih]
    unfold wstep
    rw [if_neg (by simp)]
theorem wOf_end {n : Nat} {H : Nat → Nat → Bool} {s : Nat} (hs : s < 2 ^ n) (hc : s.testBit (n - 1) = true) : wOf n H s = (0, 1, 0, 0) := by
  rw [wOf_eq n H hs]
  unfold wst
  rw [opn_end hc, wgo_zero, if_pos hc]
theorem wgo_ord {s O : Nat} {f : Nat → aW} {a : aW} (k : Nat) : (wgo s f O a k).2.1 = a.2.1 + sumN (fun p => if O.testBit p = true then (f (s ||| 2 ^ p)).2.1 else 0) k := by
  induction k with
  | zero => rfl
  | succ k ih =>
    rw [wgo, sumN]
    unfold wstep
    by_cases e : O.testBit k = true ∧ 0 < (f (s ||| 2 ^ k)).2.1
    · rw [if_pos e, if_pos e.1]
      show (wgo s f O a k).2.1 + _ = _
      rw [ih]; omega
    · rw [if_neg e, ih]
      by_cases e2 : O.testBit k = true
      · rw [if_pos e2]
        have : ¬ 0 < (f (s ||| 2 ^ k)).2.1 := fun h => e ⟨e2, h⟩
        omega
      · rw [if_neg e2]; omega
def fwC (s : Nat) (f : Nat → aW) (O p : Nat) : Option Nat := if O.testBit p = true ∧ 0 < (f (s ||| 2 ^ p)).2.1 then some ((f (s ||| 2 ^ p)).2.2.1 + 1) else none
theorem or_pow_ne (a p : Nat) : a ||| 2 ^ p ≠ 0 := by
  intro h
  have h1 : (a ||| 2 ^ p).testBit p = true := by rw [Nat.testBit_or, Nat.testBit_two_pow_self]; simp
  rw [h] at h1
  simp at h1
theorem wgo_few {s O : Nat} {f : Nat → aW} {a : aW} (ha : a.1 = 0) (k : Nat) : ((wgo s f O a k).1 = 0 ↔ minO (fwC s f O) k = none) ∧ (wgo s f O a k).2.2.1 = (minO (fwC s f O) k).getD a.2.2.1 := by
  induction k with
  | zero => exact ⟨⟨fun _ => rfl, fun _ => ha⟩, rfl⟩
  | succ k ih =>
    rw [wgo, minO]
    unfold wstep
    have e9 : fwC s f O k = if O.testBit k = true ∧ 0 < (f (s ||| 2 ^ k)).2.1 then some ((f (s ||| 2 ^ k)).2.2.1 + 1) else none := rfl
    by_cases e : O.testBit k = true ∧ 0 < (f (s ||| 2 ^ k)).2.1
    · rw [if_pos e] at e9 ⊢
      rw [e9]
      cases e1 : minO (fwC s f O) k with
      | none =>
        have h0 := ih.1.mpr e1
        refine ⟨⟨fun h => absurd h (or_pow_ne _ _), fun h => by cases h⟩, ?_⟩
        show (if (wgo s f O a k).1 = 0 then _ else _) = _
        rw [if_pos h0]; rfl
      | some m =>
        have h0 : ¬ (wgo s f O a k).1 = 0 := fun h => by rw [ih.1.mp h] at e1; cases e1
        have h1 : (wgo s f O a k).2.2.1 = m := by rw [ih.2, e1]; rfl
        refine ⟨⟨fun h => absurd h (or_pow_ne _ _), fun h => by cases h⟩, ?_⟩
        show (if (wgo s f O a k).1 = 0 then _ else _) = _
        rw [if_neg h0, h1]
        rfl
    · rw [if_neg e] at e9 ⊢
      rw [e9, omin_r]
      exact ih
/-- the fewest visits by a place; from a set -/
def fewC (n : Nat) (H : Nat → Nat → Bool) (s p : Nat) : Option Nat := if canV n H s p = true ∧ 0 < (wOf n H (s ||| 2 ^ p)).2.1 then some ((wOf n H (s ||| 2 ^ p)).2.2.1 + 1) else none
def fewO (n : Nat) (H : Nat → Nat → Bool) (s : Nat) : Option Nat := minO (fewC n H s) n
section FO
variable {n : Nat} {H : Nat → Nat → Bool} {s : Nat}
theorem fwC_in {p : Nat} (hp : p < n) : fwC s (wOf n H) (opn n H s) p = fewC n H s p := by
  unfold fwC fewC
  rw [opn_bit]
  simp [hp]
theorem fwC_out {p : Nat} (hp : n ≤ p) : fwC s (wOf n H) (opn n H s) p = none := by
  unfold fwC
  rw [opn_bit, if_neg]
  have : ¬ p < n := by omega
  simp [this]
theorem fwO_eq (hn : n ≤ 10) : minO (fwC s (wOf n H) (opn n H s)) 10 = fewO n H s := by
  have h := minO_ext (v := fwC s (wOf n H) (opn n H s)) (n := n) (fun p hp => fwC_out hp) (10 - n)
  rw [show n + (10 - n) = 10 by omega] at h
  rw [h]
  exact minO_cong (fun p hp => fwC_in hp)
theorem wOf_few (hn : n ≤ 10) (hs : s < 2 ^ n) : (wOf n H s).2.2.1 = (fewO n H s).getD 0 := by
  rw [wOf_eq n H hs]
  unfold wst
  have h := (wgo_few (s := s) (f := wOf n H) (O := opn n H s) (a := if s.testBit (n - 1) = true then (0, 1, 0, 0) else (0, 0, 0, 2 ^ n - 1)) (by split <;> rfl) 10).2
  rw [h, fwO_eq hn]
  congr 1
  split <;> rfl
theorem wOf_ord (hn : n ≤ 10) (hs : s < 2 ^ n) (hc : s.testBit (n - 1) = false) : (wOf n H s).2.1 = sumN (fun p => if canV n H s p = true then (wOf n H (s ||| 2 ^ p)).2.1 else 0) n := by
  rw [wOf_eq n H hs]
  unfold wst
  rw [wgo_ord, hc, if_neg (by decide)]
  show 0 + _ = _
  rw [Nat.zero_add]
  have h := sumN_ext (v := fun p => if (opn n H s).testBit p = true then (wOf n H (s ||| 2 ^ p)).2.1 else 0) (n := n) (fun p hp => by
    have : ¬ p < n := by omega
    rw [opn_bit]
    simp [this]) (10 - n)
  rw [show n + (10 - n) = 10 by omega] at h
  rw [h]
  refine sumN_cong (fun p hp => ?_)
  rw [opn_bit]
  simp [hp]
theorem fewO_none (h2 : 2 ≤ n) (hn : n ≤ 10) (hs : s < 2 ^ n) (hc : s.testBit (n - 1) = false) : fewO n H s = none ↔ fin n H none s = false := by
  unfold fewO
  rw [minO_none]
  constructor
  · intro h
    cases e : fin n H none s with
    | false => rfl
    | true =>
      rcases (fin_iff h2 hs).mp e with h1 | ⟨p, hp, h1, h3⟩
      · rw [hc] at h1; cases h1
      · have h4 := (wOf_pos (H := H) h2 hn (2 ^ n) (s ||| 2 ^ p) (or_lt hs hp) (by omega)).mpr h3
        have h5 := h p hp
        unfold fewC at h5
        rw [if_pos ⟨h1, h4⟩] at h5
        cases h5
  · intro h p hp
    unfold fewC
    rw [if_neg]
    intro h1
    have h4 := (wOf_pos (H := H) h2 hn (2 ^ n) (s ||| 2 ^ p) (or_lt hs hp) (by omega)).mp h1.2
    rw [(fin_iff h2 hs).mpr (Or.inr ⟨p, hp, h1.1, h4⟩)] at h
    cases h
theorem fewC_le (h2 : 2 ≤ n) (hn : n ≤ 10) (hs : s < 2 ^ n) {p x : Nat} (hp : p < n) (h : fewC n H s p = some x) : x ≤ 11 := by
  unfold fewC at h
  by_cases e : canV n H s p = true ∧ 0 < (wOf n H (s ||| 2 ^ p)).2.1
  · rw [if_pos e] at h
    have h9 := (wOf_small H h2 hn (or_lt hs hp)).2.2.1
    have := Option.some.inj h
    omega
  · rw [if_neg e] at h; cases h
theorem or_chest (hs : s.testBit (n - 1) = false) {p : Nat} (hp : p < n - 1) : (s ||| 2 ^ p).testBit (n - 1) = false := by
  rw [Nat.testBit_or, hs, Nat.testBit_two_pow]
  have : ¬ p = n - 1 := by omega
  simp [this]
theorem fewC_map (h2 : 2 ≤ n) (hn : n ≤ 10) (hs : s < 2 ^ n) (hc : s.testBit (n - 1) = false) {p : Nat} (hp : p < n - 1) (hv : canV n H s p = true) : fewC n H s p = (fewO n H (s ||| 2 ^ p)).map (· + 1) := by
  have hlt : s ||| 2 ^ p < 2 ^ n := or_lt hs (by omega)
  have h1 := wOf_pos (H := H) h2 hn (2 ^ n) (s ||| 2 ^ p) hlt (by omega)
  have h3 := fewO_none (H := H) h2 hn hlt (or_chest hc hp)
  have h4 := wOf_few (H := H) hn hlt
  unfold fewC
  cases e : fewO n H (s ||| 2 ^ p) with
  | none =>
    rw [if_neg]
    · rfl
    · intro h
      rw [h1.mp h.2] at h3
      have := h3.mp e
      cases this
  | some m =>
    rw [e] at h4
    rw [if_pos, h4]
    · rfl
    · refine ⟨hv, h1.mpr ?_⟩
      cases e2 : fin n H none (s ||| 2 ^ p) with
      | true => rfl
      | false => rw [h3.mpr e2] at e; cases e
theorem canV_chest (hc : s.testBit (n - 1) = false) : canV n H s (n - 1) = H (n - 1) s := by
  unfold canV
  rw [hc]; rfl
theorem chest_end (hs : s < 2 ^ n) (h2 : 2 ≤ n) : wOf n H (s ||| 2 ^ (n - 1)) = (0, 1, 0, 0) := wOf_end (or_lt hs (by omega)) (by rw [Nat.testBit_or, Nat.testBit_two_pow_self]; simp)
theorem fewC_chest (h2 : 2 ≤ n) (hs : s < 2 ^ n) (hc : s.testBit (n - 1) = false) : fewC n H s (n - 1) = if H (n - 1) s = true then some 1 else none := by
  unfold fewC
  rw [chest_end hs h2, canV_chest hc]
  cases H (n - 1) s <;> simp
end FO
