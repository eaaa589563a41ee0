/-! PURE: the reference reads a condition to its end. -/
section MC
variable {tx : List Nat} {s told : Nat}
def mcR (tx : List Nat) (told s i : Nat) (g : gG) (y : Option (Int32 × gG)) (z : Nat × Option aF) : Prop := (z.2 = none → ∃ g', y = some (0, g') ∧ mc g' z.1 false ∧ frQ g g') ∧ ∀ F', z.2 = some F' → ∃ g', y = some (b2 (cT F' (s % 512)), g') ∧ mc g' z.1 true ∧ frQ g g' ∧ i ≤ z.1 ∧ z.1 ≤ tx.length ∧ (z.1 < tx.length → tx.getD z.1 0 = 47)
theorem mcR_tr {g g' : gG} {i j : Nat} {y y' : Option (Int32 × gG)} {z : Nat × Option aF} (e : y = y') (f : frQ g g') (hij : i ≤ j) (h : mcR tx told s j g' y' z) : mcR tx told s i g y z := by
  subst e
  refine ⟨fun hz => ?_, fun F' hz => ?_⟩
  · obtain ⟨g2, e2, m2, f2⟩ := h.1 hz
    exact ⟨g2, e2, m2, f.tr f2⟩
  · obtain ⟨g2, e2, m2, f2, l1, l2, l3⟩ := h.2 F' hz
    exact ⟨g2, e2, m2, f.tr f2, Nat.le_trans hij l1, l2, l3⟩
end MC
