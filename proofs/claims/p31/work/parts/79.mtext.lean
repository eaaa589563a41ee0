/-! PURE: the reference reads a text. -/
def mapF (x y : Nat) (r : Nat × Option aF) : Nat × Option aP := (r.1, match r.2 with
  | none => none
  | some F => some (x, y, cT F))
def pl1 (tx : List Nat) (D : List aP) (i : Nat) : Nat × Option aP := if i < tx.length ∧ tx.getD i 0 = 47 ∧ D.length < 10 then (if i + 1 < tx.length ∧ dig (tx.getD (i + 1) 0) = true then (if i + 1 + 1 < tx.length ∧ dig (tx.getD (i + 1 + 1) 0) = true then mapF (tx.getD (i + 1) 0 - 48) (tx.getD (i + 1 + 1) 0 - 48) (cR tx D.length (tx.length - (i + 1 + 2)) (i + 1 + 2) 4 (f0 0) []) else (i + 1 + 1, none)) else (i + 1, none)) else (i, none)
def pl2 (tx : List Nat) (d : Nat) (D : List aP) (z : Nat × Option aP) : Nat × Option (List aP) := match z.2 with
  | none => (z.1, none)
  | some w => if z.1 = tx.length ∧ 2 ≤ D.length + 1 then (z.1, some (D ++ [w])) else tR tx d z.1 (D ++ [w])
theorem tR_pl (tx : List Nat) (d i : Nat) (D : List aP) : tR tx (d + 1) i D = pl2 tx d D (pl1 tx D i) := by
  show (if i < tx.length ∧ tx.getD i 0 = 47 ∧ D.length < 10 then plc tx (tR tx d) D (i + 1) else (i, none)) = _
  unfold pl1
  by_cases h1 : i < tx.length ∧ tx.getD i 0 = 47 ∧ D.length < 10
  · rw [if_pos h1, if_pos h1]
    unfold plc
    by_cases h2 : i + 1 < tx.length ∧ dig (tx.getD (i + 1) 0) = true
    · rw [if_pos h2, if_pos h2]
      by_cases h3 : i + 1 + 1 < tx.length ∧ dig (tx.getD (i + 1 + 1) 0) = true
      · rw [if_pos h3, if_pos h3]
        generalize cR tx D.length (tx.length - (i + 1 + 2)) (i + 1 + 2) 4 (f0 0) [] = r
        obtain ⟨j, o⟩ := r
        cases o with
        | none => rfl
        | some F => rfl
      · rw [if_neg h3, if_neg h3]; rfl
    · rw [if_neg h2, if_neg h2]; rfl
  · rw [if_neg h1, if_neg h1]; rfl
section MT
variable {tx : List Nat} {lays : Bool}
def plR (tx : List Nat) (lays : Bool) (g : gG) (i : Nat) (D : List aP) (y : Option (Unit × gG)) (z : Nat × Option aP) : Prop := (z.2 = none → ∃ g', y = some ((), g') ∧ mc g' z.1 false ∧ frX g g') ∧ ∀ w, z.2 = some w → ∃ g', y = some ((), g') ∧ mc g' z.1 true ∧ frX g g' ∧ rdM lays g' (D ++ [w]) ∧ i ≤ z.1 ∧ z.1 ≤ tx.length ∧ (z.1 < tx.length → tx.getD z.1 0 = 47)
theorem plR_no {g : gG} {i j : Nat} {D : List aP} {y : Option (Unit × gG)} (h : ∃ g', y = some ((), g') ∧ mc g' j false ∧ frX g g') : plR tx lays g i D y (j, none) := ⟨fun _ => h, fun w hw => by cases hw⟩
theorem plR_tr {g g' : gG} {i j : Nat} {D : List aP} {y y' : Option (Unit × gG)} {z : Nat × Option aP} (e : y = y') (f : frX g g') (hij : i ≤ j) (h : plR tx lays g' j D y' z) : plR tx lays g i D y z := by
  subst e
  refine ⟨fun hz => ?_, fun w hz => ?_⟩
  · obtain ⟨g2, e2, m2, f2⟩ := h.1 hz
    exact ⟨g2, e2, m2, f.tr f2⟩
  · obtain ⟨g2, e2, m2, f2, r2, l1, l2, l3⟩ := h.2 w hz
    exact ⟨g2, e2, m2, f.tr f2, r2, Nat.le_trans hij l1, l2, l3⟩
/-- the row with one place more -/
theorem rdM_app {g g' : gG} {D : List aP} {w : aP} (h : rdM lays g D) (e0 : g'.1 176 0 = nI (D.length + 1)) (e1 : g'.1 176 1 = g.1 176 1) (hy : lays = true → (g'.1 176 (2 + 2 * D.length) = nI w.1 ∧ g'.1 176 (3 + 2 * D.length) = nI w.2.1 ∧ bitsM (g'.1 176) D.length 1024 w.2.2) ∧ ∀ p, p < D.length → g'.1 176 (2 + 2 * p) = g.1 176 (2 + 2 * p) ∧ g'.1 176 (3 + 2 * p) = g.1 176 (3 + 2 * p) ∧ ∀ q, 22 + 32 * p ≤ q → q < 54 + 32 * p → g'.1 176 q = g.1 176 q) : rdM lays g' (D ++ [w]) := by
  obtain ⟨h0, h1, h2⟩ := h
  refine ⟨?_, e1.trans h1, fun hl p z hz => ?_⟩
  · rw [e0, List.length_append]; rfl
  · obtain ⟨y1, y2⟩ := hy hl
    by_cases ej : p < D.length
    · rw [List.getElem?_append_left ej] at hz
      obtain ⟨q1, q2, q3⟩ := h2 hl p z hz
      obtain ⟨r1, r2, r3⟩ := y2 p ej
      refine ⟨r1.trans q1, r2.trans q2, fun s hs => ?_⟩
      rw [r3 _ (by omega) (by omega)]
      exact q3 s hs
    · have hlt := (List.getElem?_eq_some_iff.mp hz).1
      rw [List.length_append] at hlt
      have hlt : p < D.length + 1 := hlt
      have e : p = D.length := by omega
      subst e
      have e8 : w = z := by simpa using hz
      subst e8
      exact y1
end MT
