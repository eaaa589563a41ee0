/-! PURE: the reference reads a place. -/
theorem dig_t : ∀ c, c < 256 → decide (0 ≤ (nI c - (48 : Int32)).toInt ∧ (nI c - (48 : Int32)).toInt ≤ ((9 : Nat) : Int)) = dig c := by decide +kernel
theorem b_one : ∀ j, j < 32 → bt 1 j = decide (j = 0) := by decide +kernel
def frX (g g' : gG) : Prop := (∀ j, j ≠ 174 → j ≠ 176 → (j < 177 ∨ 182 < j) → g'.1 j = g.1 j) ∧ (∀ q, q ≠ 3 → q ≠ 4 → q ≠ 12 → g'.1 174 q = g.1 174 q) ∧ g'.2 = g.2
theorem frX.rf {g : gG} : frX g g := ⟨fun _ _ _ _ => rfl, fun _ _ _ _ => rfl, rfl⟩
theorem frX.tr {g g' g'' : gG} (h : frX g g') (h2 : frX g' g'') : frX g g'' := ⟨fun j a b c => (h2.1 j a b c).trans (h.1 j a b c), fun q a b c => (h2.2.1 q a b c).trans (h.2.1 q a b c), h2.2.2.trans h.2.2⟩
theorem frX.q {g g' : gG} (h : frQ g g') : frX g g' := ⟨fun j a _ c => h.1 j a c, h.2.1, h.2.2⟩
theorem frX.i {g : gG} {i : Nat} {v : Int32} : frX g (gI1 g 176 i v) := ⟨fun j _ b _ => by rw [gI1_1, if_neg b], fun q _ _ _ => by rw [gI1_1, if_neg (by decide)], rfl⟩
theorem txM_X {g g' : gG} {tx : List Nat} (h : txM g tx) (f : frX g g') : txM g' tx := ⟨by rw [f.2.1 2 (by decide) (by decide) (by decide)]; exact h.1, fun j c hc => by rw [f.1 175 (by decide) (by decide) (by decide)]; exact h.2 j c hc⟩
theorem frQ_176 {g g' : gG} (h : frQ g g') : g'.1 176 = g.1 176 := h.1 176 (by decide) (by decide)
def bitsM (f : Nat → Int32) (p k : Nat) (T : Tr) : Prop := ∀ s, s < k → bt (f (22 + 32 * p + s / 32)) (s % 32) = T (s % 512)
def rdM (lays : Bool) (g : gG) (D : List aP) : Prop := g.1 176 0 = nI D.length ∧ g.1 176 1 = 0 ∧ (lays = true → ∀ p z, D[p]? = some z → g.1 176 (2 + 2 * p) = nI z.1 ∧ g.1 176 (3 + 2 * p) = nI z.2.1 ∧ bitsM (g.1 176) p 1024 z.2.2)
theorem rdM_eq {lays : Bool} {g g' : gG} {D : List aP} (h : rdM lays g D) (e : g'.1 176 = g.1 176) : rdM lays g' D := by
  unfold rdM
  rw [e]; exact h
section MP
variable {g : gG} {tx : List Nat} {i s told : Nat}
end MP
