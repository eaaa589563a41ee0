/-! PURE: how the reference changes a state. -/
section MM
variable {g : gG} {r n : Nat} {hm : Nat → Nat} {X Y : Nat → Nat} {E : Nat} {T : List aT}
theorem r_self (g : gG) (r i : Nat) (v : Int32) (j : Nat) : (gI1 g r i v).1 r j = if j = i then v else g.1 r j := by rw [gI1_1, if_pos rfl]; rfl
theorem mH_fr {f f' : Nat → Int32} {n : Nat} {H : Nat → Nat → Bool} (hn : n ≤ 10) (h : mH f n H) (e : ∀ j, (j = 0 ∨ (22 ≤ j ∧ j < 342)) → f' j = f j) : mH f' n H := by
  refine ⟨?_, ?_⟩
  · rw [e 0 (Or.inl rfl)]; exact h.1
  · intro p s hp hs
    rw [e _ (Or.inr (by omega))]
    exact h.2 p s hp hs
end MM
