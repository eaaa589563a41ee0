/-! PURE: undo, save slots, append. -/
def setK (K : Nat → Option aS) (i : Nat) (S : aS) : Nat → Option aS := fun j => if j = i then some S else K j
theorem setK_1 {K : Nat → Option aS} {i j : Nat} {S : aS} (h : j = i) : setK K i S j = some S := if_pos h
theorem setK_2 {K : Nat → Option aS} {i j : Nat} {S : aS} (h : ¬ j = i) : setK K i S j = K j := if_neg h
section US
variable {tx : List Nat} {n : Nat} {hm : Nat → Nat} {S : aS} {L : List aS} {K : Nat → Option aS}
theorem slot_two {a : Int32} : decide (0 ≤ a.toInt ∧ a.toInt ≤ ((1 : Nat) : Int)) = true → a = nI 0 ∨ a = nI 1 := by
  intro h
  obtain ⟨j, hj, rfl⟩ := in_nI h
  have : j = 0 ∨ j = 1 := by omega
  rcases this with rfl | rfl
  · exact Or.inl rfl
  · exact Or.inr rfl
theorem slot_no {a : Int32} (h : decide (0 ≤ a.toInt ∧ a.toInt ≤ ((1 : Nat) : Int)) = false) (g : gG) : f_X9_requireSlot a g = some (.inr 3, g) := by
  have h3 := of_decide_eq_false h
  have e1 : (0 : Int32).toInt = 0 := rfl
  have e2 : (2 : Int32).toInt = 2 := rfl
  unfold f_X9_requireSlot fs_X9_requireSlot_9
  by_cases h0 : a < 0
  · rw [if_pos h0]
  · rw [if_neg h0, if_neg]
    rw [Int32.lt_iff_toInt_lt] at h0 ⊢
    omega
theorem slot_yes {i : Nat} (hi : i < 2) (g : gG) : f_X9_requireSlot (nI i) g = some (.inl (), g) := by
  unfold f_X9_requireSlot
  rw [if_neg (nI_pos (by omega)), if_pos (show nI i < (2 : Int32) from nI_lt (b := 2) hi (by decide))]
theorem c_copyS {g : gG} {k r : Nat} (h : cS g r S) (ok : okS n S) (hn : n ≤ 10) (hkr : k + 8 ≤ r ∨ r + 8 ≤ k) : ∃ g', f_X5_copyFrom k r g = some ((), g') ∧ cS g' k S ∧ frm k (k + 8) g g' := by
  obtain ⟨X, Y, E, T⟩ := S
  exact c_copyFrom h ok hn hkr
theorem char_small : ∀ c, c < 256 → vp_nar .char (((nI c).toUInt32 % 65536).toInt32) = nI c := by decide +kernel
end US
