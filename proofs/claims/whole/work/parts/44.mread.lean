/-! PURE: what the reference reads of sets and of all teams. -/
theorem m_low_l {s : Nat} (g : gG) (d : Nat) : ∀ i fu, i + d = 10 → d < fu → fb_X10_smallest_2 fu (nI s) (nI i) g = some (fLow s d i, g) := by
  induction d with
  | zero =>
    intro i fu hi hf
    obtain ⟨fu, rfl⟩ : ∃ f', fu = f' + 1 := ⟨fu - 1, by omega⟩
    have e : i = 10 := by omega
    subst e
    unfold fb_X10_smallest_2 fs_X10_smallest_2
    rw [if_pos (by decide)]
    rfl
  | succ d ih =>
    intro i fu hi hf
    obtain ⟨fu, rfl⟩ : ∃ f', fu = f' + 1 := ⟨fu - 1, by omega⟩
    unfold fb_X10_smallest_2 fs_X10_smallest_2
    rw [if_neg (show ¬ ((10 : Int32) ≤ nI i) from nI_ge (b := 10) (by omega) (by decide)), m_has (by omega)]
    simp only [ob_eq, gl_eq, nI_1]
    unfold fLow
    cases e : s.testBit i with
    | true => rw [if_neg (by decide)]; simp
    | false => rw [if_pos (by decide), ih (i + 1) fu (by omega) (by omega)]; simp
theorem m_low {s : Nat} (g : gG) : f_X10_smallest (nI s) g = some (fLow s 10 0, g) := by
  unfold f_X10_smallest
  exact m_low_l g 10 0 gFuel (by omega) (by unfold gFuel; omega)
section MR
variable {g : gG} {n : Nat} {S : aS} {hm : Nat → Nat}
theorem m_any_l (h : mS (g.1 183) n hm S) (ok : okS n S) (hn : n ≤ 10) (d : Nat) : ∀ i c fu, i + d = S.2.2.2.length → d < fu → fb_X10_allVisited_4 fu (nI c) (nI i) g = some (nI (fAny (S.2.2.2.drop i) c), g) := by
  have h1 : g.1 183 1 = nI S.2.2.2.length := h.2.1
  have c1 : (1 : Int32).toNatClampNeg = 1 := by decide
  have hT := ok.2.1
  induction d with
  | zero =>
    intro i c fu hi hf
    obtain ⟨fu, rfl⟩ : ∃ f', fu = f' + 1 := ⟨fu - 1, by omega⟩
    have e : i = S.2.2.2.length := by omega
    subst e
    unfold fb_X10_allVisited_4 fs_X10_allVisited_4
    rw [if_pos (show inb 1 394 = true by decide), c1, h1, if_pos (nI_le (Nat.le_refl _) (by omega)), List.drop_length]
    rfl
  | succ d ih =>
    intro i c fu hi hf
    obtain ⟨fu, rfl⟩ : ∃ f', fu = f' + 1 := ⟨fu - 1, by omega⟩
    obtain ⟨tm, htm⟩ := get_lt (l := S.2.2.2) (t := i) (by omega)
    unfold fb_X10_allVisited_4 fs_X10_allVisited_4
    rw [if_pos (show inb 1 394 = true by decide), c1, h1, if_neg (nI_ge (by omega) (by omega)), m_visited h ok hn htm]
    simp only [ob_eq, gl_eq, nI_1, fa_or]
    rw [dropC htm, ih (i + 1) _ fu (by omega) (by omega)]
    rfl
theorem m_any (h : mS (g.1 183) n hm S) (ok : okS n S) (hn : n ≤ 10) : f_X10_allVisited g = some (nI (fAny S.2.2.2 0), g) := by
  unfold f_X10_allVisited
  exact m_any_l h ok hn S.2.2.2.length 0 0 gFuel (by omega) (by have := ok.2.1; unfold gFuel; omega)
end MR
