/-! PURE: the class's checks of places and teams. -/
theorem c_reqTeam {g : gG} {n : Nat} {S : aS} (h : cS g 16 S) (ok : okS n S) (x : Int32) : f_X9_requireTeam x g = some (if isT S x = true then .inl () else .inr 3, g) := by
  unfold f_X9_requireTeam
  rw [c_hasTeam h ok.2.1]
  simp only [ob_eq]
  cases isT S x with
  | true => rw [b2_t, if_neg (by decide), if_pos rfl]
  | false => rw [b2_f, if_pos rfl, if_neg (by decide)]
theorem c_reqPlace {g : gG} {n : Nat} {hm : Nat → Nat} (hH : cH g n hm) (hn : n ≤ 10) (x : Int32) : f_X9_requirePlace x g = some (if decide (0 ≤ x.toInt ∧ x.toInt < n) = true then .inl () else .inr 3, g) := by
  unfold f_X9_requirePlace
  rw [c_hasPlace hH hn]
  simp only [ob_eq]
  cases decide (0 ≤ x.toInt ∧ x.toInt < n) with
  | true => rw [b2_t, if_neg (by decide), if_pos rfl]
  | false => rw [b2_f, if_pos rfl, if_neg (by decide)]
