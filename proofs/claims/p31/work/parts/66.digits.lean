/-! PURE: the digits of a command, and the branch that it takes on either side (printed by a program out of the class's and the reference's own functions). -/
section DG
variable {c : Nat}
theorem dg1 (hc : c < 10000) : nI c / (1000 : Int32) = nI (c / 1000) := pk_div (d := 1000) (by omega) (by decide) (by decide)
theorem dg2 (hc : c < 10000) : (nI c / (100 : Int32)) - (nI c / (100 : Int32)) / (10 : Int32) * (10 : Int32) = nI (c / 100 % 10) := by
  rw [show nI c / (100 : Int32) = nI (c / 100) from pk_div (d := 100) (by omega) (by decide) (by decide)]
  exact pk_rem (d := 10) (by omega) (by decide) (by decide)
theorem dg3 (hc : c < 10000) : (nI c / (10 : Int32)) - (nI c / (10 : Int32)) / (10 : Int32) * (10 : Int32) = nI (c / 10 % 10) := by
  rw [show nI c / (10 : Int32) = nI (c / 10) from pk_div (d := 10) (by omega) (by decide) (by decide)]
  exact pk_rem (d := 10) (by omega) (by decide) (by decide)
theorem dg4 (hc : c < 10000) : nI c - nI c / (10 : Int32) * (10 : Int32) = nI (c % 10) := pk_rem (d := 10) (by omega) (by decide) (by decide)
theorem succ_0 (hc : c < 10000) (hk : c / 1000 = 0) (g : gG) : f_X3_succeeds (nI c) g = (some ((0 : Int32), g)) := by
  unfold f_X3_succeeds
  simp only [gl_eq]
  rw [dg1 hc, dg2 hc, dg3 hc, dg4 hc, hk, if_neg (show ¬ (nI 0 = (1 : Int32)) by decide), if_neg (show ¬ (nI 0 = (2 : Int32)) by decide), if_neg (show ¬ (nI 0 = (3 : Int32)) by decide), if_neg (show ¬ (nI 0 = (4 : Int32)) by decide), if_neg (show ¬ (nI 0 = (5 : Int32)) by decide), if_neg (show ¬ (nI 0 = (6 : Int32)) by decide), if_neg (show ¬ (nI 0 = (7 : Int32)) by decide), if_neg (show ¬ (nI 0 = (8 : Int32)) by decide), if_neg (show ¬ (nI 0 = (9 : Int32)) by decide)]
theorem succ_1 (hc : c < 10000) (hk : c / 1000 = 1) (g : gG) : f_X3_succeeds (nI c) g = (if (nI (c % 10)) = (0 : Int32) then ((f_X3_visits (nI (c / 100 % 10)) (nI (c / 10 % 10)) g).bind (fun u6 => if u6.1 = (0 : Int32) then (some ((0 : Int32), u6.2)) else (some ((1 : Int32), u6.2)))) else (some ((0 : Int32), g))) := by
  unfold f_X3_succeeds
  simp only [gl_eq]
  rw [dg1 hc, dg2 hc, dg3 hc, dg4 hc, hk, if_pos (show nI 1 = (1 : Int32) from rfl)]
theorem succ_2 (hc : c < 10000) (hk : c / 1000 = 2) (g : gG) : f_X3_succeeds (nI c) g = (if (nI (c / 10 % 10)) = (0 : Int32) then (if (nI (c % 10)) = (0 : Int32) then ((f_X3_getsHint (nI (c / 100 % 10)) g).bind (fun u11 => if u11.1 = (0 : Int32) then (some ((0 : Int32), u11.2)) else (some ((1 : Int32), u11.2)))) else (some ((0 : Int32), g))) else (some ((0 : Int32), g))) := by
  unfold f_X3_succeeds
  simp only [gl_eq]
  rw [dg1 hc, dg2 hc, dg3 hc, dg4 hc, hk, if_neg (show ¬ (nI 2 = (1 : Int32)) by decide), if_pos (show nI 2 = (2 : Int32) from rfl)]
theorem succ_3 (hc : c < 10000) (hk : c / 1000 = 3) (g : gG) : f_X3_succeeds (nI c) g = (if (nI (c / 100 % 10)) = (0 : Int32) then (if (nI (c / 10 % 10)) = (0 : Int32) then (if (nI (c % 10)) = (0 : Int32) then ((f_X3_enrols g).bind (fun u17 => if u17.1 = (0 : Int32) then (some ((0 : Int32), u17.2)) else (some ((1 : Int32), u17.2)))) else (some ((0 : Int32), g))) else (some ((0 : Int32), g))) else (some ((0 : Int32), g))) := by
  unfold f_X3_succeeds
  simp only [gl_eq]
  rw [dg1 hc, dg2 hc, dg3 hc, dg4 hc, hk, if_neg (show ¬ (nI 3 = (1 : Int32)) by decide), if_neg (show ¬ (nI 3 = (2 : Int32)) by decide), if_pos (show nI 3 = (3 : Int32) from rfl)]
theorem succ_4 (hc : c < 10000) (hk : c / 1000 = 4) (g : gG) : f_X3_succeeds (nI c) g = (if (nI (c / 10 % 10)) = (0 : Int32) then (if (nI (c % 10)) = (0 : Int32) then ((f_X3_givesUp (nI (c / 100 % 10)) g).bind (fun u22 => if u22.1 = (0 : Int32) then (some ((0 : Int32), u22.2)) else (some ((1 : Int32), u22.2)))) else (some ((0 : Int32), g))) else (some ((0 : Int32), g))) := by
  unfold f_X3_succeeds
  simp only [gl_eq]
  rw [dg1 hc, dg2 hc, dg3 hc, dg4 hc, hk, if_neg (show ¬ (nI 4 = (1 : Int32)) by decide), if_neg (show ¬ (nI 4 = (2 : Int32)) by decide), if_neg (show ¬ (nI 4 = (3 : Int32)) by decide), if_pos (show nI 4 = (4 : Int32) from rfl)]
theorem succ_5 (hc : c < 10000) (hk : c / 1000 = 5) (g : gG) : f_X3_succeeds (nI c) g = (if (nI (c % 10)) = (0 : Int32) then ((f_X3_isSafe (nI (c / 100 % 10)) (nI (c / 10 % 10)) g).bind (fun u26 => if u26.1 = (0 : Int32) then (some ((0 : Int32), u26.2)) else (some ((1 : Int32), u26.2)))) else (some ((0 : Int32), g))) := by
  unfold f_X3_succeeds
  simp only [gl_eq]
  rw [dg1 hc, dg2 hc, dg3 hc, dg4 hc, hk, if_neg (show ¬ (nI 5 = (1 : Int32)) by decide), if_neg (show ¬ (nI 5 = (2 : Int32)) by decide), if_neg (show ¬ (nI 5 = (3 : Int32)) by decide), if_neg (show ¬ (nI 5 = (4 : Int32)) by decide), if_pos (show nI 5 = (5 : Int32) from rfl)]
theorem succ_6 (hc : c < 10000) (hk : c / 1000 = 6) (g : gG) : f_X3_succeeds (nI c) g = ((f_X5_hasTeam 165 (nI (c / 100 % 10)) g).bind (fun u29 => if u29.1 = (0 : Int32) then (some ((0 : Int32), u29.2)) else ((f_X5_minutesOf 165 (nI (c / 100 % 10)) u29.2).bind (fun u31 => if (((10 : Int32) * (nI (c / 10 % 10))) + (nI (c % 10))) < u31.1 then (some ((0 : Int32), u31.2)) else (some ((1 : Int32), u31.2)))))) := by
  unfold f_X3_succeeds
  simp only [gl_eq]
  rw [dg1 hc, dg2 hc, dg3 hc, dg4 hc, hk, if_neg (show ¬ (nI 6 = (1 : Int32)) by decide), if_neg (show ¬ (nI 6 = (2 : Int32)) by decide), if_neg (show ¬ (nI 6 = (3 : Int32)) by decide), if_neg (show ¬ (nI 6 = (4 : Int32)) by decide), if_neg (show ¬ (nI 6 = (5 : Int32)) by decide), if_pos (show nI 6 = (6 : Int32) from rfl)]
theorem succ_7 (hc : c < 10000) (hk : c / 1000 = 7) (g : gG) : f_X3_succeeds (nI c) g = ((f_X3_moves (nI (c / 100 % 10)) (nI (c / 10 % 10)) (nI (c % 10)) g).bind (fun u34 => if gZb u34.1 = true then some (u34.1, u34.2) else none)) := by
  unfold f_X3_succeeds
  simp only [gl_eq]
  rw [dg1 hc, dg2 hc, dg3 hc, dg4 hc, hk, if_neg (show ¬ (nI 7 = (1 : Int32)) by decide), if_neg (show ¬ (nI 7 = (2 : Int32)) by decide), if_neg (show ¬ (nI 7 = (3 : Int32)) by decide), if_neg (show ¬ (nI 7 = (4 : Int32)) by decide), if_neg (show ¬ (nI 7 = (5 : Int32)) by decide), if_neg (show ¬ (nI 7 = (6 : Int32)) by decide), if_pos (show nI 7 = (7 : Int32) from rfl)]
theorem succ_8 (hc : c < 10000) (hk : c / 1000 = 8) (g : gG) : f_X3_succeeds (nI c) g = (if (nI (c / 10 % 10)) = (0 : Int32) then (if (nI (c % 10)) = (0 : Int32) then ((f_X3_eases (nI (c / 100 % 10)) g).bind (fun u38 => if u38.1 = (0 : Int32) then (some ((0 : Int32), u38.2)) else (some ((1 : Int32), u38.2)))) else (some ((0 : Int32), g))) else (some ((0 : Int32), g))) := by
  unfold f_X3_succeeds
  simp only [gl_eq]
  rw [dg1 hc, dg2 hc, dg3 hc, dg4 hc, hk, if_neg (show ¬ (nI 8 = (1 : Int32)) by decide), if_neg (show ¬ (nI 8 = (2 : Int32)) by decide), if_neg (show ¬ (nI 8 = (3 : Int32)) by decide), if_neg (show ¬ (nI 8 = (4 : Int32)) by decide), if_neg (show ¬ (nI 8 = (5 : Int32)) by decide), if_neg (show ¬ (nI 8 = (6 : Int32)) by decide), if_neg (show ¬ (nI 8 = (7 : Int32)) by decide), if_pos (show nI 8 = (8 : Int32) from rfl)]
theorem succ_9 (hc : c < 10000) (hk : c / 1000 = 9) (g : gG) : f_X3_succeeds (nI c) g = (if (nI (c % 10)) = (0 : Int32) then ((f_X5_hasTeam 165 (nI (c / 100 % 10)) g).bind (fun u42 => if u42.1 = (0 : Int32) then (some ((0 : Int32), u42.2)) else ((f_X5_visitsOf 165 (nI (c / 100 % 10)) u42.2).bind (fun u44 => if u44.1 < (nI (c / 10 % 10)) then (some ((0 : Int32), u44.2)) else (some ((1 : Int32), u44.2)))))) else (some ((0 : Int32), g))) := by
  unfold f_X3_succeeds
  simp only [gl_eq]
  rw [dg1 hc, dg2 hc, dg3 hc, dg4 hc, hk, if_neg (show ¬ (nI 9 = (1 : Int32)) by decide), if_neg (show ¬ (nI 9 = (2 : Int32)) by decide), if_neg (show ¬ (nI 9 = (3 : Int32)) by decide), if_neg (show ¬ (nI 9 = (4 : Int32)) by decide), if_neg (show ¬ (nI 9 = (5 : Int32)) by decide), if_neg (show ¬ (nI 9 = (6 : Int32)) by decide), if_neg (show ¬ (nI 9 = (7 : Int32)) by decide), if_neg (show ¬ (nI 9 = (8 : Int32)) by decide), if_pos (show nI 9 = (9 : Int32) from rfl)]
theorem le_lt {a b : Nat} (ha : a < 2 ^ 31) (hb : b < 2 ^ 31) {α : Type} (x y : α) : (if nI a ≤ nI b then x else y) = if decide (b < a) = true then y else x := by
  by_cases h : b < a
  · rw [if_neg (nI_ge h ha), decide_eq_true h, if_pos rfl]
  · rw [if_pos (nI_le (by omega) hb), decide_eq_false h, if_neg (by decide)]
end DG
