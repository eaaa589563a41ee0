/-! PURE: the digits of a command, and the branch that it takes on either side (printed by a program out of the class's and the reference's own functions). -/
section DG
variable {c : Nat}
theorem dg1 (hc : c < 10000) : nI c / (1000 : Int32) = nI (c / 1000) := pk_div (d := 1000) (by omega) (by decide) (by decide)
theorem dg2 (hc : c < 10000) : (nI c / (100 : Int32)) - (nI c / (100 : Int32)) / (10 : Int32) * (10 : Int32) = nI (c / 100 % 10) := by
  rw [show nI c / (100 : Int32) = nI (c / 100) from pk_div (d := 100) (by omega) (by decide) (by decide)]
  exact pk_rem (d := 10) (by omega) (by decide) (by decide)
theorem dg3 (hc : c < 10000) : (nI c / (10 : Int32)) - (nI c / (10 : Int32)) / (10 : Int32) * (10 : Int32) = nI (c / 10 % 10) := by
  rw [show nI c / (10 : Int32) = nI (c / 10) from pk_div (d := 10) (by omega) (by decide) (by decide)]
  exact pk_rem (d := 10) (by omega) (by decide) (by decide)
theorem dg4 (hc : c < 10000) : nI c - nI c / (10 : Int32) * (10 : Int32) = nI (c % 10) := pk_rem (d := 10) (by omega) (by decide) (by decide)
theorem succ_0 (hc : c < 10000) (hk : c / 1000 = 0) (g : gG) : f_X3_succeeds (nI c) g = (some ((0 : Int32), g)) := by
  unfold f_X3_succeeds
  simp only [gl_eq]
  rw [dg1 hc, dg2 hc, dg3 hc, dg4 hc, hk, if_neg (show ¬ (nI 0 = (1 : Int32)) by decide), if_neg (show ¬ (nI 0 = (2 : Int32)) by decide), if_neg (show ¬ (nI 0 = (3 : Int32)) by decide), if_neg (show ¬ (nI 0 = (4 : Int32)) by decide), if_neg (show ¬ (nI 0 = (5 : Int32)) by decide), if_neg (show ¬ (nI 0 = (6 : Int32)) by decide), if_neg (show ¬ (nI 0 = (7 : Int32)) by decide), if_neg (show ¬ (nI 0 = (8 : Int32)) by decide), if_neg (show ¬ (nI 0 = (9 : Int32)) by decide)]
theorem does_0 (l1 l3 l4 l5 l6 l7 l8 s0 : Int32) (g : gG) : fs_X10_does_106 l1 (nI 0) l3 l4 l5 l6 l7 l8 s0 g = (some ((0 : Int32), g)) := by
  unfold fs_X10_does_106
  rw [if_neg (show ¬ (nI 0 = (1 : Int32)) by decide), if_neg (show ¬ (nI 0 = (2 : Int32)) by decide), if_neg (show ¬ (nI 0 = (3 : Int32)) by decide), if_neg (show ¬ (nI 0 = (4 : Int32)) by decide), if_neg (show ¬ (nI 0 = (5 : Int32)) by decide), if_neg (show ¬ (nI 0 = (6 : Int32)) by decide), if_neg (show ¬ (nI 0 = (7 : Int32)) by decide), if_neg (show ¬ (nI 0 = (8 : Int32)) by decide), if_neg (show ¬ (nI 0 = (9 : Int32)) by decide)]
theorem succ_1 (hc : c < 10000) (hk : c / 1000 = 1) (g : gG) : f_X3_succeeds (nI c) g = (if (nI (c % 10)) = (0 : Int32) then ((f_X3_visits (nI (c / 100 % 10)) (nI (c / 10 % 10)) g).bind (fun u6 => if u6.1 = (0 : Int32) then (some ((0 : Int32), u6.2)) else (some ((1 : Int32), u6.2)))) else (some ((0 : Int32), g))) := by
  unfold f_X3_succeeds
  simp only [gl_eq]
  rw [dg1 hc, dg2 hc, dg3 hc, dg4 hc, hk, if_pos (show nI 1 = (1 : Int32) from rfl)]
theorem does_1 (l1 l3 l4 l5 l6 l7 l8 s0 : Int32) (g : gG) : fs_X10_does_106 l1 (nI 1) l3 l4 l5 l6 l7 l8 s0 g = (if l8 = (0 : Int32) then (some ((0 : Int32), g)) else ((f_X10_visited 184 394 l3 g).bind (fun u3 => (f_X10_canVisit 184 394 u3.1 l4 u3.2).bind (fun u4 => if u4.1 = (0 : Int32) then (some ((0 : Int32), u4.2)) else ((f_X10_visit 184 394 l3 l4 u4.2).bind (fun u6 => some ((1 : Int32), u6.2))))))) := by
  unfold fs_X10_does_106
  rw [if_pos (show nI 1 = (1 : Int32) from rfl)]
theorem succ_2 (hc : c < 10000) (hk : c / 1000 = 2) (g : gG) : f_X3_succeeds (nI c) g = (if (nI (c / 10 % 10)) = (0 : Int32) then (if (nI (c % 10)) = (0 : Int32) then ((f_X3_getsHint (nI (c / 100 % 10)) g).bind (fun u11 => if u11.1 = (0 : Int32) then (some ((0 : Int32), u11.2)) else (some ((1 : Int32), u11.2)))) else (some ((0 : Int32), g))) else (some ((0 : Int32), g))) := by
  unfold f_X3_succeeds
  simp only [gl_eq]
  rw [dg1 hc, dg2 hc, dg3 hc, dg4 hc, hk, if_neg (show ¬ (nI 2 = (1 : Int32)) by decide), if_pos (show nI 2 = (2 : Int32) from rfl)]
theorem does_2 (l1 l3 l4 l5 l6 l7 l8 s0 : Int32) (g : gG) : fs_X10_does_106 l1 (nI 2) l3 l4 l5 l6 l7 l8 s0 g = (if l6 = (0 : Int32) then (some ((0 : Int32), g)) else (if s0 = (0 : Int32) then (some ((0 : Int32), g)) else ((f_X10_safeOf 184 394 l3 g).bind (fun u10 => if u10.1 = (0 : Int32) then (some ((0 : Int32), u10.2)) else ((f_X10_cell l3 (2 : Int32) u10.2).bind (fun u12 => if inb u12.1 394 = true then if inb u12.1 394 = true then gLet (gI1 u12.2 184 u12.1.toNatClampNeg ((u12.2.1 184 u12.1.toNatClampNeg) + (1 : Int32))) (fun g13 => some ((1 : Int32), g13)) else none else none)))))) := by
  unfold fs_X10_does_106
  rw [if_neg (show ¬ (nI 2 = (1 : Int32)) by decide), if_pos (show nI 2 = (2 : Int32) from rfl)]
theorem succ_3 (hc : c < 10000) (hk : c / 1000 = 3) (g : gG) : f_X3_succeeds (nI c) g = (if (nI (c / 100 % 10)) = (0 : Int32) then (if (nI (c / 10 % 10)) = (0 : Int32) then (if (nI (c % 10)) = (0 : Int32) then ((f_X3_enrols g).bind (fun u17 => if u17.1 = (0 : Int32) then (some ((0 : Int32), u17.2)) else (some ((1 : Int32), u17.2)))) else (some ((0 : Int32), g))) else (some ((0 : Int32), g))) else (some ((0 : Int32), g))) := by
  unfold f_X3_succeeds
  simp only [gl_eq]
  rw [dg1 hc, dg2 hc, dg3 hc, dg4 hc, hk, if_neg (show ¬ (nI 3 = (1 : Int32)) by decide), if_neg (show ¬ (nI 3 = (2 : Int32)) by decide), if_pos (show nI 3 = (3 : Int32) from rfl)]
theorem does_3 (l1 l3 l4 l5 l6 l7 l8 s0 : Int32) (g : gG) : fs_X10_does_106 l1 (nI 3) l3 l4 l5 l6 l7 l8 s0 g = (if l1 = (3000 : Int32) then ((f_X10_adds 184 394 g).bind (fun u16 => if u16.1 = (0 : Int32) then (some ((0 : Int32), u16.2)) else (some ((1 : Int32), u16.2)))) else (some ((0 : Int32), g))) := by
  unfold fs_X10_does_106
  rw [if_neg (show ¬ (nI 3 = (1 : Int32)) by decide), if_neg (show ¬ (nI 3 = (2 : Int32)) by decide), if_pos (show nI 3 = (3 : Int32) from rfl)]
theorem succ_4 (hc : c < 10000) (hk : c / 1000 = 4) (g : gG) : f_X3_succeeds (nI c) g = (if (nI (c / 10 % 10)) = (0 : Int32) then (if (nI (c % 10)) = (0 : Int32) then ((f_X3_givesUp (nI (c / 100 % 10)) g).bind (fun u22 => if u22.1 = (0 : Int32) then (some ((0 : Int32), u22.2)) else (some ((1 : Int32), u22.2)))) else (some ((0 : Int32), g))) else (some ((0 : Int32), g))) := by
  unfold f_X3_succeeds
  simp only [gl_eq]
  rw [dg1 hc, dg2 hc, dg3 hc, dg4 hc, hk, if_neg (show ¬ (nI 4 = (1 : Int32)) by decide), if_neg (show ¬ (nI 4 = (2 : Int32)) by decide), if_neg (show ¬ (nI 4 = (3 : Int32)) by decide), if_pos (show nI 4 = (4 : Int32) from rfl)]
theorem does_4 (l1 l3 l4 l5 l6 l7 l8 s0 : Int32) (g : gG) : fs_X10_does_106 l1 (nI 4) l3 l4 l5 l6 l7 l8 s0 g = (if l6 = (0 : Int32) then (some ((0 : Int32), g)) else (if s0 = (0 : Int32) then (some ((0 : Int32), g)) else ((f_X10_drop 184 394 l3 g).bind (fun u21 => some ((1 : Int32), u21.2))))) := by
  unfold fs_X10_does_106
  rw [if_neg (show ¬ (nI 4 = (1 : Int32)) by decide), if_neg (show ¬ (nI 4 = (2 : Int32)) by decide), if_neg (show ¬ (nI 4 = (3 : Int32)) by decide), if_pos (show nI 4 = (4 : Int32) from rfl)]
theorem succ_5 (hc : c < 10000) (hk : c / 1000 = 5) (g : gG) : f_X3_succeeds (nI c) g = (if (nI (c % 10)) = (0 : Int32) then ((f_X3_isSafe (nI (c / 100 % 10)) (nI (c / 10 % 10)) g).bind (fun u26 => if u26.1 = (0 : Int32) then (some ((0 : Int32), u26.2)) else (some ((1 : Int32), u26.2)))) else (some ((0 : Int32), g))) := by
  unfold f_X3_succeeds
  simp only [gl_eq]
  rw [dg1 hc, dg2 hc, dg3 hc, dg4 hc, hk, if_neg (show ¬ (nI 5 = (1 : Int32)) by decide), if_neg (show ¬ (nI 5 = (2 : Int32)) by decide), if_neg (show ¬ (nI 5 = (3 : Int32)) by decide), if_neg (show ¬ (nI 5 = (4 : Int32)) by decide), if_pos (show nI 5 = (5 : Int32) from rfl)]
theorem does_5 (l1 l3 l4 l5 l6 l7 l8 s0 : Int32) (g : gG) : fs_X10_does_106 l1 (nI 5) l3 l4 l5 l6 l7 l8 s0 g = (if l8 = (0 : Int32) then (some ((0 : Int32), g)) else ((f_X10_safeOf 184 394 l3 g).bind (fun u24 => (f_X10_has u24.1 l4 u24.2).bind (fun u25 => if u25.1 = (0 : Int32) then (some ((0 : Int32), u25.2)) else (some ((1 : Int32), u25.2)))))) := by
  unfold fs_X10_does_106
  rw [if_neg (show ¬ (nI 5 = (1 : Int32)) by decide), if_neg (show ¬ (nI 5 = (2 : Int32)) by decide), if_neg (show ¬ (nI 5 = (3 : Int32)) by decide), if_neg (show ¬ (nI 5 = (4 : Int32)) by decide), if_pos (show nI 5 = (5 : Int32) from rfl)]
theorem succ_6 (hc : c < 10000) (hk : c / 1000 = 6) (g : gG) : f_X3_succeeds (nI c) g = ((f_X5_hasTeam 165 (nI (c / 100 % 10)) g).bind (fun u29 => if u29.1 = (0 : Int32) then (some ((0 : Int32), u29.2)) else ((f_X5_minutesOf 165 (nI (c / 100 % 10)) u29.2).bind (fun u31 => if (((10 : Int32) * (nI (c / 10 % 10))) + (nI (c % 10))) < u31.1 then (some ((0 : Int32), u31.2)) else (some ((1 : Int32), u31.2)))))) := by
  unfold f_X3_succeeds
  simp only [gl_eq]
  rw [dg1 hc, dg2 hc, dg3 hc, dg4 hc, hk, if_neg (show ¬ (nI 6 = (1 : Int32)) by decide), if_neg (show ¬ (nI 6 = (2 : Int32)) by decide), if_neg (show ¬ (nI 6 = (3 : Int32)) by decide), if_neg (show ¬ (nI 6 = (4 : Int32)) by decide), if_neg (show ¬ (nI 6 = (5 : Int32)) by decide), if_pos (show nI 6 = (6 : Int32) from rfl)]
theorem does_6 (l1 l3 l4 l5 l6 l7 l8 s0 : Int32) (g : gG) : fs_X10_does_106 l1 (nI 6) l3 l4 l5 l6 l7 l8 s0 g = (if l6 = (0 : Int32) then (some ((0 : Int32), g)) else ((f_X10_cell l3 (1 : Int32) g).bind (fun u29 => if inb u29.1 394 = true then if (((10 : Int32) * l4) + l5) < (u29.2.1 184 u29.1.toNatClampNeg) then (some ((0 : Int32), u29.2)) else (some ((1 : Int32), u29.2)) else none))) := by
  unfold fs_X10_does_106
  rw [if_neg (show ¬ (nI 6 = (1 : Int32)) by decide), if_neg (show ¬ (nI 6 = (2 : Int32)) by decide), if_neg (show ¬ (nI 6 = (3 : Int32)) by decide), if_neg (show ¬ (nI 6 = (4 : Int32)) by decide), if_neg (show ¬ (nI 6 = (5 : Int32)) by decide), if_pos (show nI 6 = (6 : Int32) from rfl)]
theorem succ_7 (hc : c < 10000) (hk : c / 1000 = 7) (g : gG) : f_X3_succeeds (nI c) g = ((f_X3_moves (nI (c / 100 % 10)) (nI (c / 10 % 10)) (nI (c % 10)) g).bind (fun u34 => if gZb u34.1 = true then some (u34.1, u34.2) else none)) := by
  unfold f_X3_succeeds
  simp only [gl_eq]
  rw [dg1 hc, dg2 hc, dg3 hc, dg4 hc, hk, if_neg (show ¬ (nI 7 = (1 : Int32)) by decide), if_neg (show ¬ (nI 7 = (2 : Int32)) by decide), if_neg (show ¬ (nI 7 = (3 : Int32)) by decide), if_neg (show ¬ (nI 7 = (4 : Int32)) by decide), if_neg (show ¬ (nI 7 = (5 : Int32)) by decide), if_neg (show ¬ (nI 7 = (6 : Int32)) by decide), if_pos (show nI 7 = (7 : Int32) from rfl)]
theorem does_7 (l1 l3 l4 l5 l6 l7 l8 s0 : Int32) (g : gG) : fs_X10_does_106 l1 (nI 7) l3 l4 l5 l6 l7 l8 s0 g = (if l7 = (0 : Int32) then (some ((0 : Int32), g)) else (if inb ((2 : Int32) + ((2 : Int32) * l3)) 394 = true then gLet (gI1 g 184 ((2 : Int32) + ((2 : Int32) * l3)).toNatClampNeg l4) (fun g33 => if inb (((2 : Int32) + ((2 : Int32) * l3)) + (1 : Int32)) 394 = true then gLet (gI1 g33 184 (((2 : Int32) + ((2 : Int32) * l3)) + (1 : Int32)).toNatClampNeg l5) (fun g34 => some ((1 : Int32), g34)) else none) else none)) := by
  unfold fs_X10_does_106
  rw [if_neg (show ¬ (nI 7 = (1 : Int32)) by decide), if_neg (show ¬ (nI 7 = (2 : Int32)) by decide), if_neg (show ¬ (nI 7 = (3 : Int32)) by decide), if_neg (show ¬ (nI 7 = (4 : Int32)) by decide), if_neg (show ¬ (nI 7 = (5 : Int32)) by decide), if_neg (show ¬ (nI 7 = (6 : Int32)) by decide), if_pos (show nI 7 = (7 : Int32) from rfl)]
theorem succ_8 (hc : c < 10000) (hk : c / 1000 = 8) (g : gG) : f_X3_succeeds (nI c) g = (if (nI (c / 10 % 10)) = (0 : Int32) then (if (nI (c % 10)) = (0 : Int32) then ((f_X3_eases (nI (c / 100 % 10)) g).bind (fun u38 => if u38.1 = (0 : Int32) then (some ((0 : Int32), u38.2)) else (some ((1 : Int32), u38.2)))) else (some ((0 : Int32), g))) else (some ((0 : Int32), g))) := by
  unfold f_X3_succeeds
  simp only [gl_eq]
  rw [dg1 hc, dg2 hc, dg3 hc, dg4 hc, hk, if_neg (show ¬ (nI 8 = (1 : Int32)) by decide), if_neg (show ¬ (nI 8 = (2 : Int32)) by decide), if_neg (show ¬ (nI 8 = (3 : Int32)) by decide), if_neg (show ¬ (nI 8 = (4 : Int32)) by decide), if_neg (show ¬ (nI 8 = (5 : Int32)) by decide), if_neg (show ¬ (nI 8 = (6 : Int32)) by decide), if_neg (show ¬ (nI 8 = (7 : Int32)) by decide), if_pos (show nI 8 = (8 : Int32) from rfl)]
theorem does_8 (l1 l3 l4 l5 l6 l7 l8 s0 : Int32) (g : gG) : fs_X10_does_106 l1 (nI 8) l3 l4 l5 l6 l7 l8 s0 g = (if l7 = (0 : Int32) then (some ((0 : Int32), g)) else (if s0 = (0 : Int32) then (some ((0 : Int32), g)) else ((f_X10_makeEasy 184 394 l3 g).bind (fun u38 => some ((1 : Int32), u38.2))))) := by
  unfold fs_X10_does_106
  rw [if_neg (show ¬ (nI 8 = (1 : Int32)) by decide), if_neg (show ¬ (nI 8 = (2 : Int32)) by decide), if_neg (show ¬ (nI 8 = (3 : Int32)) by decide), if_neg (show ¬ (nI 8 = (4 : Int32)) by decide), if_neg (show ¬ (nI 8 = (5 : Int32)) by decide), if_neg (show ¬ (nI 8 = (6 : Int32)) by decide), if_neg (show ¬ (nI 8 = (7 : Int32)) by decide), if_pos (show nI 8 = (8 : Int32) from rfl)]
theorem succ_9 (hc : c < 10000) (hk : c / 1000 = 9) (g : gG) : f_X3_succeeds (nI c) g = (if (nI (c % 10)) = (0 : Int32) then ((f_X5_hasTeam 165 (nI (c / 100 % 10)) g).bind (fun u42 => if u42.1 = (0 : Int32) then (some ((0 : Int32), u42.2)) else ((f_X5_visitsOf 165 (nI (c / 100 % 10)) u42.2).bind (fun u44 => if u44.1 < (nI (c / 10 % 10)) then (some ((0 : Int32), u44.2)) else (some ((1 : Int32), u44.2)))))) else (some ((0 : Int32), g))) := by
  unfold f_X3_succeeds
  simp only [gl_eq]
  rw [dg1 hc, dg2 hc, dg3 hc, dg4 hc, hk, if_neg (show ¬ (nI 9 = (1 : Int32)) by decide), if_neg (show ¬ (nI 9 = (2 : Int32)) by decide), if_neg (show ¬ (nI 9 = (3 : Int32)) by decide), if_neg (show ¬ (nI 9 = (4 : Int32)) by decide), if_neg (show ¬ (nI 9 = (5 : Int32)) by decide), if_neg (show ¬ (nI 9 = (6 : Int32)) by decide), if_neg (show ¬ (nI 9 = (7 : Int32)) by decide), if_neg (show ¬ (nI 9 = (8 : Int32)) by decide), if_pos (show nI 9 = (9 : Int32) from rfl)]
theorem does_9 (l1 l3 l4 l5 l6 l7 l8 s0 : Int32) (g : gG) : fs_X10_does_106 l1 (nI 9) l3 l4 l5 l6 l7 l8 s0 g = (if l6 = (0 : Int32) then (some ((0 : Int32), g)) else (if l5 = (0 : Int32) then ((f_X10_cell l3 (0 : Int32) g).bind (fun u42 => if inb u42.1 394 = true then if (u42.2.1 184 u42.1.toNatClampNeg) < l4 then (some ((0 : Int32), u42.2)) else (some ((1 : Int32), u42.2)) else none)) else (some ((0 : Int32), g)))) := by
  unfold fs_X10_does_106
  rw [if_neg (show ¬ (nI 9 = (1 : Int32)) by decide), if_neg (show ¬ (nI 9 = (2 : Int32)) by decide), if_neg (show ¬ (nI 9 = (3 : Int32)) by decide), if_neg (show ¬ (nI 9 = (4 : Int32)) by decide), if_neg (show ¬ (nI 9 = (5 : Int32)) by decide), if_neg (show ¬ (nI 9 = (6 : Int32)) by decide), if_neg (show ¬ (nI 9 = (7 : Int32)) by decide), if_neg (show ¬ (nI 9 = (8 : Int32)) by decide), if_pos (show nI 9 = (9 : Int32) from rfl)]
theorem le_lt {a b : Nat} (ha : a < 2 ^ 31) (hb : b < 2 ^ 31) {α : Type} (x y : α) : (if nI a ≤ nI b then x else y) = if decide (b < a) = true then y else x := by
  by_cases h : b < a
  · rw [if_neg (nI_ge h ha), decide_eq_true h, if_pos rfl]
  · rw [if_pos (nI_le (by omega) hb), decide_eq_false h, if_neg (by decide)]
theorem does_eq (hc : c < 10000) {n : Nat} {hm : Nat → Nat} {S : aS} {g : gG} (h : mS (g.1 184) n hm S) (hn : n ≤ 10) (ok : okS n S) : f_X10_does (nI c) g = fs_X10_does_106 (nI c) (nI (c / 1000)) (nI (c / 100 % 10)) (nI (c / 10 % 10)) (nI (c % 10)) (b2 (decide (c / 100 % 10 < S.2.2.2.length))) (b2 (decide (c / 100 % 10 < n))) (b2 (decide (c / 100 % 10 < S.2.2.2.length) && (decide (c / 10 % 10 < n) && decide (c % 10 = 0)))) (b2 (decide (c / 10 % 10 = 0) && decide (c % 10 = 0))) g := by
  have c1 : (1 : Int32).toNatClampNeg = 1 := by decide
  have hT := ok.2.1
  have h1 : g.1 184 1 = nI S.2.2.2.length := h.2.1
  have e89 : ∀ (b6 b7 b8 : Int32), fs_X10_does_89 (nI c) (nI (c / 1000)) (nI (c / 100 % 10)) (nI (c / 10 % 10)) (nI (c % 10)) b6 b7 b8 g = fs_X10_does_106 (nI c) (nI (c / 1000)) (nI (c / 100 % 10)) (nI (c / 10 % 10)) (nI (c % 10)) b6 b7 b8 (b2 (decide (c / 10 % 10 = 0) && decide (c % 10 = 0))) g := by
    intro b6 b7 b8
    unfold fs_X10_does_89 fs_X10_does_105
    by_cases h3 : c / 10 % 10 = 0
    · rw [if_pos ((nI_z (by omega)).mpr h3), decide_eq_true h3]
      by_cases h4 : c % 10 = 0
      · rw [if_pos ((nI_z (by omega)).mpr h4), decide_eq_true h4]; rfl
      · rw [if_neg (fun e => h4 ((nI_z (by omega)).mp e)), decide_eq_false h4]; rfl
    · rw [if_neg (fun e => h3 ((nI_z (by omega)).mp e)), decide_eq_false h3]; rfl
  have e61 : ∀ (t : Bool) (b7 : Int32), fs_X10_does_61 (nI c) (nI (c / 1000)) (nI (c / 100 % 10)) (nI (c / 10 % 10)) (nI (c % 10)) (b2 t) b7 g = fs_X10_does_106 (nI c) (nI (c / 1000)) (nI (c / 100 % 10)) (nI (c / 10 % 10)) (nI (c % 10)) (b2 t) b7 (b2 (t && (decide (c / 10 % 10 < n) && decide (c % 10 = 0)))) (b2 (decide (c / 10 % 10 = 0) && decide (c % 10 = 0))) g := by
    intro t b7
    unfold fs_X10_does_61 fs_X10_does_88
    simp only [e89]
    cases t with
    | false => rw [b2_f, if_pos zero0]; rfl
    | true =>
      rw [b2_t, if_neg one0, if_pos (inb0 (by decide) (by decide)), clamp0, h.1.1, le_lt (by omega) (by omega)]
      cases decide (c / 10 % 10 < n) with
      | false => rw [if_neg (by decide)]; rfl
      | true =>
        rw [if_pos rfl]
        by_cases h4 : c % 10 = 0
        · rw [if_pos ((nI_z (by omega)).mpr h4), decide_eq_true h4]; rfl
        · rw [if_neg (fun e => h4 ((nI_z (by omega)).mp e)), decide_eq_false h4]; rfl
  have e44 : ∀ (t : Bool), fs_X10_does_44 (nI c) (nI (c / 1000)) (nI (c / 100 % 10)) (nI (c / 10 % 10)) (nI (c % 10)) (b2 t) g = fs_X10_does_106 (nI c) (nI (c / 1000)) (nI (c / 100 % 10)) (nI (c / 10 % 10)) (nI (c % 10)) (b2 t) (b2 (decide (c / 100 % 10 < n))) (b2 (t && (decide (c / 10 % 10 < n) && decide (c % 10 = 0)))) (b2 (decide (c / 10 % 10 = 0) && decide (c % 10 = 0))) g := by
    intro t
    unfold fs_X10_does_44
    simp only [e61]
    rw [if_pos (inb0 (by decide) (by decide)), clamp0, h.1.1, le_lt (by omega) (by omega)]
    cases decide (c / 100 % 10 < n) with
    | false => rw [if_neg (by decide)]; rfl
    | true => rw [if_pos rfl]; rfl
  unfold f_X10_does
  simp only [gl_eq]
  rw [dg1 hc, dg2 hc, dg3 hc, dg4 hc, if_pos (show inb 1 394 = true by decide), c1, h1, le_lt (by omega) (by omega)]
  cases decide (c / 100 % 10 < S.2.2.2.length) with
  | false => rw [if_neg (by decide)]; exact e44 false
  | true => rw [if_pos rfl]; exact e44 true
end DG
