/-! PURE: commands. -/
def cmdC (n : Nat) (hm : Nat → Nat) (S : aS) (c : Nat) (B : Bool) (S' : aS) : Prop := ∀ g, cH g n hm → cS g 165 S → ∃ g', f_X3_succeeds (nI c) g = some (b2 B, g') ∧ cS g' 165 S' ∧ frm 157 174 g g'
section CMD
variable {n : Nat} {hm : Nat → Nat} {X Y : Nat → Nat} {E : Nat} {T : List aT} {c : Nat}
theorem c_hasT {g : gG} {k : Nat} (h : cS g k (X, Y, E, T)) (ok : okS n (X, Y, E, T)) {t : Nat} (ht : t < 10) : f_X5_hasTeam k (nI t) g = some (b2 (decide (t < T.length)), g) := by
  rw [c_hasTeam h ok.2.1, isT_nI (by omega)]
theorem c_hasP {g : gG} (h : cH g n hm) (hn : n ≤ 10) {p : Nat} (hp : p < 10) : f_X0_hasPlace (nI p) g = some (b2 (decide (p < n)), g) := by
  rw [c_hasPlace h hn, nI_toInt (by omega)]
  by_cases e : p < n
  · rw [decide_eq_true e, decide_eq_true (by omega)]
  · rw [decide_eq_false e, decide_eq_false (by omega)]
theorem c_canV_no {g : gG} {k : Nat} (hH : cH g n hm) (hn : n ≤ 10) (h : cS g k (X, Y, E, T)) (ok : okS n (X, Y, E, T)) {t p : Nat} (ht : t < 10) (hp : p < 10) (hno : ¬ (t < T.length ∧ p < n)) : f_X5_canVisit k (nI t) (nI p) g = some (0, g) := by
  unfold f_X5_canVisit
  rw [c_hasP hH hn hp]
  simp only [ob_eq]
  by_cases e : p < n
  · rw [decide_eq_true e, b2_t, if_neg one0]
    unfold f_X5_openTo
    rw [c_hasT h ok ht, decide_eq_false (fun e9 => hno ⟨e9, e⟩)]
    simp only [ob_eq]
    rw [b2_f, if_pos zero0]
    simp only [ob_eq]
    rw [show (0 : Int32) = nI 0 from rfl, c_isIn (by decide) (by omega)]
    simp only [ob_eq]
    rw [show Nat.testBit 0 p = false by simp, b2_f, if_pos (show (0 : Int32) = nI 0 from rfl)]
  · rw [decide_eq_false e, b2_f, if_pos zero0]
theorem b2_and (a b : Bool) : (b2 (a && b) = (0 : Int32)) ↔ ¬ (a = true ∧ b = true) := by cases a <;> cases b <;> decide
theorem okS_put {p a b : Nat} (ok : okS n (X, Y, E, T)) (ha : a ≤ 9) (hb : b ≤ 9) : okS n (fun q => if q = p then a else X q, fun q => if q = p then b else Y q, E, T) := by
  refine ⟨ok.1, ok.2.1, fun q hq => ?_, ok.2.2.2⟩
  have h3 := ok.2.2.1 q hq
  show (if q = p then a else X q) ≤ 9 ∧ (if q = p then b else Y q) ≤ 9
  by_cases e : q = p
  · rw [if_pos e, if_pos e]; exact ⟨ha, hb⟩
  · rw [if_neg e, if_neg e]; exact h3
end CMD
