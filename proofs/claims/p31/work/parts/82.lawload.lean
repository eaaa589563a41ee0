/-! PURE: the law at errorPosition and at load. -/
section LL
variable {tx : List Nat} {n : Nat} {hm : Nat → Nat} {S : aS} {L : List aS} {K : Nat → Option aS}
theorem InvC_R {g g' : gG} (h : InvC tx n hm S L K g) (f : frR g g') : InvC tx n hm S L K g' := InvC_eq h (fun j hj => f.1 j (by omega))
theorem InvM_R {g g' : gG} (h : InvM tx n hm S L K g) (f : frR g g') : InvM tx n hm S L K g' := InvM_eq h (by rw [f.1 174 (by decide)]) (by rw [f.1 174 (by decide)]) (fun j hj => f.1 j (by omega))
theorem InvM_X {g g' : gG} (h : InvM tx n hm S L K g) (f : frX g g') : InvM tx n hm S L K g' := InvM_eq h (f.2.1 2 (by decide) (by decide) (by decide)) (f.2.1 16 (by decide) (by decide) (by decide)) (fun j hj => f.1 j (by omega) (by omega) (by omega))
theorem InvC_X {g g' : gG} (h : InvC tx n hm S L K g) (f : frX g g') : InvC tx n hm S L K g' := InvC_eq h (fun j hj => f.1 j (by omega) (by omega) (by omega))
theorem rdC_X {g g' : gG} (h : rdC g) (f : frX g g') : rdC g' := rdC_eq h (f.1 6 (by decide) (by decide) (by decide)) (f.1 7 (by decide) (by decide) (by decide))
end LL
section LO
variable {tx : List Nat} {n : Nat} {hm : Nat → Nat} {S : aS} {L : List aS} {K : Nat → Option aS}
/-- the class's hunt is new -/
theorem c_newHunt {g : gG} {D : List aP} {X Y : Nat → Nat} (hC : InvC tx n hm S L K g) (hn : D.length ≤ 10) (h10 : g.1 3 10 = nI D.length) (hr : rdD g D) (hXY : ∀ p, p < 10 → g.1 6 p = nI (X p) ∧ g.1 7 p = nI (Y p)) : ∃ g', ((f_X0_take g).bind (fun u3 => (f_X5_begin 16 u3.2).bind (fun u4 => (f_X1_forget u4.2).bind (fun u5 => fb_X9_load_57 gFuel (0 : Int32) u5.2)))) = some (.inl (nI D.length), g') ∧ InvC tx D.length (hmD D) (X, Y, 0, []) [] (fun _ => none) g' ∧ ∀ j, (174 ≤ j ∨ j = 6 ∨ j = 7) → g'.1 j = g.1 j := by
  have hg : gFuel = 6000 := rfl
  obtain ⟨g1, e1, c1, q1⟩ := c_take hn h10 hr
  obtain ⟨g2, e2, c2, q2⟩ := c_begin_l (X := X) (Y := Y) 10 0 g1 gFuel (by decide) (by omega) (fun p hp => by rw [q1 6 (by decide) (by decide), q1 7 (by decide) (by decide)]; exact hXY p hp) (fun p hp => by omega)
  have e4 : fb_X9_load_57 gFuel (0 : Int32) (gI1 g2 24 2 0) = some (.inl (nI D.length), gI1 (gI1 (gI1 g2 24 2 0) 155 0 0) 155 1 0) := by
    rw [show gFuel = 5997 + 1 + 1 + 1 from rfl]
    show fs_X9_load_57 (fs_X9_load_57 (fs_X9_load_57 (fb_X9_load_57 5997))) (0 : Int32) (gI1 g2 24 2 0) = _
    unfold fs_X9_load_57 f_X0_count
    rw [if_neg (show ¬ ((2 : Int32) ≤ 0) by decide), if_pos (show inb 0 2 = true by decide), show vp_nar .boolean (0 : Int32) = 0 from nar_b2 false]
    simp only [gl_eq]
    rw [show (0 : Int32) + 1 = 1 by decide, if_neg (show ¬ ((2 : Int32) ≤ 1) by decide), if_pos (show inb 1 2 = true by decide), show (1 : Int32) + 1 = 2 by decide, if_pos (show (2 : Int32) ≤ 2 by decide)]
    simp only [ob_eq]
    rw [show (0 : Int32).toNatClampNeg = 0 from rfl, show (1 : Int32).toNatClampNeg = 1 from rfl, gI1_1, if_neg (by decide), gI1_1, if_neg (by decide), gI1_1, if_neg (by decide), q2 14 (by decide) (by decide) (by decide), c1.1]
  have w : ∀ j, j ≠ 24 → j ≠ 155 → (gI1 (gI1 (gI1 g2 24 2 0) 155 0 0) 155 1 0).1 j = g2.1 j := fun j a b => by rw [gI1_1, if_neg b, gI1_1, if_neg b, gI1_1, if_neg a]
  have w2 : ∀ j, (j < 14 ∨ 18 < j) → j ≠ 24 → j ≠ 155 → (gI1 (gI1 (gI1 g2 24 2 0) 155 0 0) 155 1 0).1 j = g.1 j := fun j a b c => by rw [w j b c, q2 j (by omega) (by omega) (by omega), q1 j (by omega) (by omega)]
  refine ⟨gI1 (gI1 (gI1 g2 24 2 0) 155 0 0) 155 1 0, ?_, ⟨⟨?_, ?_⟩, ⟨?_, ?_⟩, ?_, ⟨Nat.zero_le _, ?_, ?_⟩, ?_⟩, fun j hj => w2 j (by omega) (by omega) (by omega)⟩
  · rw [e1, ob_eq]
    unfold f_X5_begin f_X1_forget
    rw [show fb_X5_begin_2 16 gFuel (0 : Int32) g1 = _ from e2, ob_eq, gl_eq, ob_eq, e4]
  · rw [w2 1 (by decide) (by decide) (by decide)]; exact hC.1.1
  · intro j c hc
    rw [w2 2 (by decide) (by decide) (by decide)]; exact hC.1.2 j c hc
  · rw [w 14 (by decide) (by decide), q2 14 (by decide) (by decide) (by decide)]; exact c1.1
  · intro s hs
    rw [w 15 (by decide) (by decide), q2 15 (by decide) (by decide) (by decide)]; exact c1.2 s hs
  · exact cS_eq c2 (fun j hj => w _ (by omega) (by omega))
  · rw [gI1_1, if_neg (by decide), gI1_1, if_neg (by decide), r_self, if_pos rfl]; rfl
  · obtain ⟨_, _, f, hf, hf1, _⟩ := hC.2.2.2.1
    refine ⟨f, hf, ?_, fun i S' hS => by simp at hS⟩
    rw [gI1_1, if_neg (by decide), gI1_1, if_neg (by decide), r_self, if_neg (by decide), q2 24 (by decide) (by decide) (by decide), q1 24 (by decide) (by decide)]
    exact hf1
  · intro i hi
    refine ⟨fun _ => ?_, fun S' hS => by cases hS⟩
    rw [r_self, r_self]
    rcases (show i = 0 ∨ i = 1 by omega) with rfl | rfl
    · rw [if_neg (by decide), if_pos rfl]
    · rw [if_pos rfl]
end LO
