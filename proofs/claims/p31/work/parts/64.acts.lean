/-! PURE: actions. -/
section AC
variable {tx : List Nat} {n : Nat} {hm : Nat → Nat} {S S' : aS} {L : List aS} {K : Nat → Option aS}
theorem okA_S (ok : okA tx n hm S L K) (h : okS n S') : okA tx n hm S' ((S :: L).take 14) K := by
  obtain ⟨o1, o2, h2, hn, o5, o6, o7, o8⟩ := ok
  refine ⟨o1, o2, h2, hn, o5, h, ?_, o8⟩
  intro S1 h1
  have h3 := List.mem_of_mem_take h1
  rcases List.mem_cons.mp h3 with h4 | h4
  · rw [h4]; exact o6
  · exact o7 S1 h4
theorem C_keep {g : gG} (ok : okA tx n hm S L K) (hC : InvC tx n hm S L K g) : ∃ g', f_X1_keep 16 g = some ((), g') ∧ InvC tx n hm S ((S :: L).take 14) K g' ∧ ∀ j, (174 ≤ j ∨ j = 6 ∨ j = 7) → g'.1 j = g.1 j := by
  obtain ⟨o1, o2, h2, hn, o5, o6, o7, o8⟩ := ok
  obtain ⟨h1, h3, h4, h5, h6⟩ := hC
  obtain ⟨g', e, a, c⟩ := c_keep (r := 16) h4 o6 hn h5 (by decide)
  refine ⟨g', e, ⟨⟨?_, ?_⟩, cH_fr h3 c (by decide), cS_fr h4 c (by decide), a, ?_⟩, fun j hj => c.1 j (by omega)⟩
  · rw [c.1 1 (by omega)]; exact h1.1
  · intro j x hx
    rw [c.1 2 (by omega)]; exact h1.2 j x hx
  · exact slC_eq h6 (fun j a b => c.1 j (by omega))
theorem C_16 {g g' : gG} (hC : InvC tx n hm S L K g) (f : frm 16 24 g g') (hS : cS g' 16 S') : InvC tx n hm S' L K g' := by
  obtain ⟨h1, h3, h4, h5, h6⟩ := hC
  refine ⟨⟨?_, ?_⟩, cH_fr h3 f (by decide), hS, cMem_eq h5 (fun j a b => f.1 j (by omega)), slC_eq h6 (fun j a b => f.1 j (by omega))⟩
  · rw [f.1 1 (by omega)]; exact h1.1
  · intro j x hx
    rw [f.1 2 (by omega)]; exact h1.2 j x hx
theorem M_183 {g g' : gG} (hM : InvM tx n hm S L K g) (f : frm 183 184 g g') (hS : mS (g'.1 183) n hm S') : InvM tx n hm S' L K g' := by
  obtain ⟨h1, h3, h4, h5⟩ := hM
  refine ⟨⟨?_, ?_⟩, hS, ⟨h4.1, ?_, ?_⟩, ?_⟩
  · rw [f.1 174 (by omega)]; exact h1.1
  · intro j x hx
    rw [f.1 175 (by omega)]; exact h1.2 j x hx
  · rw [f.1 174 (by omega)]; exact h4.2.1
  · intro i S1 hS1
    rw [f.1 185 (by omega)]; exact h4.2.2 i S1 hS1
  · intro i hi
    rw [f.1 187 (by omega), f.1 186 (by omega)]; exact h5 i hi
end AC
section AD
variable {tx : List Nat} {n : Nat} {hm : Nat → Nat} {X Y : Nat → Nat} {E : Nat} {T : List aT} {L : List aS} {K : Nat → Option aS}
theorem okS_T {T' : List aT} (ok : okS n (X, Y, E, T)) (hl : T'.length ≤ 4) (h : ∀ tm ∈ T', okT n tm) : okS n (X, Y, E, T') := ⟨ok.1, hl, ok.2.2.1, h⟩
theorem okS_set1 {t : Nat} {tm : aT} (ok : okS n (X, Y, E, T)) (h : okT n tm) : okS n (X, Y, E, T.set t tm) := by
  refine okS_T ok (by rw [List.length_set]; exact ok.2.1) ?_
  intro tm' h'
  rcases List.mem_or_eq_of_mem_set h' with h1 | h1
  · exact ok.2.2.2 tm' h1
  · rw [h1]; exact h
end AD
