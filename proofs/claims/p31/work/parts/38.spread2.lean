/-! PURE: the class spreads, from the start. -/
section SQ
variable {n : Nat} {s0 : Nat} {hm : Nat → Nat} {E : Nat}
theorem cH_fr {g g' : gG} {a b : Nat} (h : cH g n hm) (f : frm a b g g') (h1 : 16 ≤ a ∨ b ≤ 14) : cH g' n hm := by
  refine ⟨?_, ?_⟩
  · rw [f.1 14 (by omega)]; exact h.1
  · intro s hs; rw [f.1 15 (by omega)]; exact h.2 s hs
theorem c_spread0_l (h2 : 2 ≤ n) (hn : n ≤ 10) (hE : E < 2 ^ n) (h0 : s0 < 2 ^ n) (d : Nat) : ∀ (g : gG) i fu, cH g n hm → i + d = 2 ^ n → d < fu → (∀ s, s < i → g.1 157 s = -1) → ∃ g', fb_X8_spread_11 fu (nI s0) (nI E) (nI (2 ^ n - 1)) (nI i) g = some ((), g') ∧ spI n (effH hm E) s0 (2 ^ n) (g'.1 157) ∧ frm 157 158 g g' := by
  have h1024 : 2 ^ n ≤ 1024 := Nat.pow_le_pow_right (n := 2) (j := 10) (by decide) hn
  have hpos : 0 < 2 ^ n := Nat.two_pow_pos n
  induction d with
  | zero =>
    intro g i fu hH hi hf hI
    obtain ⟨fu, rfl⟩ : ∃ f', fu = f' + 1 := ⟨fu - 1, by omega⟩
    have fr1 : frm 157 158 g (gI1 g 157 s0 0) := frm.rf.i1 (by omega) (by omega)
    obtain ⟨g', e, a, c⟩ := c_spread_l (s0 := s0) h2 hn hE (2 ^ n - s0) (gI1 g 157 s0 0) s0 gFuel (cH_fr hH fr1 (by omega)) (by omega) (by unfold gFuel; omega) (by
      intro s hs
      refine ⟨?_, ?_⟩
      · intro h9
        refine ⟨fun hr => ?_, fun _ => ?_⟩
        · have := (rch_lt h0 hr).2; omega
        · rw [r_self, if_neg (by omega)]; exact hI s (by omega)
      · intro h9
        refine ⟨?_, ?_⟩
        · rintro (h8 | ⟨s', p, q1, q2, _⟩)
          · rw [r_self, if_pos h8]
          · have := (rch_lt h0 q2).2; omega
        · intro h8
          rw [r_self, if_neg (fun e9 => h8 (Or.inl e9))]; exact hI s (by omega))
    refine ⟨g', ?_, a, fr1.tr c⟩
    unfold fb_X8_spread_11 fs_X8_spread_11
    rw [if_pos (nI_lt (by omega) (by omega)), if_pos (inb_nI (by omega) (by decide)), nI_clamp (by omega)]
    simp only [gLet]
    exact e
  | succ d ih =>
    intro g i fu hH hi hf hI
    obtain ⟨fu, rfl⟩ : ∃ f', fu = f' + 1 := ⟨fu - 1, by omega⟩
    have fr1 : frm 157 158 g (gI1 g 157 i (-1)) := frm.rf.i1 (by omega) (by omega)
    obtain ⟨g', e, a, c⟩ := ih (gI1 g 157 i (-1)) (i + 1) fu (cH_fr hH fr1 (by omega)) (by omega) (by omega) (by
      intro s hs
      by_cases e9 : s = i
      · rw [r_self, if_pos e9]
      · rw [r_self, if_neg e9]; exact hI s (by omega))
    refine ⟨g', ?_, a, fr1.tr c⟩
    unfold fb_X8_spread_11 fs_X8_spread_11
    rw [if_neg (nI_nlt (by omega) (by omega)), if_pos (inb_nI (by omega) (by decide)), nI_clamp (by omega)]
    simp only [gLet, nI_1]
    exact e
theorem c_spread {g : gG} (hH : cH g n hm) (h2 : 2 ≤ n) (hn : n ≤ 10) (hE : E < 2 ^ n) (h0 : s0 < 2 ^ n) : ∃ g', f_X8_spread (nI s0) (nI E) g = some ((), g') ∧ (∀ s, s < 2 ^ n → (rch n (effH hm E) s0 s → g'.1 157 s = nI (opn n (effH hm E) s)) ∧ (¬ rch n (effH hm E) s0 s → g'.1 157 s = -1)) ∧ frm 157 158 g g' := by
  have h1024 : 2 ^ n ≤ 1024 := Nat.pow_le_pow_right (n := 2) (j := 10) (by decide) hn
  obtain ⟨g', e, a, c⟩ := c_spread0_l (s0 := s0) (hm := hm) (E := E) h2 hn hE h0 (2 ^ n) g 0 gFuel hH (by omega) (by unfold gFuel; omega) (fun s h => by omega)
  refine ⟨g', ?_, fun s hs => (a s hs).1 hs, c⟩
  unfold f_X8_spread
  rw [c_allPlaces hH hn]
  simp only [Option.bind_some, gLet]
  exact e
end SQ
/-- what is said of a set: leading places, orders, fewest visits, common places -/
abbrev aW : Type := Nat × Nat × Nat × Nat
def wstep (s : Nat) (f : Nat → aW) (O p : Nat) (a : aW) : aW := if O.testBit p = true ∧ 0 < (f (s ||| 2 ^ p)).2.1 then (a.1 ||| 2 ^ p, a.2.1 + (f (s ||| 2 ^ p)).2.1, (if a.1 = 0 then (f (s ||| 2 ^ p)).2.2.1 + 1 else if (f (s ||| 2 ^ p)).2.2.1 + 1 < a.2.2.1 then (f (s ||| 2 ^ p)).2.2.1 + 1 else a.2.2.1), a.2.2.2 &&& ((f (s ||| 2 ^ p)).2.2.2 ||| 2 ^ p)) else a
def wgo (s : Nat) (f : Nat → aW) (O : Nat) (a : aW) : Nat → aW
  | 0 => a
  | k + 1 => wstep s f O k (wgo s f O a k)
def wst (n : Nat) (H : Nat → Nat → Bool) (s : Nat) (f : Nat → aW) : aW := wgo s f (opn n H s) (if s.testBit (n - 1) = true then (0, 1, 0, 0) else (0, 0, 0, 2 ^ n - 1)) 10
theorem wgo_cong {s O : Nat} {f f' : Nat → aW} {a : aW} (h : ∀ p, O.testBit p = true → f (s ||| 2 ^ p) = f' (s ||| 2 ^ p)) : ∀ k, wgo s f O a k = wgo s f' O a k := by
  intro k
  induction k with
  | zero => rfl
  | succ k ih =>
    rw [wgo, wgo, ih]
    unfold wstep
    cases e : O.testBit k with
    | false => simp
    | true => rw [h k e]
theorem wst_loc (n : Nat) (H : Nat → Nat → Bool) : loc (wst n H) (2 ^ n) := by
  intro s f f' hs h
  unfold wst
  apply wgo_cong
  intro p hp
  rw [opn_bit] at hp
  have h9 := Bool.and_eq_true_iff.mp hp
  exact h _ (or_gt (canV_bit h9.2)) (or_lt hs (of_decide_eq_true h9.1))
def wOf (n : Nat) (H : Nat → Nat → Bool) (s : Nat) : aW := Rr (0, 0, 0, 0) (wst n H) (2 ^ n) s
theorem wOf_eq (n : Nat) (H : Nat → Nat → Bool) {s : Nat} (hs : s < 2 ^ n) : wOf n H s = wst n H s (wOf n H) := Rr_eq (wst_loc n H) hs
