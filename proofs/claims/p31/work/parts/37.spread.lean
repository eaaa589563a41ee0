/-! PURE: the class spreads over the sets that can be reached. -/
def rchN (n : Nat) (H : Nat → Nat → Bool) (s0 : Nat) : Nat → Nat → Prop
  | 0, s => s = s0
  | d + 1, s => rchN n H s0 d s ∨ ∃ s' p, rchN n H s0 d s' ∧ p < n ∧ canV n H s' p = true ∧ s = s' ||| 2 ^ p
def rch (n : Nat) (H : Nat → Nat → Bool) (s0 s : Nat) : Prop := ∃ d, rchN n H s0 d s
section SP
variable {n : Nat} {H : Nat → Nat → Bool} {s0 : Nat}
theorem rch_iff {s : Nat} : rch n H s0 s ↔ s = s0 ∨ ∃ s' p, rch n H s0 s' ∧ p < n ∧ canV n H s' p = true ∧ s = s' ||| 2 ^ p := by
  constructor
  · rintro ⟨d, h⟩
    induction d generalizing s with
    | zero => exact Or.inl h
    | succ d ih =>
      rcases h with h | ⟨s', p, a, b⟩
      · exact ih h
      · exact Or.inr ⟨s', p, ⟨d, a⟩, b⟩
  · rintro (h | ⟨s', p, ⟨d, a⟩, b⟩)
    · exact ⟨0, h⟩
    · exact ⟨d + 1, Or.inr ⟨s', p, a, b⟩⟩
theorem rch_lt (h0 : s0 < 2 ^ n) {s : Nat} (h : rch n H s0 s) : s < 2 ^ n ∧ s0 ≤ s := by
  obtain ⟨d, h⟩ := h
  induction d generalizing s with
  | zero =>
    have h : s = s0 := h
    rw [h]; exact ⟨h0, Nat.le_refl _⟩
  | succ d ih =>
    rcases h with h | ⟨s', p, a, b, c, e⟩
    · exact ih h
    · have h9 := ih a
      have h8 := or_gt (canV_bit c)
      rw [e]
      exact ⟨or_lt h9.1 b, by omega⟩
theorem c_mark_l (F41 : Int32 → Int32 → Int32 → gG → Option (Unit × gG)) (eE eA : Int32) {s O : Nat} (hs : s < 1024) (hO : O < 1024) (d : Nat) : ∀ (g : gG) i fu, i + d = 10 → d < fu → ∃ g', fb_X8_spread_85 F41 fu eE eA (nI s) (nI O) (nI i) g = F41 eE eA (nI (s + 1)) g' ∧ (∀ p, i ≤ p → p < 10 → O.testBit p = true → g'.1 157 (s ||| 2 ^ p) = 0) ∧ (∀ j, (∀ p, i ≤ p → p < 10 → O.testBit p = true → j ≠ s ||| 2 ^ p) → g'.1 157 j = g.1 157 j) ∧ frm 157 158 g g' := by
  induction d with
  | zero =>
    intro g i fu hi hf
    obtain ⟨fu, rfl⟩ : ∃ f', fu = f' + 1 := ⟨fu - 1, by omega⟩
    have e : i = 10 := by omega
    subst e
    refine ⟨g, ?_, fun p a b => by omega, fun j _ => rfl, frm.rf⟩
    unfold fb_X8_spread_85 fs_X8_spread_85
    rw [if_pos (show (10 : Int32) ≤ nI 10 by decide)]
    simp only [gLet, nI_1]
  | succ d ih =>
    intro g i fu hi hf
    obtain ⟨fu, rfl⟩ : ∃ f', fu = f' + 1 := ⟨fu - 1, by omega⟩
    unfold fb_X8_spread_85 fs_X8_spread_85
    rw [if_neg (show ¬ ((10 : Int32) ≤ nI i) from nI_ge (b := 10) (by omega) (by decide))]
    cases eb : O.testBit i with
    | false =>
      obtain ⟨g', e, a, b, c⟩ := ih g (i + 1) fu (by omega) (by omega)
      have e0 : (nI O >>> (nI i &&& 31)) &&& 1 = 0 := (nI_test0 (by omega) (by omega)).mpr eb
      rw [if_pos e0]
      simp only [gLet, nI_1]
      refine ⟨g', e, ?_, ?_, c⟩
      · intro p h1 h2 h3
        by_cases e9 : p = i
        · rw [e9, eb] at h3; cases h3
        · exact a p (by omega) h2 h3
      · intro j hj
        exact b j (fun p h1 h2 h3 => hj p (by omega) h2 h3)
    | true =>
      have h10 : s ||| 2 ^ i < 2 ^ 10 := or_lt hs (by omega)
      obtain ⟨g', e, a, b, c⟩ := ih (gI1 g 157 (s ||| 2 ^ i) 0) (i + 1) fu (by omega) (by omega)
      have e0 : ¬ ((nI O >>> (nI i &&& 31)) &&& 1 = 0) := by
        intro e9
        have := (nI_test0 (by omega) (by omega)).mp e9
        rw [eb] at this; cases this
      rw [if_neg e0, show (1 : Int32) <<< (nI i &&& 31) = nI (2 ^ i) from nI_shl1 (by omega), fa_or, if_pos (inb_nI (by omega) (by decide)), nI_clamp (by omega)]
      simp only [gLet, nI_1]
      refine ⟨g', e, ?_, ?_, (frm.rf.i1 (by omega) (by omega)).tr c⟩
      · intro p h1 h2 h3
        by_cases hx : ∃ q, i + 1 ≤ q ∧ q < 10 ∧ O.testBit q = true ∧ s ||| 2 ^ p = s ||| 2 ^ q
        · obtain ⟨q, q1, q2, q3, q4⟩ := hx
          rw [q4]; exact a q q1 q2 q3
        · rw [b _ (fun q q1 q2 q3 q4 => hx ⟨q, q1, q2, q3, q4⟩)]
          by_cases e9 : p = i
          · rw [r_self, if_pos (by rw [e9])]
          · exact absurd ⟨p, by omega, h2, h3, rfl⟩ hx
      · intro j hj
        rw [b j (fun p h1 h2 h3 => hj p (by omega) h2 h3), r_self, if_neg (hj i (Nat.le_refl _) (by omega) eb)]
/-- the invariant of the walk over the sets: below i all is told, from i on only what is marked -/
def spI (n : Nat) (H : Nat → Nat → Bool) (s0 i : Nat) (f : Nat → Int32) : Prop := ∀ s, s < 2 ^ n → (s < i → (rch n H s0 s → f s = nI (opn n H s)) ∧ (¬ rch n H s0 s → f s = -1)) ∧ (i ≤ s → ((s = s0 ∨ ∃ s' p, s' < i ∧ rch n H s0 s' ∧ p < n ∧ canV n H s' p = true ∧ s = s' ||| 2 ^ p) → f s = 0) ∧ (¬ (s = s0 ∨ ∃ s' p, s' < i ∧ rch n H s0 s' ∧ p < n ∧ canV n H s' p = true ∧ s = s' ||| 2 ^ p) → f s = -1))
theorem nI_m1 {a : Nat} (h : a < 2 ^ 31) : ¬ (nI a = (-1 : Int32)) := by
  intro e
  have h1 : (nI a).toInt = (-1 : Int32).toInt := congrArg Int32.toInt e
  rw [nI_toInt h] at h1
  have h2 : (-1 : Int32).toInt = -1 := by decide
  omega
theorem c_spread_l {hm : Nat → Nat} {E : Nat} (h2 : 2 ≤ n) (hn : n ≤ 10) (hE : E < 2 ^ n) (d : Nat) : ∀ (g : gG) i fu, cH g n hm → i + d = 2 ^ n → d < fu → spI n (effH hm E) s0 i (g.1 157) → ∃ g', fb_X8_spread_41 fu (nI E) (nI (2 ^ n - 1)) (nI i) g = some ((), g') ∧ spI n (effH hm E) s0 (2 ^ n) (g'.1 157) ∧ frm 157 158 g g' := by
  have h1024 : 2 ^ n ≤ 1024 := Nat.pow_le_pow_right (n := 2) (j := 10) (by decide) hn
  have hpos : 0 < 2 ^ n := Nat.two_pow_pos n
  induction d with
  | zero =>
    intro g i fu hH hi hf hI
    obtain ⟨fu, rfl⟩ : ∃ f', fu = f' + 1 := ⟨fu - 1, by omega⟩
    have e : i = 2 ^ n := by omega
    rw [e] at hI
    refine ⟨g, ?_, hI, frm.rf⟩
    unfold fb_X8_spread_41 fs_X8_spread_41
    rw [if_pos (nI_lt (by omega) (by omega))]
  | succ d ih =>
    intro g i fu hH hi hf hI
    obtain ⟨fu, rfl⟩ : ∃ f', fu = f' + 1 := ⟨fu - 1, by omega⟩
    have hi2 : i < 2 ^ n := by omega
    have hmk : rch n (effH hm E) s0 i ↔ (i = s0 ∨ ∃ s' p, s' < i ∧ rch n (effH hm E) s0 s' ∧ p < n ∧ canV n (effH hm E) s' p = true ∧ i = s' ||| 2 ^ p) := by
      rw [rch_iff]
      constructor
      · rintro (h | ⟨s', p, a, b, c, e⟩)
        · exact Or.inl h
        · have := or_gt (canV_bit c)
          exact Or.inr ⟨s', p, by omega, a, b, c, e⟩
      · rintro (h | ⟨s', p, _, a⟩)
        · exact Or.inl h
        · exact Or.inr ⟨s', p, a⟩
    unfold fb_X8_spread_41 fs_X8_spread_41
    rw [if_neg (nI_nlt (by omega) (by omega)), if_pos (inb_nI (by omega) (by decide)), nI_clamp (by omega)]
    by_cases hr : rch n (effH hm E) s0 i
    · have hv : g.1 157 i = 0 := ((hI i hi2).2 (Nat.le_refl _)).1 (hmk.mp hr)
      rw [hv, if_neg (by decide), c_openAfter hH h2 hn hE (by omega)]
      simp only [Option.bind_some, gLet]
      have hO := opn_lt (n := n) (H := effH hm E) (s := i)
      obtain ⟨g1, e1, a1, b1, c1⟩ := c_mark_l (fb_X8_spread_41 fu) (nI E) (nI (2 ^ n - 1)) (s := i) (O := opn n (effH hm E) i) (by omega) (by omega) 10 (gI1 g 157 i (nI (opn n (effH hm E) i))) 0 gFuel (by omega) (by unfold gFuel; omega)
      have hfr : frm 157 158 g g1 := (frm.rf.i1 (by omega) (by omega)).tr c1
      have hH1 : cH g1 n hm := by
        refine ⟨?_, ?_⟩
        · rw [hfr.1 14 (by omega)]; exact hH.1
        · intro s hs; rw [hfr.1 15 (by omega)]; exact hH.2 s hs
      obtain ⟨g2, e2, a2, c2⟩ := ih g1 (i + 1) fu hH1 (by omega) (by omega) (by
        intro s hs
        refine ⟨?_, ?_⟩
        · intro hsi
          have hne : ∀ p, 0 ≤ p → p < 10 → (opn n (effH hm E) i).testBit p = true → s ≠ i ||| 2 ^ p := by
            intro p _ _ hb e9
            rw [opn_bit] at hb
            have := or_gt (canV_bit (Bool.and_eq_true_iff.mp hb).2)
            omega
          rw [b1 s hne, r_self]
          by_cases e9 : s = i
          · rw [if_pos e9, e9]
            exact ⟨fun _ => rfl, fun h9 => absurd hr h9⟩
          · rw [if_neg e9]
            exact (hI s hs).1 (by omega)
        · intro hsi
          refine ⟨?_, ?_⟩
          · intro hm9
            by_cases hx : ∃ p, p < 10 ∧ (opn n (effH hm E) i).testBit p = true ∧ s = i ||| 2 ^ p
            · obtain ⟨p, p1, p2, p3⟩ := hx
              rw [p3]; exact a1 p (by omega) p1 p2
            · rw [b1 s (fun p _ p1 p2 p3 => hx ⟨p, p1, p2, p3⟩), r_self, if_neg (by omega)]
              refine ((hI s hs).2 (by omega)).1 ?_
              rcases hm9 with h | ⟨s', p, q1, q2, q3, q4, q5⟩
              · exact Or.inl h
              · by_cases e9 : s' = i
                · refine absurd ⟨p, by omega, ?_, by rw [q5, e9]⟩ hx
                  rw [opn_bit, ← e9, q4]; simp [q3]
                · exact Or.inr ⟨s', p, by omega, q2, q3, q4, q5⟩
          · intro hm9
            have hx : ∀ p, 0 ≤ p → p < 10 → (opn n (effH hm E) i).testBit p = true → s ≠ i ||| 2 ^ p := by
              intro p _ p1 p2 p3
              rw [opn_bit] at p2
              have p4 := Bool.and_eq_true_iff.mp p2
              exact hm9 (Or.inr ⟨i, p, by omega, hr, of_decide_eq_true p4.1, p4.2, p3⟩)
            rw [b1 s hx, r_self, if_neg (by omega)]
            refine ((hI s hs).2 (by omega)).2 ?_
            rintro (h | ⟨s', p, q1, q2⟩)
            · exact hm9 (Or.inl h)
            · exact hm9 (Or.inr ⟨s', p, by omega, q2⟩))
      refine ⟨g2, ?_, a2, hfr.tr c2⟩
      rw [if_pos (inb_nI (by omega) (by decide))]
      exact e1.trans e2
    · have hv : g.1 157 i = -1 := ((hI i hi2).2 (Nat.le_refl _)).2 (fun h => hr (hmk.mpr h))
      obtain ⟨g2, e2, a2, c2⟩ := ih g (i + 1) fu hH (by omega) (by omega) (by
        intro s hs
        refine ⟨?_, ?_⟩
        · intro hsi
          by_cases e9 : s = i
          · rw [e9]
            exact ⟨fun h => absurd h hr, fun _ => hv⟩
          · exact (hI s hs).1 (by omega)
        · intro hsi
          have h9 := (hI s hs).2 (by omega)
          refine ⟨?_, ?_⟩
          · rintro (h | ⟨s', p, q1, q2, q3⟩)
            · exact h9.1 (Or.inl h)
            · have : s' ≠ i := fun e9 => hr (e9 ▸ q2)
              exact h9.1 (Or.inr ⟨s', p, by omega, q2, q3⟩)
          · intro hm9
            refine h9.2 ?_
            rintro (h | ⟨s', p, q1, q2⟩)
            · exact hm9 (Or.inl h)
            · exact hm9 (Or.inr ⟨s', p, by omega, q2⟩))
      refine ⟨g2, ?_, a2, c2⟩
      rw [hv, if_pos rfl]
      simp only [gLet, nI_1]
      exact e2
end SP
