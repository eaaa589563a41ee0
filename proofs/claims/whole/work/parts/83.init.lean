/-! PURE: how all begins. -/
def hm0 (s : Nat) : Nat := if s % 2 = 1 then 3 else 1
theorem gHeld_hm : ∀ s, s < 512 → gHeld0 s = nI (hm0 s) := by decide +kernel
theorem hm0_0 : ∀ s, s < 512 → (hm0 s ||| 0).testBit 0 = true := by decide +kernel
theorem hm0_1 : ∀ s, s < 512 → (hm0 s ||| 0).testBit 1 = s.testBit 0 := by decide +kernel
theorem i190 (d : Nat) : ∀ k (g : gG) fu, k + d = 1024 → d < fu → bitsM (g.1 183) 1 k (fun s => s.testBit 0) → ∃ g', fb_X10_init_190 fu (nI k) g = some ((), g') ∧ bitsM (g'.1 183) 1 1024 (fun s => s.testBit 0) ∧ (∀ q, (q < 54 ∨ 86 ≤ q) → g'.1 183 q = g.1 183 q) ∧ (∀ j, j ≠ 183 → g'.1 j = g.1 j) ∧ g'.2 = g.2 := by
  induction d with
  | zero =>
    intro k g fu hk hf hb
    obtain ⟨fu, rfl⟩ : ∃ f', fu = f' + 1 := ⟨fu - 1, by omega⟩
    have e : k = 1024 := by omega
    subst e
    refine ⟨g, ?_, hb, fun q _ => rfl, fun _ _ => rfl, rfl⟩
    unfold fb_X10_init_190 fs_X10_init_190
    rw [if_pos (show (1024 : Int32) ≤ nI 1024 by decide)]
  | succ d ih =>
    intro k g fu hk hf hb
    obtain ⟨fu, rfl⟩ : ∃ f', fu = f' + 1 := ⟨fu - 1, by omega⟩
    obtain ⟨w, x2, hw⟩ := m_putB g 183 (p := 1) (s := k) (by decide) (by omega) (k.testBit 0)
    have hb2 : bitsM ((gI1 g 183 (22 + 32 * 1 + k / 32) w).1 183) 1 (k + 1) (fun s => s.testBit 0) := by
      intro s hs
      have es := hb s
      rw [r_self]
      by_cases e : 22 + 32 * 1 + s / 32 = 22 + 32 * 1 + k / 32
      · rw [if_pos e, hw _ (by omega)]
        by_cases e2 : s % 32 = k % 32
        · have e3 : s = k := by omega
          rw [if_pos e2, e3]
          exact (mod_bit (by decide)).symm
        · have e3 : s / 32 = k / 32 := by omega
          rw [if_neg e2, ← e3]
          exact es (by omega)
      · rw [if_neg e]
        have : s ≠ k := fun e9 => e (by rw [e9])
        exact es (by omega)
    obtain ⟨g', x3, b3, q3, q4, q5⟩ := ih (k + 1) (gI1 g 183 (22 + 32 * 1 + k / 32) w) fu (by omega) (by omega) hb2
    refine ⟨g', ?_, b3, fun q hq => by rw [q3 q hq, r_self, if_neg (by omega)], fun j hj => by rw [q4 j hj, gI1_1, if_neg hj], q5⟩
    show fs_X10_init_190 (fb_X10_init_190 fu) (nI k) g = _
    unfold fs_X10_init_190
    rw [if_neg (show ¬ ((1024 : Int32) ≤ nI k) from nI_ge (b := 1024) (by omega) (by omega)), show f_X10_has (nI k) (0 : Int32) g = _ from m_has (p := 0) (by decide) g]
    simp only [ob_eq, gl_eq]
    rw [show f_X10_put 183 394 (1 : Int32) (nI k) (b2 (k.testBit 0)) g = _ from x2]
    simp only [ob_eq]
    rw [nI_1, x3]
theorem i166 (d : Nat) : ∀ k (g : gG) fu, k + d = 32 → d < fu → (∀ q, q < k → g.1 183 (22 + q) = -1) → ∃ g', fb_X10_init_166 fu (nI k) g = fb_X10_init_190 gFuel 0 g' ∧ (∀ q, q < 32 → g'.1 183 (22 + q) = -1) ∧ (∀ q, (q < 22 ∨ 54 ≤ q) → g'.1 183 q = g.1 183 q) ∧ (∀ j, j ≠ 183 → g'.1 j = g.1 j) ∧ g'.2 = g.2 := by
  induction d with
  | zero =>
    intro k g fu hk hf hb
    obtain ⟨fu, rfl⟩ : ∃ f', fu = f' + 1 := ⟨fu - 1, by omega⟩
    have e : k = 32 := by omega
    subst e
    refine ⟨g, ?_, hb, fun q _ => rfl, fun _ _ => rfl, rfl⟩
    show fs_X10_init_166 (fb_X10_init_166 fu) (nI 32) g = _
    unfold fs_X10_init_166
    rw [if_pos (show (32 : Int32) ≤ nI 32 by decide)]
  | succ d ih =>
    intro k g fu hk hf hb
    obtain ⟨fu, rfl⟩ : ∃ f', fu = f' + 1 := ⟨fu - 1, by omega⟩
    obtain ⟨g', e, q1, q2, q3, q4⟩ := ih (k + 1) (gI1 g 183 (22 + k) (-1)) fu (by omega) (by omega) (fun q hq => by
      rw [r_self]
      by_cases e : 22 + q = 22 + k
      · rw [if_pos e]
      · rw [if_neg e]; exact hb q (by omega))
    refine ⟨g', ?_, q1, fun q hq => by rw [q2 q hq, r_self, if_neg (by omega)], fun j hj => by rw [q3 j hj, gI1_1, if_neg hj], q4⟩
    rw [← e]
    show fs_X10_init_166 (fb_X10_init_166 fu) (nI k) g = _
    unfold fs_X10_init_166
    rw [if_neg (show ¬ ((32 : Int32) ≤ nI k) from nI_ge (b := 32) (by omega) (by decide)), show (22 : Int32) + nI k = nI (22 + k) from nI_add 22 k, if_pos (inb_nI (by omega) (by decide)), nI_clamp (by omega)]
    simp only [gl_eq]
    rw [nI_1]
theorem g00_0 {k : Nat} (h14 : k ≠ 14) (h15 : k ≠ 15) (i : Nat) : g00.1 k i = 0 := by
  show (if k = 14 then (fun j => if j = 1 then 2 else 0) else if k = 15 then gHeld0 else fun _ => 0) i = 0
  rw [if_neg h14, if_neg h15]
theorem init_inv : ∃ z0 : Unit × gG, ft_X10_init g00 = some z0 ∧ Inv (z0.2.1, va_up z0.2.2 193 (fun _ => 0)) := by
  have hg : gFuel = 6000 := rfl
  obtain ⟨g1, e1, a1, a2, a3, a4⟩ := i166 32 0 (gI1 g00 183 0 2) gFuel (by decide) (by omega) (fun q hq => by omega)
  obtain ⟨g2, e2, b1, b2', b3, b4⟩ := i190 1024 0 g1 gFuel (by decide) (by omega) (fun s hs => by omega)
  have w : ∀ j, j ≠ 14 → j ≠ 15 → j ≠ 183 → ∀ i, g2.1 j i = 0 := fun j h1 h2 h3 i => by
    rw [b3 j h3, a3 j h3, gI1_1, if_neg h3]; exact g00_0 h1 h2 i
  have w14 : g2.1 14 = g00.1 14 := by rw [b3 14 (by decide), a3 14 (by decide), gI1_1, if_neg (by decide)]
  have w15 : g2.1 15 = g00.1 15 := by rw [b3 15 (by decide), a3 15 (by decide), gI1_1, if_neg (by decide)]
  have u0 : g2.1 183 0 = 2 := by rw [b2' 0 (by decide), a2 0 (by decide), r_self, if_pos rfl]
  have u1 : ∀ q, 0 < q → q < 22 → g2.1 183 q = 0 := fun q h1 h2 => by
    rw [b2' q (by omega), a2 q (by omega), r_self, if_neg (by omega)]; exact g00_0 (by decide) (by decide) q
  have u2 : ∀ q, q < 32 → g2.1 183 (22 + q) = -1 := fun q hq => by rw [b2' _ (by omega), a1 q hq]
  refine ⟨((), g2), ?_, [], 2, hm0, ((fun _ => 0), (fun _ => 0), 0, []), [], fun _ => none, ⟨Nat.zero_le _, fun c h => (by cases h), by decide, by decide, fun s _ => ?_, ⟨by show 0 < 2 ^ 2; decide, Nat.zero_le _, fun p hp => ⟨Nat.zero_le _, Nat.zero_le _⟩, fun tm h => by cases h⟩, (fun S h => by cases h), fun i S' h => by cases h⟩, ⟨⟨?_, fun j c h => by simp at h⟩, ⟨?_, ?_⟩, ⟨?_, ?_, fun p hp => ⟨?_, ?_⟩, fun t tm h => ?_⟩, ⟨Nat.zero_le _, ?_, 0, by decide, ?_, fun i S' h => by simp at h⟩, fun i hi => ⟨fun _ => ?_, fun S' h => by cases h⟩⟩, ⟨⟨?_, fun j c h => by simp at h⟩, ⟨⟨?_, ?_⟩, ?_, fun p hp => ⟨?_, ?_⟩, fun t tm h => ?_⟩, ⟨Nat.zero_le _, ?_, fun i S' h => by simp at h⟩, fun i hi => ⟨fun _ => ?_, fun S' h => by cases h⟩⟩, fun p hp => ⟨⟨0, by decide, ?_⟩, ⟨0, by decide, ?_⟩⟩⟩
  · unfold ft_X10_init
    rw [if_pos (show inb 0 394 = true by decide), gl_eq, clamp0, show fb_X10_init_166 gFuel (0 : Int32) (gI1 g00 183 0 2) = _ from e1]
    exact e2
  · show hm0 s < 2 ^ 2
    unfold hm0
    split <;> decide
  · exact w 1 (by decide) (by decide) (by decide) 1
  · show g2.1 14 1 = nI 2
    rw [w14]; rfl
  · intro s hs
    refine ⟨?_, ?_⟩
    · show g2.1 15 s = _
      rw [w15]; exact gHeld_hm s hs
    · unfold hm0
      split <;> decide
  · exact w 16 (by decide) (by decide) (by decide) 8
  · exact w 16 (by decide) (by decide) (by decide) 9
  · exact w 17 (by decide) (by decide) (by decide) p
  · exact w 18 (by decide) (by decide) (by decide) p
  · have h : ([] : List aT)[t]? = some tm := h
    simp at h
  · exact w 24 (by decide) (by decide) (by decide) 2
  · exact w 24 (by decide) (by decide) (by decide) 1
  · exact w 155 (by decide) (by decide) (by decide) i
  · exact w 174 (by decide) (by decide) (by decide) 2
  · exact u0
  · intro p s hp hs
    show bt (g2.1 183 (22 + 32 * p + s / 32)) (s % 32) = (hm0 (s % 512) ||| 0).testBit p
    rcases (show p = 0 ∨ p = 1 by omega) with rfl | rfl
    · rw [show 22 + 32 * 0 + s / 32 = 22 + s / 32 by omega, u2 _ (by omega), b_m1 _ (by omega), hm0_0 _ (by omega)]
    · rw [b1 s hs, hm0_1 _ (by omega)]
  · exact u1 1 (by decide) (by decide)
  · exact u1 _ (by omega) (by omega)
  · exact u1 _ (by omega) (by omega)
  · have h : ([] : List aT)[t]? = some tm := h
    simp at h
  · exact w 174 (by decide) (by decide) (by decide) 16
  · exact w 187 (by decide) (by decide) (by decide) i
  · exact w 6 (by decide) (by decide) (by decide) p
  · exact w 7 (by decide) (by decide) (by decide) p
