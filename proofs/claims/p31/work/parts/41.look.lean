/-! PURE: the class looks from a set. -/
section LK
variable {n : Nat} {s0 : Nat} {hm : Nat → Nat} {E : Nat}
theorem c_weigh {g : gG} (hH : cH g n hm) (h2 : 2 ≤ n) (hn : n ≤ 10) {s : Nat} (hs : s < 2 ^ n) (h7 : g.1 157 s = nI (opn n (effH hm E) s)) (hW : ∀ p, (opn n (effH hm E) s).testBit p = true → wR g (s ||| 2 ^ p) (wOf n (effH hm E) (s ||| 2 ^ p))) : f_X8_weigh (nI s) g = some ((), wPut g s (wOf n (effH hm E) s)) := by
  have h1024 : 2 ^ n ≤ 1024 := Nat.pow_le_pow_right (n := 2) (j := 10) (by decide) hn
  have hpos : 0 < 2 ^ n := Nat.two_pow_pos n
  have hO := opn_lt (n := n) (H := effH hm E) (s := s)
  have hb : ∀ p, (opn n (effH hm E) s).testBit p = true → s ||| 2 ^ p < 2 ^ n := by
    intro p hp
    rw [opn_bit] at hp
    exact or_lt hs (of_decide_eq_true (Bool.and_eq_true_iff.mp hp).1)
  have hA : ∀ a0 : aW, a0.1 < 2 ^ n → a0.2.2.1 ≤ 11 → a0.2.2.2 < 2 ^ n → ∀ k, (wgo s (wOf n (effH hm E)) (opn n (effH hm E) s) a0 k).1 < 2 ^ 31 ∧ (wgo s (wOf n (effH hm E)) (opn n (effH hm E) s) a0 k).2.2.1 < 2 ^ 31 := by
    intro a0 q1 q2 q3 k
    have := wgo_bnd (n := n) (s := s) (f := wOf n (effH hm E)) (a := a0) (M := 2 ^ 30) (Z := 11) hO q1 q2 q3 (by
      intro p hp
      have h9 := wOf_small (effH hm E) h2 hn (hb p hp)
      exact ⟨by omega, by omega⟩) k
    exact ⟨by omega, by omega⟩
  have hgo : ∀ a0 : aW, a0.1 < 2 ^ n → a0.2.2.1 ≤ 11 → a0.2.2.2 < 2 ^ n → fb_X8_weigh_53 gFuel (nI s) (nI (opn n (effH hm E) s)) (nI a0.1) (nI a0.2.1) (nI a0.2.2.1) (nI a0.2.2.2) (nI 0) g = some ((), wPut g s (wgo s (wOf n (effH hm E)) (opn n (effH hm E) s) a0 10)) := by
    intro a0 q1 q2 q3
    exact c_weigh_l (a0 := a0) (W := wOf n (effH hm E)) (by omega) (by omega) (hA a0 q1 q2 q3) (by
      intro p hp
      have h9 := wOf_small (effH hm E) h2 hn (hb p hp)
      exact ⟨hW p hp, by omega, by omega⟩) 10 0 gFuel (by omega) (by unfold gFuel; omega)
  rw [wOf_eq n (effH hm E) hs]
  unfold f_X8_weigh fs_X8_weigh_28 fs_X8_weigh_48 wst
  rw [c_hasChest hH h2 hn (by omega)]
  simp only [Option.bind_some, gLet]
  rw [if_pos (inb_nI (by omega) (by decide)), nI_clamp (by omega), h7]
  cases ec : s.testBit (n - 1) with
  | true =>
    rw [b2_t, if_neg (by decide), if_neg (by decide), if_pos rfl]
    exact hgo (0, 1, 0, 0) hpos (by decide) hpos
  | false =>
    rw [b2_f, if_pos rfl, if_pos rfl, c_allPlaces hH hn, if_neg (by decide)]
    simp only [Option.bind_some]
    exact hgo (0, 0, 0, 2 ^ n - 1) hpos (Nat.zero_le _) (by show 2 ^ n - 1 < 2 ^ n; omega)
theorem dn_lt {m s : Nat} (h : m ≤ s) (hs : s < 2 ^ 31) : dn m < nI s := by
  cases m with
  | zero =>
    rw [Int32.lt_iff_toInt_lt, nI_toInt hs]
    have : (dn 0).toInt = -1 := by decide
    omega
  | succ m => rw [dn_s]; exact nI_lt (by omega) hs
theorem c_look_l (h2 : 2 ≤ n) (hn : n ≤ 10) (h0 : s0 < 2 ^ n) (m : Nat) : ∀ (g : gG) fu, cH g n hm → m ≤ 2 ^ n → m < fu → (∀ s, s < 2 ^ n → (rch n (effH hm E) s0 s → g.1 157 s = nI (opn n (effH hm E) s)) ∧ (¬ rch n (effH hm E) s0 s → g.1 157 s = -1)) → (∀ s, s < 2 ^ n → m ≤ s → rch n (effH hm E) s0 s → wR g s (wOf n (effH hm E) s)) → ∃ g', fb_X8_lookFrom_14 fu (nI s0) (dn m) g = some ((), g') ∧ (∀ s, s < 2 ^ n → rch n (effH hm E) s0 s → wR g' s (wOf n (effH hm E) s)) ∧ frm 158 162 g g' := by
  have h1024 : 2 ^ n ≤ 1024 := Nat.pow_le_pow_right (n := 2) (j := 10) (by decide) hn
  induction m with
  | zero =>
    intro g fu hH hm1 hf h7 hI
    obtain ⟨fu, rfl⟩ : ∃ f', fu = f' + 1 := ⟨fu - 1, by omega⟩
    refine ⟨g, ?_, fun s hs hr => hI s hs (Nat.zero_le _) hr, frm.rf⟩
    unfold fb_X8_lookFrom_14 fs_X8_lookFrom_14
    rw [if_pos (dn_lt (Nat.zero_le _) (by omega))]
  | succ m ih =>
    intro g fu hH hm1 hf h7 hI
    obtain ⟨fu, rfl⟩ : ∃ f', fu = f' + 1 := ⟨fu - 1, by omega⟩
    unfold fb_X8_lookFrom_14 fs_X8_lookFrom_14
    by_cases hend : m < s0
    · refine ⟨g, ?_, ?_, frm.rf⟩
      · rw [if_pos (dn_lt (by omega) (by omega))]
      · intro s hs hr
        exact hI s hs (by have := (rch_lt h0 hr).2; omega) hr
    · rw [dn_s, if_neg (nI_nlt (by omega) (by omega)), if_pos (inb_nI (by omega) (by decide)), nI_clamp (by omega)]
      by_cases hr : rch n (effH hm E) s0 m
      · have e7 := (h7 m (by omega)).1 hr
        have hO := opn_lt (n := n) (H := effH hm E) (s := m)
        have fr1 := wPut_fr g m (wOf n (effH hm E) m)
        obtain ⟨g', e, a, c⟩ := ih (wPut g m (wOf n (effH hm E) m)) fu (cH_fr hH fr1 (by omega)) (by omega) (by omega) (by
          intro s hs
          rw [fr1.1 157 (by omega)]; exact h7 s hs) (by
          intro s hs h3 h4
          by_cases e9 : s = m
          · rw [e9]; exact wPut_self _ _ _
          · exact wPut_ne e9 (hI s hs (by omega) h4))
        refine ⟨g', ?_, a, fr1.tr c⟩
        rw [e7, if_neg (nI_m1 (by omega)), c_weigh (E := E) hH h2 hn (by omega) e7 (by
          intro p hp
          rw [opn_bit] at hp
          have h9 := Bool.and_eq_true_iff.mp hp
          have h8 := or_gt (canV_bit h9.2)
          have h5 := of_decide_eq_true h9.1
          exact hI _ (or_lt (by omega) h5) (by omega) (rch_iff.mpr (Or.inr ⟨m, p, hr, h5, h9.2, rfl⟩)))]
        simp only [Option.bind_some, gLet, dn_m]
        exact e
      · obtain ⟨g', e, a, c⟩ := ih g fu hH (by omega) (by omega) h7 (by
          intro s hs h3 h4
          by_cases e9 : s = m
          · rw [e9] at h4; exact absurd h4 hr
          · exact hI s hs (by omega) h4)
        refine ⟨g', ?_, a, c⟩
        rw [(h7 m (by omega)).2 hr, if_pos rfl]
        simp only [gLet, dn_m]
        exact e
theorem c_lookFrom {g : gG} (hH : cH g n hm) (h2 : 2 ≤ n) (hn : n ≤ 10) (hE : E < 2 ^ n) (h0 : s0 < 2 ^ n) : ∃ g', f_X8_lookFrom (nI s0) (nI E) g = some ((), g') ∧ (∀ s, s < 2 ^ n → (rch n (effH hm E) s0 s → g'.1 157 s = nI (opn n (effH hm E) s)) ∧ (¬ rch n (effH hm E) s0 s → g'.1 157 s = -1)) ∧ (∀ s, s < 2 ^ n → rch n (effH hm E) s0 s → wR g' s (wOf n (effH hm E) s)) ∧ frm 157 162 g g' := by
  have h1024 : 2 ^ n ≤ 1024 := Nat.pow_le_pow_right (n := 2) (j := 10) (by decide) hn
  have hpos : 0 < 2 ^ n := Nat.two_pow_pos n
  obtain ⟨g1, e1, a1, c1⟩ := c_spread hH h2 hn hE h0
  obtain ⟨g2, e2, a2, c2⟩ := c_look_l (hm := hm) (E := E) h2 hn h0 (2 ^ n) g1 gFuel (cH_fr hH c1 (by omega)) (Nat.le_refl _) (by unfold gFuel; omega) a1 (fun s hs h3 _ => by omega)
  refine ⟨g2, ?_, ?_, a2, (c1.wd (by omega) (by omega)).tr (c2.wd (by omega) (by omega))⟩
  · unfold f_X8_lookFrom
    rw [e1]
    simp only [Option.bind_some]
    rw [c_allPlaces (cH_fr hH c1 (by omega)) hn]
    simp only [Option.bind_some, gLet]
    have e9 : nI (2 ^ n - 1) = dn (2 ^ n) := by
      obtain ⟨q, hq⟩ : ∃ q, 2 ^ n = q + 1 := ⟨2 ^ n - 1, by omega⟩
      rw [hq, dn_s]; rfl
    rw [e9]
    exact e2
  · intro s hs
    rw [c2.1 157 (by omega)]; exact a1 s hs
end LK
