/-! PURE: the class weighs minutes. -/
section WM
variable {k n : Nat} {hm : Nat → Nat} {E : Nat} {S : aS} {s0 : Nat}
/-- what lookFrom has left: next places, leading places, orders -/
def lkR (n : Nat) (H : Nat → Nat → Bool) (s0 : Nat) (g : gG) : Prop := ∀ s, s < 2 ^ n → ((rch n H s0 s → g.1 157 s = nI (opn n H s) ∧ wR g s (wOf n H s)) ∧ (¬ rch n H s0 s → g.1 157 s = -1))
/-- the minutes of the sets from m on -/
def mnR (n : Nat) (H : Nat → Nat → Bool) (S : aS) (s0 : Nat) (g : gG) (m : Nat) : Prop := ∀ s, m ≤ s → s < 2 ^ (n - 1) → s0 < s → rch n H s0 s → fin n H none s = true → ∀ h, h < n - 1 → s.testBit h = true → s0.testBit h = false → g.1 162 (10 * s + h) = nI ((qOf n H S s (some h)).getD 0)
theorem lkR_fr {H : Nat → Nat → Bool} {g g' : gG} {a b : Nat} (h : lkR n H s0 g) (f : frm a b g g') (h1 : 162 ≤ a ∨ b ≤ 157) : lkR n H s0 g' := by
  intro s hs
  obtain ⟨h3, h4⟩ := h s hs
  refine ⟨fun hr => ?_, fun hr => ?_⟩
  · obtain ⟨h5, h6, h7, h8, h9⟩ := h3 hr
    refine ⟨by rw [f.1 157 (by omega)]; exact h5, ?_, ?_, ?_, ?_⟩
    · rw [f.1 158 (by omega)]; exact h6
    · rw [f.1 159 (by omega)]; exact h7
    · rw [f.1 160 (by omega)]; exact h8
    · rw [f.1 161 (by omega)]; exact h9
  · rw [f.1 157 (by omega)]; exact h4 hr
theorem mfR_of {H : Nat → Nat → Bool} {g : gG} (h2 : 2 ≤ n) (hn : n ≤ 10) (h0 : s0 < 2 ^ n) (hL : lkR n H s0 g) {m s : Nat} (hM : mnR n H S s0 g m) (hsm : m ≤ s + 1) (hs : s < 2 ^ (n - 1)) (hr : rch n H s0 s) : mfR n H S g s := by
  have hn2 := two_n h2
  refine ⟨?_, ?_⟩
  · rw [((hL s (by omega)).1 hr).2.1, wOf_safe h2 hn (by omega)]
  · intro p hp hb
    unfold safe at hb
    rw [msk_bit] at hb
    have h9 := Bool.and_eq_true_iff.mp hb
    have h8 := Bool.and_eq_true_iff.mp h9.2
    have hgt := or_gt (canV_bit h8.1)
    have hr' : rch n H s0 (s ||| 2 ^ p) := rch_iff.mpr (Or.inr ⟨s, p, hr, by omega, h8.1, rfl⟩)
    have hge := (rch_lt h0 hr).2
    refine hM _ (by omega) (or_lt hs hp) (by omega) hr' h8.2 p hp (by rw [Nat.testBit_or, Nat.testBit_two_pow_self]; simp) ?_
    cases e : s0.testBit p with
    | false => rfl
    | true =>
      have h7 : ∀ s, rch n H s0 s → s.testBit p = true := by
        intro s hr
        obtain ⟨d, hr⟩ := hr
        induction d generalizing s with
        | zero =>
          have hr : s = s0 := hr
          rw [hr]; exact e
        | succ d ih =>
          rcases hr with hr | ⟨s', q, h1, h3, h4, h5⟩
          · exact ih s hr
          · rw [h5, Nat.testBit_or, ih s' h1]; rfl
      have := h7 s hr
      rw [canV_bit h8.1] at this
      cases this
theorem c_wm_in (h2 : 2 ≤ n) (hn : n ≤ 10) (okx : okX S) (h0 : s0 < 2 ^ n) (F20 : Int32 → Int32 → Int32 → gG → Option (Unit × gG)) {s : Nat} (hs : s < 2 ^ (n - 1)) (hs0 : s0 < s) (hr : rch n (effH hm E) s0 s) (d : Nat) : ∀ (g : gG) i fu, i + d = n - 1 → d < fu → cH g n hm → stR g S → lkR n (effH hm E) s0 g → mnR n (effH hm E) S s0 g (s + 1) → (∀ h, h < i → s.testBit h = true → s0.testBit h = false → g.1 162 (10 * s + h) = nI ((qOf n (effH hm E) S s (some h)).getD 0)) → ∃ g', fb_X8_weighMinutes_53 k F20 fu (nI s0) (nI (n - 1)) (nI s) (nI i) g = F20 (nI s0) (nI (n - 1)) (nI s + (-1 : Int32)) g' ∧ mnR n (effH hm E) S s0 g' s ∧ frm 162 163 g g' := by
  have h512 : 2 ^ (n - 1) ≤ 512 := Nat.pow_le_pow_right (n := 2) (j := 9) (by decide) (by omega)
  have hs01 : s0 < 1024 := lt1024 h0 hn
  induction d with
  | zero =>
    intro g i fu hi hf hH hst hL hM hI
    obtain ⟨fu, rfl⟩ : ∃ f', fu = f' + 1 := ⟨fu - 1, by omega⟩
    have e : i = n - 1 := by omega
    subst e
    refine ⟨g, ?_, ?_, frm.rf⟩
    · unfold fb_X8_weighMinutes_53 fs_X8_weighMinutes_53
      rw [if_pos (nI_le (Nat.le_refl _) (by omega))]
      simp only [gl_eq]
    · intro s' h1 h3 h4 h5 h6 h hh h7 h8
      by_cases e9 : s' = s
      · rw [e9] at h7 ⊢; exact hI h hh h7 h8
      · exact hM s' (by omega) h3 h4 h5 h6 h hh h7 h8
  | succ d ih =>
    intro g i fu hi hf hH hst hL hM hI
    obtain ⟨fu, rfl⟩ : ∃ f', fu = f' + 1 := ⟨fu - 1, by omega⟩
    have hand : s &&& (1023 ^^^ s0) < 1024 := Nat.lt_of_le_of_lt Nat.and_le_left (by omega)
    unfold fb_X8_weighMinutes_53 fs_X8_weighMinutes_53
    rw [if_neg (nI_ge (by omega) (by omega)), nI_not hs01 s (by omega), c_isIn (by omega) (by omega)]
    simp only [ob_eq, gl_eq, nI_1]
    have hbit : (s &&& (1023 ^^^ s0)).testBit i = (s.testBit i && !s0.testBit i) := by
      rw [Nat.testBit_and, Nat.testBit_xor]
      have : (1023 : Nat).testBit i = true := by
        have : ∀ i, i < 10 → (1023 : Nat).testBit i = true := by decide
        exact this i (by omega)
      rw [this]
      cases s0.testBit i <;> simp
    rw [hbit]
    cases eb : (s.testBit i && !s0.testBit i) with
    | false =>
      obtain ⟨g', a, b, c⟩ := ih g (i + 1) fu (by omega) (by omega) hH hst hL hM (by
        intro h hh h7 h8
        by_cases e9 : h = i
        · rw [e9] at h7 h8; rw [h7, h8] at eb; cases eb
        · exact hI h (by omega) h7 h8)
      refine ⟨g', ?_, b, c⟩
      rw [b2_f, if_pos rfl]
      exact a
    | true =>
      have eb' := Bool.and_eq_true_iff.mp eb
      have e1 := c_minFrom (H := effH hm E) hH h2 hn okx hst hs (mfR_of h2 hn h0 hL hM (Nat.le_refl _) hs hr) (fr := some i) (fun q hq => by cases hq; omega)
      have e1 : f_X8_minutesFrom (nI s) (nI i) g = _ := e1
      have fr1 : frm 162 163 g (gI1 g 162 (10 * s + i) (nI ((qOf n (effH hm E) S s (some i)).getD 0))) := frm.rf.i1 (by omega) (by omega)
      obtain ⟨g', a, b, c⟩ := ih (gI1 g 162 (10 * s + i) (nI ((qOf n (effH hm E) S s (some i)).getD 0))) (i + 1) fu (by omega) (by omega) (cH_fr hH fr1 (by omega)) (by
        intro p hp h hh
        rw [fr1.1 163 (by omega)]; exact hst p hp h hh) (lkR_fr hL fr1 (by omega)) (by
        intro s' h1 h3 h4 h5 h6 h hh h7 h8
        rw [r_self, if_neg (by omega)]
        exact hM s' h1 h3 h4 h5 h6 h hh h7 h8) (by
        intro h hh h7 h8
        rw [r_self]
        by_cases e9 : h = i
        · rw [e9, if_pos rfl]
        · rw [if_neg (by omega)]; exact hI h (by omega) h7 h8)
      refine ⟨g', ?_, b, fr1.tr c⟩
      rw [b2_t, if_neg (by decide), e1]
      simp only [ob_eq]
      have e5 : (nI s * (10 : Int32)) + nI i = nI (10 * s + i) := by
        show (nI s * nI 10) + nI i = _
        rw [pk_mul, nI_add, Nat.mul_comm]
      rw [e5, if_pos (inb_nI (by omega) (by decide)), nI_clamp (by omega)]
      exact a
theorem dn_le {m s : Nat} (h : m ≤ s + 1) (hs : s < 2 ^ 31) : dn m ≤ nI s := by
  cases m with
  | zero =>
    rw [Int32.le_iff_toInt_le, nI_toInt hs]
    have : (dn 0).toInt = -1 := by decide
    omega
  | succ m => rw [dn_s]; exact nI_le (by omega) hs
theorem c_wm_out (h2 : 2 ≤ n) (hn : n ≤ 10) (okx : okX S) (h0 : s0 < 2 ^ n) (m : Nat) : ∀ (g : gG) fu, cH g n hm → m ≤ 2 ^ (n - 1) → m < fu → stR g S → lkR n (effH hm E) s0 g → mnR n (effH hm E) S s0 g m → ∃ g', fb_X8_weighMinutes_20 k fu (nI s0) (nI (n - 1)) (dn m) g = some ((), g') ∧ mnR n (effH hm E) S s0 g' 0 ∧ frm 162 163 g g' := by
  have h512 : 2 ^ (n - 1) ≤ 512 := Nat.pow_le_pow_right (n := 2) (j := 9) (by decide) (by omega)
  have hs01 : s0 < 1024 := lt1024 h0 hn
  have hn2 := two_n h2
  induction m with
  | zero =>
    intro g fu hH hm9 hf hst hL hM
    obtain ⟨fu, rfl⟩ : ∃ f', fu = f' + 1 := ⟨fu - 1, by omega⟩
    refine ⟨g, ?_, hM, frm.rf⟩
    unfold fb_X8_weighMinutes_20 fs_X8_weighMinutes_20
    rw [if_pos (dn_le (by omega) (by omega))]
  | succ m ih =>
    intro g fu hH hm9 hf hst hL hM
    obtain ⟨fu, rfl⟩ : ∃ f', fu = f' + 1 := ⟨fu - 1, by omega⟩
    unfold fb_X8_weighMinutes_20 fs_X8_weighMinutes_20
    by_cases hend : m ≤ s0
    · refine ⟨g, ?_, ?_, frm.rf⟩
      · rw [if_pos (dn_le (by omega) (by omega))]
      · intro s h1 h3 h4
        exact hM s (by omega) h3 h4
    · rw [dn_s, if_neg (nI_ge (by omega) (by omega)), inb_nI (show m < 1024 by omega) (by decide)]
      simp only [if_true, gl_eq, nI_clamp (n := m) (by omega)]
      obtain ⟨q1, q2⟩ := hL m (by omega)
      have skip : (¬ rch n (effH hm E) s0 m ∨ fin n (effH hm E) none m = false) → ∃ g', fb_X8_weighMinutes_20 k fu (nI s0) (nI (n - 1)) (nI m + (-1 : Int32)) g = some ((), g') ∧ mnR n (effH hm E) S s0 g' 0 ∧ frm 162 163 g g' := by
        intro hno
        rw [dn_m]
        refine ih g fu hH (by omega) (by omega) hst hL ?_
        intro s h1 h3 h4 h5 h6
        by_cases e9 : s = m
        · rw [e9] at h5 h6
          rcases hno with hno | hno
          · exact absurd h5 hno
          · rw [h6] at hno; cases hno
        · exact hM s (by omega) h3 h4 h5 h6
      by_cases hr : rch n (effH hm E) s0 m
      · have hO := opn_lt (n := n) (H := effH hm E) (s := m)
        have hpo := wOf_pos (H := effH hm E) h2 hn (2 ^ n) m (by omega) (by omega)
        have hbb := wOf_small (effH hm E) h2 hn (s := m) (by omega)
        rw [(q1 hr).1, if_neg (nI_m1 (by omega)), (q1 hr).2.2.1]
        cases ef : fin n (effH hm E) none m with
        | false =>
          have h9 : (wOf n (effH hm E) m).2.1 = 0 := by
            by_cases h8 : 0 < (wOf n (effH hm E) m).2.1
            · rw [hpo.mp h8] at ef; cases ef
            · omega
          rw [h9, if_pos (show nI 0 = (0 : Int32) from rfl)]
          exact skip (Or.inr ef)
        | true =>
          have h9 := hpo.mpr ef
          rw [if_neg (fun e9 => by have := (nI_z (by omega)).mp e9; omega)]
          obtain ⟨g1, a1, b1, c1⟩ := c_wm_in (k := k) (hm := hm) (E := E) h2 hn okx h0 (fb_X8_weighMinutes_20 k fu) (s := m) (by omega) (by omega) hr (n - 1) g 0 gFuel (by omega) (by unfold gFuel; omega) hH hst hL hM (fun h hh => by omega)
          obtain ⟨g2, a2, b2', c2⟩ := ih g1 fu (cH_fr hH c1 (by omega)) (by omega) (by omega) (by
            intro p hp h hh
            rw [c1.1 163 (by omega)]; exact hst p hp h hh) (lkR_fr hL c1 (by omega)) b1
          refine ⟨g2, ?_, b2', c1.tr c2⟩
          rw [show (0 : Int32) = nI 0 from rfl, a1, dn_m]
          exact a2
      · rw [q2 hr, if_pos rfl]
        exact skip (Or.inl hr)
end WM
section FQ
variable {g : gG} {k n : Nat} {hm : Nat → Nat} {X Y : Nat → Nat} {E : Nat} {T : List aT} {t : Nat} {tm : aT}
theorem c_whereIs (h : cS g k (X, Y, E, T)) (ok : okS n (X, Y, E, T)) (hn : n ≤ 10) (ht : T[t]? = some tm) : f_X8_whereIs k (nI t) g = some (nI (hI tm.1.getLast?), g) := by
  unfold f_X8_whereIs
  rw [c_lastOf h ok hn ht]
  simp only [ob_eq, gl_eq]
  rw [lastP_fr]
  cases e : tm.1.getLast? with
  | none => rw [show frI none = (-9 : Int32) from rfl, if_pos rfl]; rfl
  | some q =>
    have := (ok_get ok ht).1.2 q (List.mem_of_getLast? e)
    rw [show frI (some q) = nI q from rfl, if_neg (nI_ne9 (by omega))]; rfl
theorem frm_st {g g' : gG} {S : aS} {a b : Nat} (h : stR g S) (f : frm a b g g') (h1 : 164 ≤ a ∨ b ≤ 163) : stR g' S := by
  intro p hp q hq
  rw [f.1 163 (by omega)]; exact h p hp q hq
/-- all is laid for a team's quickest way -/
theorem c_wmAll (hH : cH g n hm) (h2 : 2 ≤ n) (hn : n ≤ 10) (hk : k + 8 ≤ 157 ∨ 164 ≤ k) (h : cS g k (X, Y, E, T)) (ok : okS n (X, Y, E, T)) (ht : T[t]? = some tm) : ∃ g1 g2, f_X8_lookFrom (nI (setOf tm.1)) (nI E) g = some ((), g1) ∧ f_X8_weighMinutes k (nI (setOf tm.1)) g1 = some ((), g2) ∧ lkR n (effH hm E) (setOf tm.1) g2 ∧ mnR n (effH hm E) (X, Y, E, T) (setOf tm.1) g2 0 ∧ stR g2 (X, Y, E, T) ∧ frm 157 164 g g2 := by
  have h512 : 2 ^ (n - 1) ≤ 512 := Nat.pow_le_pow_right (n := 2) (j := 9) (by decide) (by omega)
  have h1 := ok_get ok ht
  have hs := setOf_lt h1.1.2
  obtain ⟨g1, e1, a1, b1, c1⟩ := c_lookT hH h2 hn ok ht
  obtain ⟨g2, e2, a2, c2⟩ := c_measure (n := n) (k := k) ok (by omega) (cS_fr h c1 (by omega))
  have hL1 : lkR n (effH hm E) (setOf tm.1) g1 := fun s hs9 => ⟨fun hr => ⟨(a1 s hs9).1 hr, b1 s hs9 hr⟩, (a1 s hs9).2⟩
  have hL := lkR_fr hL1 c2 (by omega)
  have hH2 := cH_fr (cH_fr hH c1 (by omega)) c2 (by omega)
  obtain ⟨g3, e3, a3, c3⟩ := c_wm_out (k := k) (hm := hm) (E := E) (S := (X, Y, E, T)) h2 hn ok.2.2.1 hs (2 ^ (n - 1)) g2 gFuel hH2 (Nat.le_refl _) (by unfold gFuel; omega) a2 hL (fun s h1 h3 => by omega)
  refine ⟨g1, g3, e1, ?_, lkR_fr hL c3 (by omega), a3, frm_st a2 c3 (by omega), ((c1.wd (by omega) (by omega)).tr (c2.wd (by omega) (by omega))).tr (c3.wd (by omega) (by omega))⟩
  have hch : f_X0_chest g2 = some (nI (n - 1), g2) := by
    unfold f_X0_chest
    rw [hH2.1, show nI n - (1 : Int32) = nI (n - 1) from pk_sub (a := n) (b := 1) (by omega)]
  unfold f_X8_weighMinutes
  rw [e2]
  simp only [ob_eq]
  rw [hch]
  simp only [ob_eq, gl_eq]
  rw [show (1 : Int32) <<< (nI (n - 1) &&& 31) = nI (2 ^ (n - 1)) from nI_shl1 (by omega)]
  exact e3
theorem c_minTeam {g2 : gG} (hH2 : cH g2 n hm) (h2 : 2 ≤ n) (hn : n ≤ 10) (ok : okS n (X, Y, E, T)) (ht : T[t]? = some tm) (hL : lkR n (effH hm E) (setOf tm.1) g2) (hM : mnR n (effH hm E) (X, Y, E, T) (setOf tm.1) g2 0) (hst : stR g2 (X, Y, E, T)) : f_X8_minutesFrom (nI (setOf tm.1)) (nI (hI tm.1.getLast?)) g2 = some (nI (if (setOf tm.1).testBit (n - 1) = true then 0 else (qOf n (effH hm E) (X, Y, E, T) (setOf tm.1) tm.1.getLast?).getD 0), g2) := by
  have h1 := ok_get ok ht
  have hs := setOf_lt h1.1.2
  have h10 := lt1024 hs hn
  have hfr : ∀ q, tm.1.getLast? = some q → q < 10 := fun q hq => by
    have := h1.1.2 q (List.mem_of_getLast? hq); omega
  have hr0 : rch n (effH hm E) (setOf tm.1) (setOf tm.1) := rch_iff.mpr (Or.inl rfl)
  cases ec : (setOf tm.1).testBit (n - 1) with
  | false =>
    rw [if_neg (by decide)]
    exact c_minFrom hH2 h2 hn ok.2.2.1 hst (bit_split h2 hs ec) (mfR_of h2 hn hs hL hM (by omega) (bit_split h2 hs ec) hr0) hfr
  | true =>
    rw [if_pos rfl]
    have e1 : g2.1 158 (setOf tm.1) = nI 0 := by
      rw [((hL _ hs).1 hr0).2.1, wOf_end hs ec]
    have key : ∀ (d i fu : Nat), i + d = 10 → d < fu → fb_X8_minutesFrom_16 fu (nI (setOf tm.1)) (nI (hI tm.1.getLast?)) (nI 0) (0 : Int32) (0 : Int32) (nI i) g2 = some (0, g2) := by
      intro d
      induction d with
      | zero =>
        intro i fu hi hf
        obtain ⟨fu, rfl⟩ : ∃ f', fu = f' + 1 := ⟨fu - 1, by omega⟩
        have e : i = 10 := by omega
        subst e
        unfold fb_X8_minutesFrom_16 fs_X8_minutesFrom_16
        rw [if_pos (by decide)]
      | succ d ih =>
        intro i fu hi hf
        obtain ⟨fu, rfl⟩ : ∃ f', fu = f' + 1 := ⟨fu - 1, by omega⟩
        unfold fb_X8_minutesFrom_16 fs_X8_minutesFrom_16
        have e0 : (nI 0 >>> (nI i &&& 31)) &&& 1 = 0 := (nI_test0 (by omega) (by omega)).mpr (by simp)
        rw [if_neg (show ¬ ((10 : Int32) ≤ nI i) from nI_ge (b := 10) (by omega) (by decide)), if_pos e0]
        simp only [gl_eq, nI_1]
        exact ih (i + 1) fu (by omega) (by omega)
    unfold f_X8_minutesFrom
    rw [if_pos (inb_nI h10 (by decide)), nI_clamp (by omega), e1]
    simp only [gl_eq]
    exact key 10 0 gFuel (by omega) (by unfold gFuel; omega)
theorem st_fewMin {g g1 g2 : gG} {a x E y hh z : Int32} (e1 : f_X5_visitedBy k a g = some (x, g)) (e2 : f_X5_easedPlaces k g = some (E, g)) (e3 : f_X8_lookFrom x E g = some ((), g1)) (e4 : f_X8_weighMinutes k x g1 = some ((), g2)) (hb : inb x 1024 = true) (w : g2.1 159 x.toNatClampNeg = y) (e5 : f_X8_whereIs k a g2 = some (hh, g2)) (e6 : f_X8_minutesFrom x hh g2 = some (z, g2)) : f_X8_fewestMinutes k a g = some (if y = 0 then -9 else z, g2) := by
  unfold f_X8_fewestMinutes
  simp only [e1, ob_eq, gl_eq, e2, e3, e4, hb, if_true, w, e5, e6]
  by_cases h : y = 0
  · rw [if_pos h, if_pos h]
  · rw [if_neg h, if_neg h]
/-- the team's quickest: its minutes -/
def oI (o : Option Nat) : Int32 := match o with
  | some m => nI m
  | none => -9
def oF (o : Option Nat) (F : Nat → Int32) : Int32 := match o with
  | some m => F m
  | none => -9
def qkT (n : Nat) (hm : Nat → Nat) (S : aS) (tm : aT) : Int32 := if (setOf tm.1).testBit (n - 1) = true then 0 else oI (qOf n (effH hm S.2.2.1) S (setOf tm.1) tm.1.getLast?)
def qkF (n : Nat) (hm : Nat → Nat) (S : aS) (tm : aT) : Int32 := if (setOf tm.1).testBit (n - 1) = true then -9 else oF (qOf n (effH hm S.2.2.1) S (setOf tm.1) tm.1.getLast?) (fun m => fFirst (fun p => decide (qV n (effH hm S.2.2.1) S (setOf tm.1) tm.1.getLast? p = some m)) n 0)
theorem qk_val {c : Bool} {y : Int32} {q : Option Nat} (h1 : c = true → ¬ y = 0) (h2 : c = false → (y = 0 ↔ q = none)) : (if y = 0 then (-9 : Int32) else nI (if c = true then 0 else q.getD 0)) = (if c = true then 0 else oI q) := by
  cases c with
  | true => rw [if_neg (h1 rfl), if_pos rfl, if_pos rfl]; rfl
  | false =>
    have h := h2 rfl
    cases q with
    | none => rw [if_pos (h.mpr rfl), if_neg (by decide)]; rfl
    | some m => rw [if_neg (fun e => by cases h.mp e), if_neg (by decide), if_neg (by decide)]; rfl
theorem ord_z (hm : Nat → Nat) (E : Nat) (h2 : 2 ≤ n) (hn : n ≤ 10) {s : Nat} (hs : s < 2 ^ n) : nI (wOf n (effH hm E) s).2.1 = 0 ↔ fin n (effH hm E) none s = false := by
  have hp := wOf_pos (H := effH hm E) h2 hn (2 ^ n) _ hs (by omega)
  have hb := wOf_small (effH hm E) h2 hn hs
  rw [nI_z (by omega)]
  constructor
  · intro h9
    cases e9 : fin n (effH hm E) none s with
    | false => rfl
    | true => have := hp.mpr e9; omega
  · intro h9
    by_cases h8 : 0 < (wOf n (effH hm E) s).2.1
    · rw [hp.mp h8] at h9; cases h9
    · omega
theorem c_fewMin (hH : cH g n hm) (h2 : 2 ≤ n) (hn : n ≤ 10) (hk : k + 8 ≤ 157 ∨ 164 ≤ k) (h : cS g k (X, Y, E, T)) (ok : okS n (X, Y, E, T)) (ht : T[t]? = some tm) : ∃ g', f_X8_fewestMinutes k (nI t) g = some (qkT n hm (X, Y, E, T) tm, g') ∧ frm 157 164 g g' := by
  have h1 := ok_get ok ht
  have hs := setOf_lt h1.1.2
  have h10 := lt1024 hs hn
  obtain ⟨g1, g2, e1, e2, hL, hM, hst, fr⟩ := c_wmAll hH h2 hn hk h ok ht
  have hH2 := cH_fr hH fr (by omega)
  have hS2 := cS_fr h fr (by omega)
  refine ⟨g2, ?_, fr⟩
  have hr0 : rch n (effH hm E) (setOf tm.1) (setOf tm.1) := rch_iff.mpr (Or.inl rfl)
  have w := ((hL _ hs).1 hr0).2.2.1
  have e := st_fewMin (k := k) (y := nI (wOf n (effH hm E) (setOf tm.1)).2.1) (c_visitedBy h ok ht) (c_eased h) e1 e2 (inb_nI h10 (by decide)) (by rw [nI_clamp (by omega)]; exact w) (c_whereIs hS2 ok hn ht) (c_minTeam hH2 h2 hn ok ht hL hM hst)
  have hz := ord_z hm E h2 hn hs
  have e9 : qkT n hm (X, Y, E, T) tm = (if (setOf tm.1).testBit (n - 1) = true then 0 else oI (qOf n (effH hm E) (X, Y, E, T) (setOf tm.1) tm.1.getLast?)) := rfl
  rw [e, e9, qk_val (fun ec => ?_) (fun ec => ?_)]
  · intro e8
    have ef : fin n (effH hm E) none (setOf tm.1) = true := by unfold fin; rw [ec]; rfl
    rw [hz.mp e8] at ef; cases ef
  · rw [hz]
    exact (qOf_none (H := effH hm E) (S := (X, Y, E, T)) h2 hn (2 ^ (n - 1)) (setOf tm.1) (bit_split h2 hs ec) (Nat.sub_le _ _) tm.1.getLast?).symm
theorem c_fq_l {g2 : gG} (hH2 : cH g2 n hm) (h2 : 2 ≤ n) (hn : n ≤ 10) {s m : Nat} (hs : s < 2 ^ n) (hhx : Int32) (hm31 : m < 2 ^ 31) (Q : Nat → Option Nat) (w : g2.1 158 s = nI (safe n (effH hm E) s)) (hQ : ∀ p, p < n → ((safe n (effH hm E) s).testBit p = true → ∃ x, x < 2 ^ 31 ∧ Q p = some x ∧ f_X8_minutesBy (nI s) hhx (nI p) g2 = some (nI x, g2)) ∧ ((safe n (effH hm E) s).testBit p = false → Q p = none)) (d : Nat) : ∀ i fu, i + d = n → d < fu → fb_X8_firstOfQuickest_40 k fu (nI s) hhx (nI m) (nI i) g2 = some (fFirst (fun p => decide (Q p = some m)) d i, g2) := by
  have h10 := lt1024 hs hn
  have hsl : safe n (effH hm E) s < 2 ^ 10 := Nat.lt_of_lt_of_le (msk_lt _ _) (Nat.pow_le_pow_right (by decide) hn)
  induction d with
  | zero =>
    intro i fu hi hf
    obtain ⟨fu, rfl⟩ : ∃ f', fu = f' + 1 := ⟨fu - 1, by omega⟩
    have e : i = n := by omega
    subst e
    unfold fb_X8_firstOfQuickest_40 fs_X8_firstOfQuickest_40 f_X0_count
    simp only [ob_eq]
    rw [hH2.1, if_pos (nI_le (Nat.le_refl _) (by omega))]
    rfl
  | succ d ih =>
    intro i fu hi hf
    obtain ⟨fu, rfl⟩ : ∃ f', fu = f' + 1 := ⟨fu - 1, by omega⟩
    have hgo := ih (i + 1) fu (by omega) (by omega)
    unfold fb_X8_firstOfQuickest_40 fs_X8_firstOfQuickest_40 f_X0_count
    simp only [ob_eq]
    rw [hH2.1, if_neg (nI_ge (by omega) (by omega)), if_pos (inb_nI h10 (by decide)), nI_clamp (by omega), w, c_isIn (by omega) (by omega)]
    simp only [ob_eq, gl_eq, nI_1]
    unfold fFirst
    obtain ⟨q1, q2⟩ := hQ i (by omega)
    cases eb : (safe n (effH hm E) s).testBit i with
    | false =>
      rw [b2_f, if_pos rfl, q2 eb]
      have : decide ((none : Option Nat) = some m) = false := by simp
      rw [this, if_neg (by decide)]
      exact hgo
    | true =>
      obtain ⟨x, hx, ex, em⟩ := q1 eb
      rw [b2_t, if_neg (by decide), em, ex]
      simp only [ob_eq]
      by_cases e9 : x = m
      · rw [if_pos (by rw [e9]), decide_eq_true (by rw [e9]), if_pos rfl]
      · rw [if_neg (fun e8 => e9 ((nI_eq hx hm31).mp e8)), decide_eq_false (fun e8 => e9 (Option.some.inj e8)), if_neg (by decide)]
        exact hgo
theorem st_firstQ {g g1 g2 : gG} {a x E hh z y : Int32} (e1 : f_X5_visitedBy k a g = some (x, g)) (e5 : f_X8_whereIs k a g = some (hh, g)) (e2 : f_X5_easedPlaces k g = some (E, g)) (e3 : f_X8_lookFrom x E g = some ((), g1)) (e4 : f_X8_weighMinutes k x g1 = some ((), g2)) (e6 : f_X8_minutesFrom x hh g2 = some (z, g2)) (e7 : fb_X8_firstOfQuickest_40 k gFuel x hh z (0 : Int32) g2 = some (y, g2)) : f_X8_firstOfQuickest k a g = some (y, g2) := by
  unfold f_X8_firstOfQuickest
  simp only [e1, ob_eq, gl_eq, e2, e3, e4, e5, e6, e7]
theorem fFirst_no {P : Nat → Bool} : ∀ (d i : Nat), (∀ j, i ≤ j → j < i + d → P j = false) → fFirst P d i = -9
  | 0, _, _ => rfl
  | d + 1, i, h => by
    unfold fFirst
    rw [h i (by omega) (by omega), if_neg (by decide)]
    exact fFirst_no d (i + 1) (fun j h1 h2 => h j (by omega) (by omega))
theorem safe_end {n : Nat} {H : Nat → Nat → Bool} {s : Nat} (hc : s.testBit (n - 1) = true) (p : Nat) : (safe n H s).testBit p = false := by
  unfold safe
  rw [msk_bit]
  unfold canV
  rw [hc]; simp
theorem c_firstQ (hH : cH g n hm) (h2 : 2 ≤ n) (hn : n ≤ 10) (hk : k + 8 ≤ 157 ∨ 164 ≤ k) (h : cS g k (X, Y, E, T)) (ok : okS n (X, Y, E, T)) (ht : T[t]? = some tm) : ∃ g', f_X8_firstOfQuickest k (nI t) g = some (qkF n hm (X, Y, E, T) tm, g') ∧ frm 157 164 g g' := by
  have h1 := ok_get ok ht
  have hs := setOf_lt h1.1.2
  have h10 := lt1024 hs hn
  obtain ⟨g1, g2, e1, e2, hL, hM, hst, fr⟩ := c_wmAll hH h2 hn hk h ok ht
  have hH2 := cH_fr hH fr (by omega)
  refine ⟨g2, ?_, fr⟩
  have hr0 : rch n (effH hm E) (setOf tm.1) (setOf tm.1) := rch_iff.mpr (Or.inl rfl)
  have w : g2.1 158 (setOf tm.1) = nI (safe n (effH hm E) (setOf tm.1)) := by
    rw [((hL _ hs).1 hr0).2.1, wOf_safe h2 hn hs]
  have hfr : ∀ q, tm.1.getLast? = some q → q < 10 := fun q hq => by
    have := h1.1.2 q (List.mem_of_getLast? hq); omega
  refine st_firstQ (k := k) (c_visitedBy h ok ht) (c_whereIs h ok hn ht) (c_eased h) e1 e2 (c_minTeam hH2 h2 hn ok ht hL hM hst) ?_
  have e9 : qkF n hm (X, Y, E, T) tm = (if (setOf tm.1).testBit (n - 1) = true then (-9 : Int32) else oF (qOf n (effH hm E) (X, Y, E, T) (setOf tm.1) tm.1.getLast?) (fun m => fFirst (fun p => decide (qV n (effH hm E) (X, Y, E, T) (setOf tm.1) tm.1.getLast? p = some m)) n 0)) := rfl
  rw [e9]
  cases ec : (setOf tm.1).testBit (n - 1) with
  | true =>
    rw [if_pos rfl, if_pos rfl]
    have h9 := c_fq_l (k := k) (E := E) hH2 h2 hn hs (nI (hI tm.1.getLast?)) (m := 0) (by decide) (fun _ => none) w (fun p _ => ⟨fun h8 => (by rw [safe_end ec] at h8; cases h8), fun _ => rfl⟩) n 0 gFuel (by omega) (by unfold gFuel; omega)
    rw [fFirst_no n 0 (fun j _ _ => by simp)] at h9
    exact h9
  | false =>
    rw [if_neg (by decide), if_neg (by decide)]
    have hs9 := bit_split h2 hs ec
    have hR := mfR_of h2 hn hs hL hM (by omega) hs9 hr0
    have hQ : ∀ p, p < n → ((safe n (effH hm E) (setOf tm.1)).testBit p = true → ∃ x, x < 2 ^ 31 ∧ qV n (effH hm E) (X, Y, E, T) (setOf tm.1) tm.1.getLast? p = some x ∧ f_X8_minutesBy (nI (setOf tm.1)) (nI (hI tm.1.getLast?)) (nI p) g2 = some (nI x, g2)) ∧ ((safe n (effH hm E) (setOf tm.1)).testBit p = false → qV n (effH hm E) (X, Y, E, T) (setOf tm.1) tm.1.getLast? p = none) := by
      intro p hp
      refine ⟨fun h8 => ?_, (qV_lead h2 hn hs9 _ hp).2⟩
      obtain ⟨x, ex, em⟩ := c_minBy hH2 h2 hn hst hs9 hR hfr hp h8
      have := qV_190 h2 hn ok.2.2.1 hs9 hfr hp x ex
      exact ⟨x, by omega, ex, em⟩
    cases eq : qOf n (effH hm E) (X, Y, E, T) (setOf tm.1) tm.1.getLast? with
    | none =>
      have h9 := c_fq_l (k := k) (E := E) hH2 h2 hn hs (nI (hI tm.1.getLast?)) (m := 0) (by decide) _ w hQ n 0 gFuel (by omega) (by unfold gFuel; omega)
      rw [fFirst_no n 0 (fun j h7 h8 => by
        rw [qOf_eq n _ _ hs9] at eq
        rw [(minO_none _ n).mp eq j (by omega)]; simp)] at h9
      exact h9
    | some m =>
      have hmb := qOf_190 h2 hn ok.2.2.1 hs9 hfr m eq
      exact c_fq_l (k := k) (E := E) hH2 h2 hn hs (nI (hI tm.1.getLast?)) (m := m) (by omega) _ w hQ n 0 gFuel (by omega) (by unfold gFuel; omega)
end FQ
