/-! PURE: what is safe. -/
def fin (n : Nat) (H : Nat → Nat → Bool) (b : Option Nat) (s : Nat) : Bool := s.testBit (n - 1) || good n H b s
def safe (n : Nat) (H : Nat → Nat → Bool) (s : Nat) : Nat := msk (fun p => canV n H s p && fin n H none (s ||| 2 ^ p)) n
theorem bit_split {n s : Nat} (h2 : 2 ≤ n) (hs : s < 2 ^ n) (h : s.testBit (n - 1) = false) : s < 2 ^ (n - 1) := by
  apply Nat.lt_pow_two_of_testBit
  intro i hi
  by_cases e : i = n - 1
  · rw [e]; exact h
  · exact Nat.testBit_lt_two_pow (Nat.lt_of_lt_of_le hs (Nat.pow_le_pow_right (by decide) (by omega)))
section MF
variable {r n : Nat} {H : Nat → Nat → Bool} {b : Option Nat}
theorem m_reaches {g : gG} (h2 : 2 ≤ n) (hn : n ≤ 10) (hH : mH (g.1 r) n H) (hG : ∀ s', s' < 2 ^ (n - 1) → g.1 188 s' = b2 (good n H b s')) {s : Nat} (hs : s < 2 ^ n) : f_X10_reaches r 394 (nI s) g = some (b2 (fin n H b s), g) := by
  have h512 : 2 ^ (n - 1) ≤ 512 := Nat.pow_le_pow_right (n := 2) (j := 9) (by decide) (by omega)
  unfold f_X10_reaches fin
  rw [m_chest hH h2]
  simp only [Option.bind_some]
  rw [m_has (by omega)]
  simp only [Option.bind_some]
  cases e : s.testBit (n - 1) with
  | true => rw [b2_t, if_neg (by decide)]; rfl
  | false =>
    have h3 := bit_split h2 hs e
    rw [b2_f, if_pos rfl, if_pos (inb_nI (by omega) (by decide)), nI_clamp (by omega), hG s h3, Bool.false_or]
    cases good n H b s with
    | true => rw [b2_t, if_neg (by decide)]
    | false => rw [b2_f, if_pos rfl]
theorem m_safe_l {g : gG} (h2 : 2 ≤ n) (hn : n ≤ 10) (hH : mH (g.1 r) n H) (hG : ∀ s', s' < 2 ^ (n - 1) → g.1 188 s' = b2 (good n H none s')) {s : Nat} (hs : s < 2 ^ n) (d : Nat) : ∀ i fu, i + d = n → d < fu → fb_X10_safeOf_26 r 394 fu (nI s) (nI (opn n H s)) (nI (msk (fun p => canV n H s p && fin n H none (s ||| 2 ^ p)) i)) (nI i) g = some (nI (safe n H s), g) := by
  induction d with
  | zero =>
    intro i fu hi hf
    obtain ⟨fu, rfl⟩ : ∃ f', fu = f' + 1 := ⟨fu - 1, by omega⟩
    have e : i = n := by omega
    subst e
    unfold fb_X10_safeOf_26 fs_X10_safeOf_26
    rw [if_pos (inb0 (by decide) (by decide)), clamp0, hH.1, if_pos (nI_le (Nat.le_refl _) (by omega))]
    rfl
  | succ d ih =>
    intro i fu hi hf
    obtain ⟨fu, rfl⟩ : ∃ f', fu = f' + 1 := ⟨fu - 1, by omega⟩
    have hgo := ih (i + 1) fu (by omega) (by omega)
    have hlt := opn_lt (n := n) (H := H) (s := s)
    unfold fb_X10_safeOf_26 fs_X10_safeOf_26
    rw [if_pos (inb0 (by decide) (by decide)), clamp0, hH.1, if_neg (nI_ge (by omega) (by omega)), m_has (by omega)]
    simp only [Option.bind_some]
    rw [opn_bit]
    have ei : decide (i < n) = true := by simp; omega
    rw [ei, Bool.true_and]
    unfold fs_X10_safeOf_67 fs_X10_safeOf_68
    simp only [gLet, nI_1]
    rw [msk] at hgo
    cases eC : canV n H s i with
    | false =>
      rw [b2_f, if_pos rfl]
      rw [eC] at hgo
      rw [← hgo]
      show fb_X10_safeOf_26 r 394 fu (nI s) (nI (opn n H s)) (nI _ ||| nI 0) _ g = _
      rw [fa_or]
      simp
    | true =>
      rw [b2_t, if_neg (by decide), show (1 : Int32) <<< (nI i &&& 31) = nI (2 ^ i) from nI_shl1 (by omega), fa_or, m_reaches h2 hn hH hG (or_lt hs (by omega))]
      simp only [Option.bind_some]
      rw [eC] at hgo
      cases eF : fin n H none (s ||| 2 ^ i) with
      | false =>
        rw [b2_f, if_pos rfl]
        rw [eF] at hgo
        rw [← hgo]
        show fb_X10_safeOf_26 r 394 fu (nI s) (nI (opn n H s)) (nI _ ||| nI 0) _ g = _
        rw [fa_or]
        simp
      | true =>
        rw [b2_t, if_neg (by decide), fa_or]
        rw [eF] at hgo
        rw [← hgo]
        rfl
theorem m_safe {g : gG} {hm : Nat → Nat} {S : aS} (h2 : 2 ≤ n) (hn : n ≤ 10) (hr : r ≠ 188) (h : mS (g.1 r) n hm S) (ok : okS n S) {t : Nat} {tm : aT} (ht : S.2.2.2[t]? = some tm) : ∃ g', f_X10_safeOf r 394 (nI t) g = some (nI (safe n (effH hm S.2.2.1) (setOf tm.1)), g') ∧ frm 188 189 g g' := by
  have h1 := ok_get ok ht
  have hs : setOf tm.1 < 2 ^ n := setOf_lt h1.1.2
  obtain ⟨g', e, a, c⟩ := m_layGood (g := g) (r := r) (H := effH hm S.2.2.1) (b := none) h2 hn (fun q hq => by cases hq) hr h.1
  refine ⟨g', ?_, c⟩
  unfold f_X10_safeOf
  rw [m_visited h ok hn ht]
  simp only [Option.bind_some, gLet]
  rw [m_openOf h.1 h2 hn (lt1024 hs hn)]
  simp only [Option.bind_some]
  rw [show f_X10_layGood r 394 (-9 : Int32) g = _ from e]
  simp only [Option.bind_some]
  exact m_safe_l h2 hn (by rw [c.1 r (by omega)]; exact h.1) a hs n 0 gFuel (by omega) (by unfold gFuel; omega)
end MF
