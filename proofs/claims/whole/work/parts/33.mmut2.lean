/-! PURE: how the reference changes a state, the rest. -/
section MN
variable {g : gG} {r n : Nat} {hm : Nat → Nat} {X Y : Nat → Nat} {E : Nat} {T : List aT}
theorem m_opens_l {H : Nat → Nat → Bool} (hH : mH (g.1 r) n H) (h2 : 2 ≤ n) (hn : n ≤ 10) {p : Nat} (hp : p < n) (d : Nat) : ∀ s c fu, s + d = 2 ^ n → d < fu → fb_X10_heldBy_4 r 394 fu (nI p) (nI c) (nI s) g = some (nI (fOpens H p d s c), g) := by
  have h1 : 2 ^ n ≤ 1024 := Nat.pow_le_pow_right (n := 2) (by decide) hn
  have e1 : (1 : Int32) <<< (nI n &&& 31) = nI (2 ^ n) := nI_shl1 (by omega)
  induction d with
  | zero =>
    intro s c fu hi hf
    obtain ⟨fu, rfl⟩ : ∃ f', fu = f' + 1 := ⟨fu - 1, by omega⟩
    unfold fb_X10_heldBy_4 fs_X10_heldBy_4
    rw [if_pos (inb0 (by decide) (by decide)), clamp0, hH.1, e1, if_pos (nI_le (by omega) (by omega))]
    rfl
  | succ d ih =>
    intro s c fu hi hf
    obtain ⟨fu, rfl⟩ : ∃ f', fu = f' + 1 := ⟨fu - 1, by omega⟩
    unfold fb_X10_heldBy_4 fs_X10_heldBy_4
    rw [if_pos (inb0 (by decide) (by decide)), clamp0, hH.1, e1, if_neg (nI_ge (by omega) (by omega)), m_has (by omega)]
    simp only [Option.bind_some]
    unfold fOpens fs_X10_heldBy_35 fs_X10_heldBy_36
    simp only [gLet, nI_1]
    have z : nI c + (0 : Int32) = nI c := nI_add c 0
    cases e : s.testBit p with
    | true =>
      rw [if_neg (by decide), z, ih (s + 1) c fu (by omega) (by omega)]
      simp
    | false =>
      rw [if_pos (by decide), m_isHeld hH hn hp (by omega)]
      simp only [Option.bind_some]
      cases e2 : H p s with
      | true =>
        rw [if_neg (by decide), ih (s + 1) (c + 1) fu (by omega) (by omega)]
        simp
      | false =>
        rw [if_pos (by decide), z, ih (s + 1) c fu (by omega) (by omega)]
        simp
theorem m_opens {H : Nat → Nat → Bool} (hH : mH (g.1 r) n H) (h2 : 2 ≤ n) (hn : n ≤ 10) {p : Nat} (hp : p < n) : f_X10_heldBy r 394 (nI p) g = some (nI (fOpens H p (2 ^ n) 0 0), g) := by
  unfold f_X10_heldBy
  exact m_opens_l hH h2 hn hp (2 ^ n) 0 0 gFuel (by omega) (by have h1 : 2 ^ n ≤ 1024 := Nat.pow_le_pow_right (n := 2) (by decide) hn; unfold gFuel; omega)
theorem m_easy_l (r p : Nat) (hp : p < 10) (d : Nat) : ∀ (g : gG) i fu, i + d = 32 → d < fu → ∃ g', fb_X10_makeEasy_2 r 394 fu (nI p) (nI i) g = some ((), g') ∧ (∀ j, 22 + 32 * p + i ≤ j → j < 22 + 32 * p + 32 → g'.1 r j = -1) ∧ (∀ j, (j < 22 + 32 * p + i ∨ 22 + 32 * p + 32 ≤ j) → g'.1 r j = g.1 r j) ∧ frm r (r + 1) g g' := by
  induction d with
  | zero =>
    intro g i fu hi hf
    obtain ⟨fu, rfl⟩ : ∃ f', fu = f' + 1 := ⟨fu - 1, by omega⟩
    have e : i = 32 := by omega
    subst e
    refine ⟨g, ?_, ?_, ?_, frm.rf⟩
    · unfold fb_X10_makeEasy_2 fs_X10_makeEasy_2
      rw [if_pos (show (32 : Int32) ≤ nI 32 by decide)]
    · intro j h1 h2; omega
    · intro j _; rfl
  | succ d ih =>
    intro g i fu hi hf
    obtain ⟨fu, rfl⟩ : ∃ f', fu = f' + 1 := ⟨fu - 1, by omega⟩
    obtain ⟨g', e, a, b, c⟩ := ih (gI1 g r (22 + 32 * p + i) (-1)) (i + 1) fu (by omega) (by omega)
    have e1 : ((22 : Int32) + ((32 : Int32) * nI p)) + nI i = nI (22 + 32 * p + i) := by
      show (nI 22 + (nI 32 * nI p)) + nI i = _
      rw [pk_mul, nI_add, nI_add]
    refine ⟨g', ?_, ?_, ?_, (frm.rf.i1 (by omega) (by omega)).tr c⟩
    · unfold fb_X10_makeEasy_2 fs_X10_makeEasy_2
      rw [if_neg (show ¬ ((32 : Int32) ≤ nI i) from nI_ge (b := 32) (by omega) (by decide)), e1, if_pos (inb_nI (by omega) (by decide)), nI_clamp (by omega)]
      simp only [gLet, nI_1]
      exact e
    · intro j h1 h2
      by_cases e9 : j = 22 + 32 * p + i
      · rw [b j (by omega), r_self, if_pos e9]
      · exact a j (by omega) h2
    · intro j h1
      rw [b j (by omega), r_self, if_neg (by omega)]
theorem m_easy (hn : n ≤ 10) (h : mS (g.1 r) n hm (X, Y, E, T)) (ok : okS n (X, Y, E, T)) {p : Nat} (hp : p < n) : ∃ g', f_X10_makeEasy r 394 (nI p) g = some ((), g') ∧ mS (g'.1 r) n hm (X, Y, E ||| 2 ^ p, T) ∧ frm r (r + 1) g g' := by
  obtain ⟨h1, h2, h3, h4⟩ := h
  obtain ⟨g', e, a, b, c⟩ := m_easy_l r p (by omega) 32 g 0 gFuel (by omega) (by unfold gFuel; omega)
  refine ⟨g', e, ⟨⟨?_, ?_⟩, ?_, ?_, ?_⟩, c⟩
  · rw [b 0 (by omega)]; exact h1.1
  · intro q s hq hs
    show _ = effH hm (E ||| 2 ^ p) q s
    have h9 := h1.2 q s hq hs
    have e8 : effH hm (E ||| 2 ^ p) q s = (effH hm E q s || decide (p = q)) := by
      unfold effH
      rw [← Nat.or_assoc, Nat.testBit_or, Nat.testBit_two_pow]
    rw [e8]
    by_cases e9 : p = q
    · subst e9
      rw [a _ (by omega) (by omega), b_m1 _ (by omega)]
      simp
    · rw [b _ (by omega), h9]
      simp [e9]
  · rw [b 1 (by omega)]; exact h2
  · intro q hq
    rw [b _ (by omega), b _ (by omega)]; exact h3 q hq
  · intro t tm ht
    have h9 := ok_get ok ht
    have h8 := okT_len h9.1
    obtain ⟨d1, d2, d3, d4⟩ := h4 t tm ht
    refine ⟨?_, ?_, ?_, ?_⟩
    · rw [b _ (by omega)]; exact d1
    · rw [b _ (by omega)]; exact d2
    · rw [b _ (by omega)]; exact d3
    · intro j z hz
      have := (List.getElem?_eq_some_iff.mp hz).1
      rw [b _ (by omega)]; exact d4 j z hz
theorem m_hint (hn : n ≤ 10) (h : mS (g.1 r) n hm (X, Y, E, T)) (ok : okS n (X, Y, E, T)) {t : Nat} {tm : aT} (ht : T[t]? = some tm) : g.1 r (342 + 13 * t + 2) = tm.2.2 ∧ mS ((gI1 g r (342 + 13 * t + 2) (tm.2.2 + 1)).1 r) n hm (X, Y, E, T.set t (tm.1, tm.2.1, tm.2.2 + 1)) := by
  have h1 := ok_get ok ht
  have h1l : t < T.length := h1.2.1
  obtain ⟨q1, q2, q3, q4⟩ := h.2.2.2 t tm ht
  refine ⟨by rw [show 342 + 13 * t + 2 = 344 + 13 * t by omega]; exact q3, ?_, ?_, ?_, ?_⟩
  · refine mH_fr hn h.1 ?_
    intro j hj
    rw [r_self, if_neg (by omega)]
  · rw [r_self, if_neg (by omega)]
    show _ = nI (T.set t _).length
    rw [List.length_set]
    exact h.2.1
  · intro q hq
    rw [r_self, if_neg (by omega), r_self, if_neg (by omega)]
    exact h.2.2.1 q hq
  · intro t' tm' ht'
    by_cases e : t' = t
    · subst e
      have ht' : (T.set t' (tm.1, tm.2.1, tm.2.2 + 1))[t']? = some tm' := ht'
      rw [List.getElem?_set_self h1l] at ht'
      cases ht'
      refine ⟨?_, ?_, ?_, ?_⟩
      · rw [r_self, if_neg (by omega)]; exact q1
      · rw [r_self, if_neg (by omega)]; exact q2
      · rw [r_self, if_pos (by omega)]
      · intro j q hq
        rw [r_self, if_neg (by omega)]; exact q4 j q hq
    · have ht' : (T.set t (tm.1, tm.2.1, tm.2.2 + 1))[t']? = some tm' := ht'
      rw [List.getElem?_set_ne (fun q => e q.symm)] at ht'
      have h9 := okT_len (ok_get ok ht').1
      obtain ⟨d1, d2, d3, d4⟩ := h.2.2.2 t' tm' ht'
      refine ⟨?_, ?_, ?_, ?_⟩
      · rw [r_self, if_neg (by omega)]; exact d1
      · rw [r_self, if_neg (by omega)]; exact d2
      · rw [r_self, if_neg (by omega)]; exact d3
      · intro j q hq
        have := (List.getElem?_eq_some_iff.mp hq).1
        rw [r_self, if_neg (by omega)]; exact d4 j q hq
theorem m_put (hn : n ≤ 10) (h : mS (g.1 r) n hm (X, Y, E, T)) {p : Nat} (hp : p < n) (a b : Nat) : mS ((gI1 (gI1 g r (2 + 2 * p) (nI a)) r (3 + 2 * p) (nI b)).1 r) n hm (fun q => if q = p then a else X q, fun q => if q = p then b else Y q, E, T) := by
  obtain ⟨h1, h2, h3, h4⟩ := h
  refine ⟨?_, ?_, ?_, ?_⟩
  · refine mH_fr hn h1 ?_
    intro j hj
    rw [r_self, if_neg (by omega), r_self, if_neg (by omega)]
  · rw [r_self, if_neg (by omega), r_self, if_neg (by omega)]; exact h2
  · intro q hq
    have := h3 q hq
    by_cases e : q = p
    · subst e
      refine ⟨?_, ?_⟩
      · rw [r_self, if_neg (by omega), r_self, if_pos rfl]; simp
      · rw [r_self, if_pos rfl]; simp
    · refine ⟨?_, ?_⟩
      · rw [r_self, if_neg (by omega), r_self, if_neg (by omega)]; simp only [e, if_false]; exact this.1
      · rw [r_self, if_neg (by omega), r_self, if_neg (by omega)]; simp only [e, if_false]; exact this.2
  · intro t tm ht
    obtain ⟨d1, d2, d3, d4⟩ := h4 t tm ht
    refine ⟨?_, ?_, ?_, ?_⟩
    · rw [r_self, if_neg (by omega), r_self, if_neg (by omega)]; exact d1
    · rw [r_self, if_neg (by omega), r_self, if_neg (by omega)]; exact d2
    · rw [r_self, if_neg (by omega), r_self, if_neg (by omega)]; exact d3
    · intro j q hq
      rw [r_self, if_neg (by omega), r_self, if_neg (by omega)]; exact d4 j q hq
end MN
