/-! PURE: how the reference changes a state. -/
section MM
variable {g : gG} {r n : Nat} {hm : Nat → Nat} {X Y : Nat → Nat} {E : Nat} {T : List aT}
theorem r_self (g : gG) (r i : Nat) (v : Int32) (j : Nat) : (gI1 g r i v).1 r j = if j = i then v else g.1 r j := by rw [gI1_1, if_pos rfl]; rfl
theorem mH_fr {f f' : Nat → Int32} {n : Nat} {H : Nat → Nat → Bool} (hn : n ≤ 10) (h : mH f n H) (e : ∀ j, (j = 0 ∨ (22 ≤ j ∧ j < 342)) → f' j = f j) : mH f' n H := by
  refine ⟨?_, ?_⟩
  · rw [e 0 (Or.inl rfl)]; exact h.1
  · intro p s hp hs
    rw [e _ (Or.inr (by omega))]
    exact h.2 p s hp hs
theorem m_clear_l (r t : Nat) (ht : t < 4) (d : Nat) : ∀ (g : gG) i fu, i + d = 13 → d < fu → ∃ g', fb_X10_clearTeam_2 r 394 fu (nI t) (nI i) g = some ((), g') ∧ (∀ j, 342 + 13 * t + i ≤ j → j < 342 + 13 * t + 13 → g'.1 r j = 0) ∧ (∀ j, (j < 342 + 13 * t + i ∨ 342 + 13 * t + 13 ≤ j) → g'.1 r j = g.1 r j) ∧ frm r (r + 1) g g' := by
  induction d with
  | zero =>
    intro g i fu hi hf
    obtain ⟨fu, rfl⟩ : ∃ f', fu = f' + 1 := ⟨fu - 1, by omega⟩
    have e : i = 13 := by omega
    subst e
    refine ⟨g, ?_, ?_, ?_, frm.rf⟩
    · unfold fb_X10_clearTeam_2 fs_X10_clearTeam_2
      rw [if_pos (show (13 : Int32) ≤ nI 13 by decide)]
    · intro j h1 h2; omega
    · intro j _; rfl
  | succ d ih =>
    intro g i fu hi hf
    obtain ⟨fu, rfl⟩ : ∃ f', fu = f' + 1 := ⟨fu - 1, by omega⟩
    obtain ⟨g', e, a, b, c⟩ := ih (gI1 g r (342 + 13 * t + i) 0) (i + 1) fu (by omega) (by omega)
    refine ⟨g', ?_, ?_, ?_, (frm.rf.i1 (by omega) (by omega)).tr c⟩
    · unfold fb_X10_clearTeam_2 fs_X10_clearTeam_2
      rw [if_neg (show ¬ ((13 : Int32) ≤ nI i) from nI_ge (b := 13) (by omega) (by decide)), m_cell]
      simp only [Option.bind_some]
      rw [if_pos (inb_nI (by omega) (by decide)), nI_clamp (by omega)]
      simp only [gLet, nI_1]
      exact e
    · intro j h1 h2
      by_cases e9 : j = 342 + 13 * t + i
      · rw [b j (by omega), r_self, if_pos e9]
      · exact a j (by omega) h2
    · intro j h1
      rw [b j (by omega), r_self, if_neg (by omega)]
theorem m_adds (hn : n ≤ 10) (h : mS (g.1 r) n hm (X, Y, E, T)) (ok : okS n (X, Y, E, T)) (hl : T.length < 4) : ∃ g', f_X10_adds r 394 g = some (1, g') ∧ mS (g'.1 r) n hm (X, Y, E, T ++ [([], 0, 0)]) ∧ frm r (r + 1) g g' := by
  obtain ⟨h1, h2, h3, h4⟩ := h
  have h2 : g.1 r 1 = nI T.length := h2
  obtain ⟨g', e, a, b, c⟩ := m_clear_l r T.length hl 13 g 0 gFuel (by omega) (by unfold gFuel; omega)
  have e1 : g'.1 r 1 = nI T.length := by rw [b 1 (by omega)]; exact h2
  have c1 : (1 : Int32).toNatClampNeg = 1 := by decide
  refine ⟨gI1 g' r 1 (nI (T.length + 1)), ?_, ⟨?_, ?_, ?_, ?_⟩, c.i1 (by omega) (by omega)⟩
  · unfold f_X10_adds f_X10_clearTeam
    rw [if_pos (show inb 1 394 = true by decide), c1, h2, if_neg (show ¬ (nI T.length = (4 : Int32)) from fun e9 => by have := (nI_eq (b := 4) (by omega) (by decide)).mp e9; omega), if_pos (show inb 1 394 = true by decide), show fb_X10_clearTeam_2 r 394 gFuel (nI T.length) (0 : Int32) g = _ from e]
    simp only [Option.bind_some, gLet]
    rw [if_pos (show inb 1 394 = true by decide), e1, nI_1, if_pos (show inb 1 394 = true by decide)]
  · refine mH_fr hn h1 ?_
    intro j hj
    rw [r_self, if_neg (by omega), b j (by omega)]
  · rw [r_self, if_pos rfl]; show _ = nI (T ++ [([], 0, 0)]).length; rw [List.length_append]; rfl
  · intro p hp
    rw [r_self, if_neg (by omega), r_self, if_neg (by omega), b _ (by omega), b _ (by omega)]
    exact h3 p hp
  · intro t tm ht
    have ht : (T ++ [([], 0, 0)])[t]? = some tm := ht
    by_cases htl : t < T.length
    · rw [List.getElem?_append_left htl] at ht
      have h9 := okT_len (ok_get ok ht).1
      obtain ⟨d1, d2, d3, d4⟩ := h4 t tm ht
      refine ⟨?_, ?_, ?_, ?_⟩
      · rw [r_self, if_neg (by omega), b _ (by omega)]; exact d1
      · rw [r_self, if_neg (by omega), b _ (by omega)]; exact d2
      · rw [r_self, if_neg (by omega), b _ (by omega)]; exact d3
      · intro j p hp
        have := (List.getElem?_eq_some_iff.mp hp).1
        rw [r_self, if_neg (by omega), b _ (by omega)]; exact d4 j p hp
    · have hlt := (List.getElem?_eq_some_iff.mp ht).1
      rw [List.length_append] at hlt
      have hlt : t < T.length + 1 := hlt
      have e9 : t = T.length := by omega
      subst e9
      have e8 : tm = ([], 0, 0) := by simpa using ht.symm
      subst e8
      refine ⟨?_, ?_, ?_, ?_⟩
      · rw [r_self, if_neg (by omega), a _ (by omega) (by omega)]; rfl
      · rw [r_self, if_neg (by omega), a _ (by omega) (by omega)]
      · rw [r_self, if_neg (by omega), a _ (by omega) (by omega)]
      · intro j p hp
        have := (List.getElem?_eq_some_iff.mp hp).1
        exact absurd this (by simp)
theorem m_visit (h2 : 2 ≤ n) (hn : n ≤ 10) (h : mS (g.1 r) n hm (X, Y, E, T)) (ok : okS n (X, Y, E, T)) {t p : Nat} {tm : aT} (ht : T[t]? = some tm) (hp : p < n) (hv : (setOf tm.1).testBit p = false) : ∃ g', f_X10_visit r 394 (nI t) (nI p) g = some ((), g') ∧ mS (g'.1 r) n hm (X, Y, E, T.set t (tm.1 ++ [p], tm.2.1 + nI (mns (X, Y, E, T) tm.1.getLast? p), tm.2.2)) ∧ frm r (r + 1) g g' := by
  have h1 := ok_get ok ht
  have h1l : t < T.length := h1.2.1
  have hl1 := okT_len (okT_app h1.1 hp hv 0 0)
  have hl1 : tm.1.length < n := by simp at hl1; omega
  have hlast : ∀ q, tm.1.getLast? = some q → q < n := fun q hq => h1.1.2 q (List.mem_of_getLast? hq)
  obtain ⟨q1, q2, q3, q4⟩ := h.2.2.2 t tm ht
  have q2 : g.1 r (342 + 13 * t + 1) = tm.2.1 := by rw [show 342 + 13 * t + 1 = 343 + 13 * t by omega]; exact q2
  have q1 : g.1 r (342 + 13 * t + 0) = nI tm.1.length := q1
  refine ⟨gI1 (gI1 (gI1 g r (342 + 13 * t + 1) (tm.2.1 + nI (mns (X, Y, E, T) tm.1.getLast? p))) r (342 + 13 * t + (3 + tm.1.length)) (nI p)) r (342 + 13 * t + 0) (nI (tm.1.length + 1)), ?_, ⟨?_, ?_, ?_, ?_⟩, ((frm.rf.i1 (by omega) (by omega)).i1 (by omega) (by omega)).i1 (by omega) (by omega)⟩
  · unfold f_X10_visit
    rw [show f_X10_cell (nI t) (1 : Int32) g = _ from m_cell t 1 g]
    simp only [Option.bind_some]
    rw [if_pos (inb_nI (by omega) (by decide)), m_last h ok hn ht]
    simp only [Option.bind_some]
    rw [lastP_fr, m_minutes h ok hn hp hlast]
    simp only [Option.bind_some]
    rw [if_pos (inb_nI (by omega) (by decide)), nI_clamp (by omega), q2]
    simp only [gLet]
    rw [show ∀ g' : gG, f_X10_cell (nI t) (0 : Int32) g' = _ from fun g' => m_cell t 0 g']
    simp only [Option.bind_some]
    rw [if_pos (inb_nI (by omega) (by decide)), nI_clamp (by omega), r_self, if_neg (by omega), q1, show (3 : Int32) + nI tm.1.length = nI (3 + tm.1.length) from nI_add 3 _, m_cell]
    simp only [Option.bind_some]
    rw [if_pos (inb_nI (by omega) (by decide)), nI_clamp (by omega)]
    rw [show ∀ g' : gG, f_X10_cell (nI t) (0 : Int32) g' = _ from fun g' => m_cell t 0 g']
    simp only [Option.bind_some]
    rw [if_pos (inb_nI (by omega) (by decide)), if_pos (inb_nI (by omega) (by decide)), nI_clamp (by omega), r_self, if_neg (by omega), r_self, if_neg (by omega), q1, nI_1]
  · refine mH_fr hn h.1 ?_
    intro j hj
    rw [r_self, if_neg (by omega), r_self, if_neg (by omega), r_self, if_neg (by omega)]
  · rw [r_self, if_neg (by omega), r_self, if_neg (by omega), r_self, if_neg (by omega)]
    show _ = nI (T.set t _).length
    rw [List.length_set]
    exact h.2.1
  · intro q hq
    rw [r_self, if_neg (by omega), r_self, if_neg (by omega), r_self, if_neg (by omega), r_self, if_neg (by omega), r_self, if_neg (by omega), r_self, if_neg (by omega)]
    exact h.2.2.1 q hq
  · intro t' tm' ht'
    by_cases e : t' = t
    · subst e
      have ht' : (T.set t' (tm.1 ++ [p], tm.2.1 + nI (mns (X, Y, E, T) tm.1.getLast? p), tm.2.2))[t']? = some tm' := ht'
      rw [List.getElem?_set_self h1l] at ht'
      cases ht'
      refine ⟨?_, ?_, ?_, ?_⟩
      · rw [r_self, if_pos (by omega)]; show _ = nI (tm.1 ++ [p]).length; rw [List.length_append]; rfl
      · rw [r_self, if_neg (by omega), r_self, if_neg (by omega), r_self, if_pos (by omega)]
      · rw [r_self, if_neg (by omega), r_self, if_neg (by omega), r_self, if_neg (by omega)]; exact q3
      · intro j q hq
        have hq : (tm.1 ++ [p])[j]? = some q := hq
        by_cases ej : j < tm.1.length
        · rw [List.getElem?_append_left ej] at hq
          rw [r_self, if_neg (by omega), r_self, if_neg (by omega), r_self, if_neg (by omega)]; exact q4 j q hq
        · have hlt := (List.getElem?_eq_some_iff.mp hq).1
          rw [List.length_append] at hlt
          have hlt : j < tm.1.length + 1 := hlt
          have e : j = tm.1.length := by omega
          subst e
          have e8 : p = q := by simpa using hq
          subst e8
          rw [r_self, if_neg (by omega), r_self, if_pos (by omega)]
    · have ht' : (T.set t (tm.1 ++ [p], tm.2.1 + nI (mns (X, Y, E, T) tm.1.getLast? p), tm.2.2))[t']? = some tm' := ht'
      rw [List.getElem?_set_ne (fun q => e q.symm)] at ht'
      have h9 := okT_len (ok_get ok ht').1
      obtain ⟨d1, d2, d3, d4⟩ := h.2.2.2 t' tm' ht'
      refine ⟨?_, ?_, ?_, ?_⟩
      · rw [r_self, if_neg (by omega), r_self, if_neg (by omega), r_self, if_neg (by omega)]; exact d1
      · rw [r_self, if_neg (by omega), r_self, if_neg (by omega), r_self, if_neg (by omega)]; exact d2
      · rw [r_self, if_neg (by omega), r_self, if_neg (by omega), r_self, if_neg (by omega)]; exact d3
      · intro j q hq
        have := (List.getElem?_eq_some_iff.mp hq).1
        rw [r_self, if_neg (by omega), r_self, if_neg (by omega), r_self, if_neg (by omega)]; exact d4 j q hq
theorem m_drop_l (r : Nat) (d : Nat) : ∀ (g : gG) i fu, i + d = 381 → d < fu → 342 ≤ i → ∃ g', fb_X10_drop_6 r 394 fu (nI i) g = some ((), gI1 g' r 1 (g.1 r 1 - 1)) ∧ (∀ j, i ≤ j → j < 381 → g'.1 r j = g.1 r (j + 13)) ∧ (∀ j, (j < i ∨ 381 ≤ j) → g'.1 r j = g.1 r j) ∧ frm r (r + 1) g g' := by
  have c1 : (1 : Int32).toNatClampNeg = 1 := by decide
  induction d with
  | zero =>
    intro g i fu hi hf h3
    obtain ⟨fu, rfl⟩ : ∃ f', fu = f' + 1 := ⟨fu - 1, by omega⟩
    have e : i = 381 := by omega
    subst e
    refine ⟨g, ?_, ?_, ?_, frm.rf⟩
    · unfold fb_X10_drop_6 fs_X10_drop_6
      rw [if_pos (show (381 : Int32) ≤ nI 381 by decide), if_pos (show inb 1 394 = true by decide), if_pos (show inb 1 394 = true by decide), c1]
      rfl
    · intro j h1 h2; omega
    · intro j _; rfl
  | succ d ih =>
    intro g i fu hi hf h3
    obtain ⟨fu, rfl⟩ : ∃ f', fu = f' + 1 := ⟨fu - 1, by omega⟩
    obtain ⟨g', e, a, b, c⟩ := ih (gI1 g r i (g.1 r (i + 13))) (i + 1) fu (by omega) (by omega) (by omega)
    refine ⟨g', ?_, ?_, ?_, (frm.rf.i1 (by omega) (by omega)).tr c⟩
    · unfold fb_X10_drop_6 fs_X10_drop_6
      rw [if_neg (show ¬ ((381 : Int32) ≤ nI i) from nI_ge (b := 381) (by omega) (by decide)), show nI i + (13 : Int32) = nI (i + 13) from nI_add i 13, if_pos (inb_nI (by omega) (by decide)), if_pos (inb_nI (by omega) (by decide)), nI_clamp (by omega), nI_clamp (by omega)]
      simp only [gLet, nI_1]
      rw [e, r_self, if_neg (by omega)]
    · intro j h1 h2
      by_cases e9 : j = i
      · rw [b j (by omega), r_self, if_pos e9, e9]
      · rw [a j (by omega) h2, r_self, if_neg (by omega)]
    · intro j h1
      rw [b j (by omega), r_self, if_neg (by omega)]
theorem m_drop (hn : n ≤ 10) (h : mS (g.1 r) n hm (X, Y, E, T)) (ok : okS n (X, Y, E, T)) {t : Nat} (ht : t < T.length) : ∃ g', f_X10_drop r 394 (nI t) g = some ((), g') ∧ mS (g'.1 r) n hm (X, Y, E, T.eraseIdx t) ∧ frm r (r + 1) g g' := by
  have hT : T.length ≤ 4 := ok.2.1
  obtain ⟨h1, h2, h3, h4⟩ := h
  have h2 : g.1 r 1 = nI T.length := h2
  obtain ⟨g', e, a, b, c⟩ := m_drop_l r (381 - (342 + 13 * t)) g (342 + 13 * t) gFuel (by omega) (by unfold gFuel; omega) (by omega)
  have e1 : g.1 r 1 - (1 : Int32) = nI (T.length - 1) := by rw [h2]; exact pk_sub (a := T.length) (b := 1) (by omega)
  rw [e1] at e
  refine ⟨gI1 g' r 1 (nI (T.length - 1)), ?_, ⟨?_, ?_, ?_, ?_⟩, c.i1 (by omega) (by omega)⟩
  · unfold f_X10_drop
    rw [show f_X10_cell (nI t) (0 : Int32) g = _ from m_cell t 0 g]
    simp only [Option.bind_some, gLet]
    exact e
  · refine mH_fr hn h1 ?_
    intro j hj
    rw [r_self, if_neg (by omega), b j (by omega)]
  · rw [r_self, if_pos rfl]; show _ = nI (T.eraseIdx t).length; rw [List.length_eraseIdx_of_lt ht]
  · intro p hp
    rw [r_self, if_neg (by omega), r_self, if_neg (by omega), b _ (by omega), b _ (by omega)]
    exact h3 p hp
  · intro i tm hi
    have hi : (T.eraseIdx t)[i]? = some tm := hi
    have hlt := (List.getElem?_eq_some_iff.mp hi).1
    rw [List.length_eraseIdx_of_lt ht] at hlt
    by_cases htl : i < t
    · rw [List.getElem?_eraseIdx_of_lt htl] at hi
      have h9 := okT_len (ok_get ok hi).1
      obtain ⟨d1, d2, d3, d4⟩ := h4 i tm hi
      refine ⟨?_, ?_, ?_, ?_⟩
      · rw [r_self, if_neg (by omega), b _ (by omega)]; exact d1
      · rw [r_self, if_neg (by omega), b _ (by omega)]; exact d2
      · rw [r_self, if_neg (by omega), b _ (by omega)]; exact d3
      · intro j p hp
        have := (List.getElem?_eq_some_iff.mp hp).1
        rw [r_self, if_neg (by omega), b _ (by omega)]; exact d4 j p hp
    · rw [List.getElem?_eraseIdx_of_ge (by omega)] at hi
      have h9 := okT_len (ok_get ok hi).1
      obtain ⟨d1, d2, d3, d4⟩ := h4 (i + 1) tm hi
      refine ⟨?_, ?_, ?_, ?_⟩
      · rw [r_self, if_neg (by omega), a _ (by omega) (by omega)]
        have e9 : 342 + 13 * i + 13 = 342 + 13 * (i + 1) := by omega
        rw [e9]; exact d1
      · rw [r_self, if_neg (by omega), a _ (by omega) (by omega)]
        have e9 : 343 + 13 * i + 13 = 343 + 13 * (i + 1) := by omega
        rw [e9]; exact d2
      · rw [r_self, if_neg (by omega), a _ (by omega) (by omega)]
        have e9 : 344 + 13 * i + 13 = 344 + 13 * (i + 1) := by omega
        rw [e9]; exact d3
      · intro j p hp
        have := (List.getElem?_eq_some_iff.mp hp).1
        rw [r_self, if_neg (by omega), a _ (by omega) (by omega)]
        have e9 : 345 + 13 * i + j + 13 = 345 + 13 * (i + 1) + j := by omega
        rw [e9]; exact d4 j p hp
end MM
