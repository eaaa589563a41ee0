/-! PURE: how the reference changes a state, the rest. -/
section MN
variable {g : gG} {r n : Nat} {hm : Nat → Nat} {X Y : Nat → Nat} {E : Nat} {T : List aT}
theorem m_hint (hn : n ≤ 10) (h : mS (g.1 r) n hm (X, Y, E, T)) (ok : okS n (X, Y, E, T)) {t : Nat} {tm : aT} (ht : T[t]? = some tm) : g.1 r (342 + 13 * t + 2) = tm.2.2 ∧ mS ((gI1 g r (342 + 13 * t + 2) (tm.2.2 + 1)).1 r) n hm (X, Y, E, T.set t (tm.1, tm.2.1, tm.2.2 + 1)) := by
  have h1 := ok_get ok ht
  have h1l : t < T.length := h1.2.1
  obtain ⟨q1, q2, q3, q4⟩ := h.2.2.2 t tm ht
  refine ⟨by rw [show 342 + 13 * t + 2 = 344 + 13 * t by omega]; exact q3, ?_, ?_, ?_, ?_⟩
  · refine mH_fr hn h.1 ?_
    intro j hj
    rw [r_self, if_neg (by omega)]
  · rw [r_self, if_neg (by omega)]
    show _ = nI (T.set t _).length
    rw [List.length_set]
    exact h.2.1
  · intro q hq
    rw [r_self, if_neg (by omega), r_self, if_neg (by omega)]
    exact h.2.2.1 q hq
  · intro t' tm' ht'
    by_cases e : t' = t
    · subst e
      have ht' : (T.set t' (tm.1, tm.2.1, tm.2.2 + 1))[t']? = some tm' := ht'
      rw [List.getElem?_set_self h1l] at ht'
      cases ht'
      refine ⟨?_, ?_, ?_, ?_⟩
      · rw [r_self, if_neg (by omega)]; exact q1
      · rw [r_self, if_neg (by omega)]; exact q2
      · rw [r_self, if_pos (by omega)]
      · intro j q hq
        rw [r_self, if_neg (by omega)]; exact q4 j q hq
    · have ht' : (T.set t (tm.1, tm.2.1, tm.2.2 + 1))[t']? = some tm' := ht'
      rw [List.getElem?_set_ne (fun q => e q.symm)] at ht'
      have h9 := okT_len (ok_get ok ht').1
      obtain ⟨d1, d2, d3, d4⟩ := h.2.2.2 t' tm' ht'
      refine ⟨?_, ?_, ?_, ?_⟩
      · rw [r_self, if_neg (by omega)]; exact d1
      · rw [r_self, if_neg (by omega)]; exact d2
      · rw [r_self, if_neg (by omega)]; exact d3
      · intro j q hq
        have := (List.getElem?_eq_some_iff.mp hq).1
        rw [r_self, if_neg (by omega)]; exact d4 j q hq
theorem m_put (hn : n ≤ 10) (h : mS (g.1 r) n hm (X, Y, E, T)) {p : Nat} (hp : p < n) (a b : Nat) : mS ((gI1 (gI1 g r (2 + 2 * p) (nI a)) r (3 + 2 * p) (nI b)).1 r) n hm (fun q => if q = p then a else X q, fun q => if q = p then b else Y q, E, T) := by
  obtain ⟨h1, h2, h3, h4⟩ := h
  refine ⟨?_, ?_, ?_, ?_⟩
  · refine mH_fr hn h1 ?_
    intro j hj
    rw [r_self, if_neg (by omega), r_self, if_neg (by omega)]
  · rw [r_self, if_neg (by omega), r_self, if_neg (by omega)]; exact h2
  · intro q hq
    have := h3 q hq
    by_cases e : q = p
    · subst e
      refine ⟨?_, ?_⟩
      · rw [r_self, if_neg (by omega), r_self, if_pos rfl]; simp
      · rw [r_self, if_pos rfl]; simp
    · refine ⟨?_, ?_⟩
      · rw [r_self, if_neg (by omega), r_self, if_neg (by omega)]; simp only [e, if_false]; exact this.1
      · rw [r_self, if_neg (by omega), r_self, if_neg (by omega)]; simp only [e, if_false]; exact this.2
  · intro t tm ht
    obtain ⟨d1, d2, d3, d4⟩ := h4 t tm ht
    refine ⟨?_, ?_, ?_, ?_⟩
    · rw [r_self, if_neg (by omega), r_self, if_neg (by omega)]; exact d1
    · rw [r_self, if_neg (by omega), r_self, if_neg (by omega)]; exact d2
    · rw [r_self, if_neg (by omega), r_self, if_neg (by omega)]; exact d3
    · intro j q hq
      rw [r_self, if_neg (by omega), r_self, if_neg (by omega)]; exact d4 j q hq
end MN
