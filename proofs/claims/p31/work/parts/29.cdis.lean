/-! PURE: the class dismisses a team. -/
theorem cpyOk40 : ∀ i, i < 4 → ∀ j, j < 4 → gCpyOk (nI i * 10) (nI j * 10) 10 40 40 = true ∧ (nI i * (10 : Int32)).toNatClampNeg = 10 * i := by decide +kernel
theorem cpyIn (f f' : Nat → Int32) {a b n j : Nat} (h : b ≤ j) (h2 : j < b + n) : va_cpy f f' a b n j = f (a + (j - b)) := by unfold va_cpy; rw [if_pos ⟨h, h2⟩]
theorem cpyOut (f f' : Nat → Int32) {a b n j : Nat} (h : j < b ∨ b + n ≤ j) : va_cpy f f' a b n j = f' j := by unfold va_cpy; rw [if_neg (by omega)]
section CD
variable {g : gG} {k n : Nat} {X Y : Nat → Nat} {E : Nat} {T : List aT} {hm : Nat → Nat}
theorem c_copyTeam (g : gG) (k : Nat) {i j : Nat} (hi : i < 4) (hj : j < 4) : ∃ g', f_X5_copyTeam k (nI i) (nI j) g = some ((), g') ∧ (∀ tm : aT, tm.1.length ≤ 10 → teamC (fun r => g.1 (k + r)) i tm → teamC (fun r => g'.1 (k + r)) j tm) ∧ (∀ q (tm : aT), q ≠ j → tm.1.length ≤ 10 → teamC (fun r => g.1 (k + r)) q tm → teamC (fun r => g'.1 (k + r)) q tm) ∧ g'.1 k = g.1 k ∧ g'.1 (k + 1) = g.1 (k + 1) ∧ g'.1 (k + 2) = g.1 (k + 2) ∧ frm k (k + 8) g g' := by
  obtain ⟨q1, q2⟩ := cpyOk40 i hi j hj
  obtain ⟨_, q3⟩ := cpyOk40 j hj i hi
  have c10 : (10 : Int32).toNatClampNeg = 10 := by decide
  refine ⟨gCpy (gI1 (gI1 (gI1 (gI1 g (k + 3) j (g.1 (k + 3) i)) (k + 4) j (g.1 (k + 4) i)) (k + 5) j (g.1 (k + 5) i)) (k + 6) j (g.1 (k + 6) i)) (k + 7) (k + 7) (nI i * 10) (nI j * 10) 10, ?_, ?_, ?_, ?_, ?_, ?_, ?_⟩
  · unfold f_X5_copyTeam
    simp only [inb_nI hi (by decide), inb_nI hj (by decide), if_true, nI_clamp (n := i) (by omega), nI_clamp (n := j) (by omega), gLet, q1]
    simp [gI1_1]
  · intro tm hl h
    obtain ⟨h3, h4, h5, h6, h7⟩ := h
    refine ⟨?_, ?_, ?_, ?_, ?_⟩
    · simpa [gI1_1, gCpy_1, upd] using h3
    · simpa [gI1_1, gCpy_1, upd] using h4
    · simpa [gI1_1, gCpy_1, upd] using h5
    · simpa [gI1_1, gCpy_1, upd] using h6
    · intro z p hz
      have hz1 := (List.getElem?_eq_some_iff.mp hz).1
      have := h7 z p hz
      simp only [gI1_1, gCpy_1, upd, q2, q3, c10]
      simp
      rw [cpyIn _ _ (by omega) (by omega)]
      have e : 10 * i + (10 * j + z - 10 * j) = 10 * i + z := by omega
      rw [e]
      exact this
  · intro q tm hq hl h
    obtain ⟨h3, h4, h5, h6, h7⟩ := h
    refine ⟨?_, ?_, ?_, ?_, ?_⟩
    · simpa [gI1_1, gCpy_1, upd, hq] using h3
    · simpa [gI1_1, gCpy_1, upd, hq] using h4
    · simpa [gI1_1, gCpy_1, upd, hq] using h5
    · simpa [gI1_1, gCpy_1, upd, hq] using h6
    · intro z p hz
      have hz1 := (List.getElem?_eq_some_iff.mp hz).1
      have := h7 z p hz
      simp only [gI1_1, gCpy_1, upd, q2, q3, c10]
      simp
      rw [cpyOut _ _ (by omega)]
      exact this
  · simp [gI1_1, gCpy_1]
  · simp [gI1_1, gCpy_1]
  · simp [gI1_1, gCpy_1]
  · exact ((((frm.rf.i1 (by omega) (by omega)).i1 (by omega) (by omega)).i1 (by omega) (by omega)).i1 (by omega) (by omega)).cp (by omega) (by omega)
theorem c_dismiss_l {k t : Nat} (T : List aT) (ht : t < T.length) (hT : T.length ≤ 4) (h10 : ∀ tm ∈ T, tm.1.length ≤ 10) (d : Nat) : ∀ (g : gG) l fu, l + d + 1 = T.length → t ≤ l → d < fu → g.1 k 9 = nI T.length → (∀ i tm, i < l → (T.eraseIdx t)[i]? = some tm → teamC (fun r => g.1 (k + r)) i tm) → (∀ i tm, l < i → T[i]? = some tm → teamC (fun r => g.1 (k + r)) i tm) → ∃ g', fb_X5_dismiss_10 k fu (nI l) g = some (nI (T.length - 1), g') ∧ g'.1 k 8 = g.1 k 8 ∧ g'.1 k 9 = nI (T.length - 1) ∧ g'.1 (k + 1) = g.1 (k + 1) ∧ g'.1 (k + 2) = g.1 (k + 2) ∧ (∀ i tm, (T.eraseIdx t)[i]? = some tm → teamC (fun r => g'.1 (k + r)) i tm) ∧ frm k (k + 8) g g' := by
  induction d with
  | zero =>
    intro g l fu hl htl hf h9 ha hb
    obtain ⟨fu, rfl⟩ : ∃ f', fu = f' + 1 := ⟨fu - 1, by omega⟩
    have e : l + 1 = T.length := by omega
    have e1 : g.1 k 9 - (1 : Int32) = nI (T.length - 1) := by
      rw [h9]; exact pk_sub (a := T.length) (b := 1) (by omega)
    refine ⟨gI1 g k 9 (nI (T.length - 1)), ?_, ?_, ?_, ?_, ?_, ?_, frm.rf.i1 (by omega) (by omega)⟩
    · unfold fb_X5_dismiss_10 fs_X5_dismiss_10
      rw [e1, h9, nI_1, if_pos (nI_le (by omega) (by omega))]
      simp [gLet, gI1_1, upd]
    · simp [gI1_1, upd]
    · simp [gI1_1, upd]
    · simp [gI1_1, upd]
    · simp [gI1_1, upd]
    · intro i tm hi
      have hi2 := (List.getElem?_eq_some_iff.mp hi).1
      rw [List.length_eraseIdx_of_lt ht] at hi2
      have := ha i tm (by omega) hi
      obtain ⟨h3, h4, h5, h6, h7⟩ := this
      exact ⟨by simpa [gI1_1, upd] using h3, by simpa [gI1_1, upd] using h4, by simpa [gI1_1, upd] using h5, by simpa [gI1_1, upd] using h6, by intro j q hq; simpa [gI1_1, upd] using h7 j q hq⟩
  | succ d ih =>
    intro g l fu hl htl hf h9 ha hb
    obtain ⟨fu, rfl⟩ : ∃ f', fu = f' + 1 := ⟨fu - 1, by omega⟩
    obtain ⟨g1, e1, p1, p2, p3, p4, p5, p6⟩ := c_copyTeam g k (i := l + 1) (j := l) (by omega) (by omega)
    have h10' : ∀ i (tm : aT), T[i]? = some tm → tm.1.length ≤ 10 := fun i tm h => h10 tm (List.mem_of_getElem? h)
    have h10e : ∀ i (tm : aT), (T.eraseIdx t)[i]? = some tm → tm.1.length ≤ 10 := fun i tm h => h10 tm (List.mem_of_mem_eraseIdx (List.mem_of_getElem? h))
    obtain ⟨g2, e2, r1, r2, r3, r4, r5, r6⟩ := ih g1 (l + 1) fu (by omega) (by omega) (by omega) (by rw [p3]; exact h9) (by
      intro i tm hi hq
      by_cases e : i = l
      · subst e
        refine p1 tm (h10e i tm hq) ?_
        rw [List.getElem?_eraseIdx_of_ge (by omega)] at hq
        exact hb (i + 1) tm (by omega) hq
      · exact p2 i tm e (h10e i tm hq) (ha i tm (by omega) hq)) (by
      intro i tm hi hq
      exact p2 i tm (by omega) (h10' i tm hq) (hb i tm (by omega) hq))
    refine ⟨g2, ?_, r1.trans (by rw [p3]), r2, r3.trans p4, r4.trans p5, r5, p6.tr r6⟩
    unfold fb_X5_dismiss_10 fs_X5_dismiss_10
    rw [h9, nI_1, if_neg (nI_ge (by omega) (by omega)), e1]
    simp only [Option.bind_some, gLet]
    exact e2
theorem c_dismiss (h : cS g k (X, Y, E, T)) (ok : okS n (X, Y, E, T)) (hn : n ≤ 10) {t : Nat} (ht : t < T.length) : ∃ g', f_X5_dismiss k (nI t) g = some (nI (T.length - 1), g') ∧ cS g' k (X, Y, E, T.eraseIdx t) ∧ frm k (k + 8) g g' := by
  obtain ⟨tm, htm⟩ := get_lt ht
  have hT : T.length ≤ 4 := ok.2.1
  have h10 : ∀ tm ∈ T, tm.1.length ≤ 10 := fun tm hm => Nat.le_trans (okT_len (ok.2.2.2 tm hm)) hn
  obtain ⟨g', e, r1, r2, r3, r4, r5, r6⟩ := c_dismiss_l (k := k) (t := t) T ht hT h10 (T.length - t - 1) g t gFuel (by omega) (Nat.le_refl _) (by unfold gFuel; omega) h.2.1 (by
    intro i tm' hi hq
    rw [List.getElem?_eraseIdx_of_lt hi] at hq
    exact h.2.2.2 i tm' hq) (by
    intro i tm' hi hq
    exact h.2.2.2 i tm' hq)
  refine ⟨g', ?_, ⟨?_, ?_, ?_, ?_⟩, r6⟩
  · unfold f_X5_dismiss
    rw [c_team1 h ok htm]
    simp only [Option.bind_some]
    rw [if_neg (by decide)]
    exact e
  · exact r1.trans h.1
  · rw [show (X, Y, E, T.eraseIdx t).2.2.2.length = T.length - 1 from List.length_eraseIdx_of_lt ht]
    exact r2
  · intro p hp
    have := h.2.2.1 p hp
    show g'.1 (k + 1) p = _ ∧ g'.1 (k + 2) p = _
    rw [r3, r4]
    exact this
  · intro i tm' hq
    exact r5 i tm' hq
end CD
