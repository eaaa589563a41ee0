/-! PURE: how the class changes a state, the rest. -/
theorem cS_teams {g : gG} {k : Nat} {X Y : Nat → Nat} {E : Nat} {T : List aT} (h : cS g k (X, Y, E, T)) {t : Nat} {tm : aT} (ht : T[t]? = some tm) : teamC (fun j => g.1 (k + j)) t tm := h.2.2.2 t tm ht
section CN
variable {g : gG} {k n : Nat} {X Y : Nat → Nat} {E : Nat} {T : List aT} {hm : Nat → Nat}
theorem c_countHint (h : cS g k (X, Y, E, T)) (ok : okS n (X, Y, E, T)) {t : Nat} {tm : aT} (ht : T[t]? = some tm) : ∃ g', f_X5_countHint k (nI t) g = some ((), g') ∧ cS g' k (X, Y, E, T.set t (tm.1, tm.2.1, tm.2.2 + 1)) ∧ frm k (k + 8) g g' := by
  have h1 := ok_get ok ht
  obtain ⟨r3, r4, r5, r6, r7⟩ := h.2.2.2 t tm ht
  have r6 : g.1 (k + 6) t = tm.2.2 := r6
  refine ⟨gI1 g (k + 6) t (tm.2.2 + 1), ?_, ?_, frm.rf.i1 (by omega) (by omega)⟩
  · unfold f_X5_countHint
    rw [c_team1 h ok ht]
    simp only [Option.bind_some]
    rw [if_neg (by decide), if_pos (inb_nI h1.2.2 (by decide)), if_pos (inb_nI h1.2.2 (by decide)), nI_clamp (by omega), r6]
    rfl
  · refine ⟨?_, ?_, ?_, ?_⟩
    · have := h.1
      simpa [gI1_1, upd] using this
    · have := h.2.1
      simpa [gI1_1, upd] using this
    · intro q hq
      have := h.2.2.1 q hq
      simpa [gI1_1, upd] using this
    · intro t' tm' ht'
      by_cases e : t' = t
      · subst e
        have ht' : (T.set t' (tm.1, tm.2.1, tm.2.2 + 1))[t']? = some tm' := ht'
        rw [List.getElem?_set_self h1.2.1] at ht'
        cases ht'
        exact ⟨by simpa [gI1_1, upd] using r3, by simpa [gI1_1, upd] using r4, by simpa [gI1_1, upd] using r5, by simp [gI1_1, upd], by intro j q hq; simpa [gI1_1, upd] using r7 j q hq⟩
      · have ht' : (T.set t (tm.1, tm.2.1, tm.2.2 + 1))[t']? = some tm' := ht'
        rw [List.getElem?_set_ne (fun q => e q.symm)] at ht'
        have h3 := h.2.2.2 t' tm' ht'
        exact ⟨by simpa [gI1_1, upd, e] using h3.1, by simpa [gI1_1, upd, e] using h3.2.1, by simpa [gI1_1, upd, e] using h3.2.2.1, by simpa [gI1_1, upd, e] using h3.2.2.2.1, by intro j q hq; simpa [gI1_1, upd] using h3.2.2.2.2 j q hq⟩
theorem c_put (hH : cH g n hm) (hn : n ≤ 10) (h : cS g k (X, Y, E, T)) (hk : k ≠ 14 ∧ 16 ≤ k) {p a b : Nat} (hp : p < n) : ∃ g', f_X5_put k (nI p) (nI a) (nI b) g = some (nI (10 * X p + Y p), g') ∧ cS g' k (fun q => if q = p then a else X q, fun q => if q = p then b else Y q, E, T) ∧ frm k (k + 8) g g' := by
  obtain ⟨r1, r2⟩ := h.2.2.1 p (by omega)
  have r1 : g.1 (k + 1) p = nI (X p) := r1
  have r2 : g.1 (k + 2) p = nI (Y p) := r2
  refine ⟨gI1 (gI1 g (k + 1) p (nI a)) (k + 2) p (nI b), ?_, ?_, (frm.rf.i1 (by omega) (by omega)).i1 (by omega) (by omega)⟩
  · unfold f_X5_put
    rw [c_hasPlace hH hn, nI_toInt (by omega)]
    simp only [Option.bind_some]
    rw [if_neg (b2n (by simp; omega)), inb_nI (show p < 10 by omega) (by decide)]
    simp only [if_true, nI_clamp (n := p) (by omega), gLet, r1, r2]
    have e : (10 : Int32) * nI (X p) + nI (Y p) = nI (10 * X p + Y p) := by
      show nI 10 * _ + _ = _
      rw [pk_mul, nI_add]
    rw [e]
  · refine ⟨?_, ?_, ?_, ?_⟩
    · have := h.1
      simpa [gI1_1, upd] using this
    · have := h.2.1
      simpa [gI1_1, upd] using this
    · intro q hq
      have := h.2.2.1 q hq
      by_cases e : q = p
      · subst e; simp [gI1_1, upd]
      · simpa [gI1_1, upd, e] using this
    · intro t tm ht
      have h3 := h.2.2.2 t tm ht
      exact ⟨by simpa [gI1_1, upd] using h3.1, by simpa [gI1_1, upd] using h3.2.1, by simpa [gI1_1, upd] using h3.2.2.1, by simpa [gI1_1, upd] using h3.2.2.2.1, by intro j q hq; simpa [gI1_1, upd] using h3.2.2.2.2 j q hq⟩
theorem c_makeEasy (hH : cH g n hm) (hn : n ≤ 10) (h : cS g k (X, Y, E, T)) (hk : k ≠ 14 ∧ 16 ≤ k) {p : Nat} (hp : p < n) : ∃ g', f_X5_makeEasy k (nI p) g = some ((), g') ∧ cS g' k (X, Y, E ||| 2 ^ p, T) ∧ frm k (k + 8) g g' := by
  have r : g.1 k 8 = nI E := h.1
  refine ⟨gI1 g k 8 (nI E ||| nI (2 ^ p)), ?_, ?_, frm.rf.i1 (by omega) (by omega)⟩
  · unfold f_X5_makeEasy
    rw [c_hasPlace hH hn, nI_toInt (by omega)]
    simp only [Option.bind_some]
    rw [if_neg (b2n (by simp; omega)), r, show (1 : Int32) <<< (nI p &&& 31) = nI (2 ^ p) from nI_shl1 (by omega)]
    rfl
  · refine ⟨?_, ?_, ?_, ?_⟩
    · simp [gI1_1, upd, fa_or]
    · have := h.2.1
      simpa [gI1_1, upd] using this
    · intro q hq
      have := h.2.2.1 q hq
      simpa [gI1_1, upd] using this
    · intro t tm ht
      have h3 := h.2.2.2 t tm ht
      exact ⟨by simpa [gI1_1, upd] using h3.1, by simpa [gI1_1, upd] using h3.2.1, by simpa [gI1_1, upd] using h3.2.2.1, by simpa [gI1_1, upd] using h3.2.2.2.1, by intro j q hq; simpa [gI1_1, upd] using h3.2.2.2.2 j q hq⟩
theorem gCpy_1 (g : gG) (k0 k1 : Nat) (sp dp m : Int32) (j : Nat) : (gCpy g k0 k1 sp dp m).1 j = if j = k1 then va_cpy (g.1 k0) (g.1 k1) sp.toNatClampNeg dp.toNatClampNeg m.toNatClampNeg else g.1 j := rfl
theorem cpy0 (f f' : Nat → Int32) {n j : Nat} (h : j < n) : va_cpy f f' 0 0 n j = f j := by unfold va_cpy; rw [if_pos (by omega)]; congr 1; omega
/-- copying a whole state -/
theorem c_copyFrom {r : Nat} (h : cS g r (X, Y, E, T)) (ok : okS n (X, Y, E, T)) (hn : n ≤ 10) (hkr : k + 8 ≤ r ∨ r + 8 ≤ k) : ∃ g', f_X5_copyFrom k r g = some ((), g') ∧ cS g' k (X, Y, E, T) ∧ frm k (k + 8) g g' := by
  have q10 : gCpyOk (0 : Int32) (0 : Int32) (10 : Int32) 10 10 = true := by decide
  have q4 : gCpyOk (0 : Int32) (0 : Int32) (4 : Int32) 4 4 = true := by decide
  have q40 : gCpyOk (0 : Int32) (0 : Int32) (40 : Int32) 40 40 = true := by decide
  have c10 : (10 : Int32).toNatClampNeg = 10 := by decide
  have c4 : (4 : Int32).toNatClampNeg = 4 := by decide
  have c40 : (40 : Int32).toNatClampNeg = 40 := by decide
  have c0 : (0 : Int32).toNatClampNeg = 0 := by decide
  refine ⟨?_, ?_, ?_, ?_⟩
  rotate_left
  · unfold f_X5_copyFrom
    simp only [q10, q4, q40, if_true, gLet]
    rfl
  · have a1 : ¬ r + 1 = k := by omega
    have a2 : ¬ r + 2 = k := by omega
    have a3 : ¬ r + 3 = k := by omega
    have a4 : ¬ r + 4 = k := by omega
    have a5 : ¬ r + 5 = k := by omega
    have a6 : ¬ r + 6 = k := by omega
    have a7 : ¬ r + 7 = k := by omega
    have b1 : ¬ r = k + 1 := by omega
    have b2 : ¬ r = k + 2 := by omega
    have b3 : ¬ r = k + 3 := by omega
    have b4 : ¬ r = k + 4 := by omega
    have b5 : ¬ r = k + 5 := by omega
    have b6 : ¬ r = k + 6 := by omega
    have b7 : ¬ r = k + 7 := by omega
    have b0 : ¬ r = k := by omega
    refine ⟨?_, ?_, ?_, ?_⟩
    · have e9 := h.1
      simp [gI1_1, gCpy_1, upd, c10, c4, c40, c0, a1, a2, a3, a4, a5, a6, a7, b0, b1, b2, b3, b4, b5, b6, b7]
      simpa using e9
    · have e9 := h.2.1
      simp [gI1_1, gCpy_1, upd, c10, c4, c40, c0, a1, a2, a3, a4, a5, a6, a7, b0, b1, b2, b3, b4, b5, b6, b7]
      simpa using e9
    · intro p hp
      have := h.2.2.1 p hp
      refine ⟨?_, ?_⟩
      · have e9 := this.1
        simp [gI1_1, gCpy_1, upd, c10, c4, c40, c0, a1, a2, a3, a4, a5, a6, a7, b0, b1, b2, b3, b4, b5, b6, b7]
        rw [cpy0 _ _ hp]
        exact e9
      · have e9 := this.2
        simp [gI1_1, gCpy_1, upd, c10, c4, c40, c0, a1, a2, a3, a4, a5, a6, a7, b0, b1, b2, b3, b4, b5, b6, b7]
        rw [cpy0 _ _ hp]
        exact e9
    · intro t tm ht
      have h1 := ok_get ok ht
      have hl := okT_len h1.1
      have h3 := h.2.2.2 t tm ht
      refine ⟨?_, ?_, ?_, ?_, ?_⟩
      · have e9 := h3.1
        simp [gI1_1, gCpy_1, upd, c10, c4, c40, c0, a1, a2, a3, a4, a5, a6, a7, b0, b1, b2, b3, b4, b5, b6, b7]
        rw [cpy0 _ _ h1.2.2]
        exact e9
      · have e9 := h3.2.1
        simp [gI1_1, gCpy_1, upd, c10, c4, c40, c0, a1, a2, a3, a4, a5, a6, a7, b0, b1, b2, b3, b4, b5, b6, b7]
        rw [cpy0 _ _ h1.2.2]
        exact e9
      · have e9 := h3.2.2.1
        simp [gI1_1, gCpy_1, upd, c10, c4, c40, c0, a1, a2, a3, a4, a5, a6, a7, b0, b1, b2, b3, b4, b5, b6, b7]
        rw [cpy0 _ _ h1.2.2]
        exact e9
      · have e9 := h3.2.2.2.1
        simp [gI1_1, gCpy_1, upd, c10, c4, c40, c0, a1, a2, a3, a4, a5, a6, a7, b0, b1, b2, b3, b4, b5, b6, b7]
        rw [cpy0 _ _ h1.2.2]
        exact e9
      · intro j q hq
        have hj := (List.getElem?_eq_some_iff.mp hq).1
        have e9 := h3.2.2.2.2 j q hq
        simp [gI1_1, gCpy_1, upd, c10, c4, c40, c0, a1, a2, a3, a4, a5, a6, a7, b0, b1, b2, b3, b4, b5, b6, b7]
        rw [cpy0 _ _ (by omega)]
        exact e9
  · exact ((((((((frm.rf.cp (by omega) (by omega)).cp (by omega) (by omega)).cp (by omega) (by omega)).cp (by omega) (by omega)).cp (by omega) (by omega)).cp (by omega) (by omega)).cp (by omega) (by omega)).i1 (by omega) (by omega)).i1 (by omega) (by omega)
end CN
