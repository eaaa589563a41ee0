/-! PURE: memories. The reference copies rows; its diary; the class's ring. -/
def cpN (g : gG) (r0 r2 a b i : Nat) : gG := (va_up g.1 r2 (va_cpy (g.1 r0) (g.1 r2) a b i), g.2)
theorem cpN_1 (g : gG) (r0 r2 a b i j : Nat) : (cpN g r0 r2 a b i).1 j = if j = r2 then va_cpy (g.1 r0) (g.1 r2) a b i else g.1 j := rfl
theorem cpN_0 (g : gG) (r0 r2 a b : Nat) : cpN g r0 r2 a b 0 = g := by
  have e : ∀ j, (cpN g r0 r2 a b 0).1 j = g.1 j := by
    intro j
    rw [cpN_1]
    by_cases h : j = r2
    · rw [if_pos h, h]
      funext q
      unfold va_cpy
      rw [if_neg (by omega)]
    · rw [if_neg h]
  exact Prod.ext (funext e) rfl
theorem cpN_s (g : gG) {r0 r2 a b i : Nat} (H : r0 = r2 → b ≤ a) : gI1 (cpN g r0 r2 a b i) r2 (b + i) ((cpN g r0 r2 a b i).1 r0 (a + i)) = cpN g r0 r2 a b (i + 1) := by
  have ev : (cpN g r0 r2 a b i).1 r0 (a + i) = g.1 r0 (a + i) := by
    rw [cpN_1]
    by_cases h : r0 = r2
    · have := H h
      rw [if_pos h, ← h]
      unfold va_cpy
      by_cases h2 : b ≤ a + i ∧ a + i < b + i
      · omega
      · rw [if_neg h2]
    · rw [if_neg h]
  rw [ev]
  have e : ∀ j, (gI1 (cpN g r0 r2 a b i) r2 (b + i) (g.1 r0 (a + i))).1 j = (cpN g r0 r2 a b (i + 1)).1 j := by
    intro j
    rw [gI1_1, cpN_1, cpN_1, cpN_1]
    by_cases h : j = r2
    · rw [if_pos h, if_pos h, if_pos rfl]
      funext q
      unfold upd va_cpy
      by_cases h1 : q = b + i
      · rw [if_pos h1, if_pos (by omega)]
        have e9 : a + (q - b) = a + i := by omega
        rw [e9]
      · rw [if_neg h1]
        by_cases h2 : b ≤ q ∧ q < b + i
        · rw [if_pos h2, if_pos (by omega)]
        · rw [if_neg h2, if_neg (by omega)]
    · rw [if_neg h, if_neg h, if_neg h]
  exact Prod.ext (funext e) rfl
theorem mS_eq {f f' : Nat → Int32} {n : Nat} {hm : Nat → Nat} {S : aS} (hn : n ≤ 10) (ok : okS n S) (e : ∀ j, j < 394 → f' j = f j) (h : mS f n hm S) : mS f' n hm S := by
  obtain ⟨⟨a1, a2⟩, b, c, d⟩ := h
  refine ⟨⟨?_, ?_⟩, ?_, ?_, ?_⟩
  · rw [e 0 (by omega)]; exact a1
  · intro p s hp hs
    rw [e _ (by omega)]
    exact a2 p s hp hs
  · rw [e 1 (by omega)]; exact b
  · intro p hp
    rw [e _ (by omega), e _ (by omega)]
    exact c p hp
  · intro t tm ht
    have h1 := ok_get ok ht
    have h2 := okT_len h1.1
    obtain ⟨d1, d2, d3, d4⟩ := d t tm ht
    refine ⟨?_, ?_, ?_, ?_⟩
    · rw [e _ (by omega)]; exact d1
    · rw [e _ (by omega)]; exact d2
    · rw [e _ (by omega)]; exact d3
    · intro j p hp
      have := (List.getElem?_eq_some_iff.mp hp).1
      rw [e _ (by omega)]
      exact d4 j p hp
theorem cS_fr {g g' : gG} {k a b : Nat} {S : aS} (h : cS g k S) (f : frm a b g g') (hk : k + 8 ≤ a ∨ b ≤ k) : cS g' k S := by
  have e : ∀ j, j < 8 → g'.1 (k + j) = g.1 (k + j) := fun j hj => f.1 (k + j) (by omega)
  obtain ⟨h1, h2, h3, h4⟩ := h
  have e0 := e 0 (by omega)
  refine ⟨?_, ?_, ?_, ?_⟩
  · show g'.1 (k + 0) 8 = _; rw [e0]; exact h1
  · show g'.1 (k + 0) 9 = _; rw [e0]; exact h2
  · intro p hp
    show g'.1 (k + 1) p = _ ∧ g'.1 (k + 2) p = _
    rw [e 1 (by omega), e 2 (by omega)]
    exact h3 p hp
  · intro t tm ht
    show g'.1 (k + 3) t = _ ∧ g'.1 (k + 4) t = _ ∧ g'.1 (k + 5) t = _ ∧ g'.1 (k + 6) t = _ ∧ _
    rw [e 3 (by omega), e 4 (by omega), e 5 (by omega), e 6 (by omega)]
    have := h4 t tm ht
    refine ⟨this.1, this.2.1, this.2.2.1, this.2.2.2.1, ?_⟩
    intro j p hp
    show g'.1 (k + 7) (10 * t + j) = _
    rw [e 7 (by omega)]
    exact this.2.2.2.2 j p hp
/-- the class's ring, newest first -/
def cMem (g : gG) (L : List aS) : Prop := L.length ≤ 14 ∧ g.1 24 2 = nI L.length ∧ ∃ f, f < 14 ∧ g.1 24 1 = nI f ∧ ∀ i S, L[i]? = some S → cS g (26 + 8 * ((f + 13 - i) % 14)) S
theorem ring_inc : ∀ f, f < 14 → (nI f + (1 : Int32)) - (nI f + (1 : Int32)) / (14 : Int32) * (14 : Int32) = nI ((f + 1) % 14) := by decide +kernel
theorem ring_dec : ∀ f, f < 14 → ((nI f + (14 : Int32)) - (1 : Int32)) - ((nI f + (14 : Int32)) - (1 : Int32)) / (14 : Int32) * (14 : Int32) = nI ((f + 13) % 14) := by decide +kernel
theorem ring_cap : ∀ l, l < 15 → (if (14 : Int32) < (nI l + (1 : Int32)) then (14 : Int32) else (nI l + (1 : Int32))) = nI (min (l + 1) 14) := by decide +kernel
theorem c_keep {g : gG} {n r : Nat} {S : aS} {L : List aS} (h : cS g r S) (ok : okS n S) (hn : n ≤ 10) (hM : cMem g L) (hr : r + 8 ≤ 24 ∨ 138 ≤ r) : ∃ g', f_X1_keep r g = some ((), g') ∧ cMem g' ((S :: L).take 14) ∧ frm 24 138 g g' := by
  obtain ⟨hl, hc, f, hf, hfr, hL⟩ := hM
  obtain ⟨X, Y, E, T⟩ := S
  obtain ⟨g1, e1, q1, q2⟩ := c_copyFrom (k := 26 + 8 * f) h ok hn (by omega)
  have r1 : g1.1 24 = g.1 24 := q2.1 24 (by omega)
  refine ⟨gI1 (gI1 g1 24 1 (nI ((f + 1) % 14))) 24 2 (nI (min (L.length + 1) 14)), ?_, ⟨?_, ?_, (f + 1) % 14, by omega, ?_, ?_⟩, ?_⟩
  · unfold f_X1_keep
    rw [hfr, if_pos (inb_nI hf (by decide)), nI_clamp (by omega), e1]
    simp only [Option.bind_some, gLet, r1, hfr, ring_inc f hf]
    have e2 : (gI1 g1 24 1 (nI ((f + 1) % 14))).1 24 2 = nI L.length := by
      rw [gI1_1, if_pos rfl]
      unfold upd
      rw [if_neg (by decide), r1, hc]
    rw [e2, ring_cap _ (by omega)]
  · simp; omega
  · rw [gI1_1, if_pos rfl]
    unfold upd
    rw [if_pos rfl]
    have e9 : min (L.length + 1) 14 = (List.take 14 ((X, Y, E, T) :: L)).length := by simp; omega
    rw [e9]
  · rw [gI1_1, if_pos rfl]
    unfold upd
    rw [if_neg (by decide), gI1_1, if_pos rfl]
    unfold upd
    rw [if_pos rfl]
  · intro i S' hS
    have hi := (List.getElem?_eq_some_iff.mp hS).1
    simp at hi
    rw [List.getElem?_take_of_lt (by omega)] at hS
    have fr2 : frm 24 25 g1 (gI1 (gI1 g1 24 1 (nI ((f + 1) % 14))) 24 2 (nI (min (L.length + 1) 14))) := (frm.rf.i1 (by omega) (by omega)).i1 (by omega) (by omega)
    refine cS_fr ?_ fr2 (by omega)
    cases i with
    | zero =>
      simp at hS
      subst hS
      have e9 : ((f + 1) % 14 + 13 - 0) % 14 = f := by omega
      rw [e9]
      exact q1
    | succ i =>
      rw [List.getElem?_cons_succ] at hS
      have e9 : ((f + 1) % 14 + 13 - (i + 1)) % 14 = (f + 13 - i) % 14 := by omega
      rw [e9]
      exact cS_fr (hL i S' hS) q2 (by omega)
  · exact (((q2.wd (by omega) (by omega)).i1 (by omega) (by omega)).i1 (by omega) (by omega))
theorem c_takeBack {g : gG} {n r : Nat} {S : aS} {L : List aS} (ok : okS n S) (hn : n ≤ 10) (hM : cMem g (S :: L)) (hr : r + 8 ≤ 24 ∨ 138 ≤ r) : ∃ g', f_X1_takeBack r g = some (nI L.length, g') ∧ cS g' r S ∧ cMem g' L ∧ (∀ j, (j < 24 ∨ 25 ≤ j) → (j < r ∨ r + 8 ≤ j) → g'.1 j = g.1 j) ∧ g'.2 = g.2 := by
  obtain ⟨hl, hc, f, hf, hfr, hL⟩ := hM
  obtain ⟨X, Y, E, T⟩ := S
  simp at hl
  have h0 := hL 0 (X, Y, E, T) rfl
  rw [show f + 13 - 0 = f + 13 by omega] at h0
  have fr1 : frm 24 25 g (gI1 g 24 1 (nI ((f + 13) % 14))) := frm.rf.i1 (by omega) (by omega)
  obtain ⟨g2, e2, q1, q2⟩ := c_copyFrom (k := r) (cS_fr h0 fr1 (by omega)) ok hn (by omega)
  have r1 : g2.1 24 = upd (g.1 24) 1 (nI ((f + 13) % 14)) := by
    rw [q2.1 24 (by omega), gI1_1, if_pos rfl]
  have r2 : g2.1 24 2 = nI (L.length + 1) := by
    rw [r1]; unfold upd; rw [if_neg (by decide), hc]; rfl
  have fr3 : frm 24 25 g2 (gI1 g2 24 2 (nI L.length)) := frm.rf.i1 (by omega) (by omega)
  refine ⟨gI1 g2 24 2 (nI L.length), ?_, cS_fr q1 fr3 (by omega), ⟨by omega, ?_, (f + 13) % 14, by omega, ?_, ?_⟩, ?_, ?_⟩
  · unfold f_X1_takeBack
    rw [hc, if_neg (show ¬ (nI (List.length ((X, Y, E, T) :: L)) ≤ (0 : Int32)) from nI_ge (b := List.length ((X, Y, E, T) :: L)) (a := 0) (by simp) (by simp; omega)), hfr, ring_dec f hf]
    simp only [gLet]
    have e3 : (gI1 g 24 1 (nI ((f + 13) % 14))).1 24 1 = nI ((f + 13) % 14) := by
      rw [gI1_1, if_pos rfl]; unfold upd; rw [if_pos rfl]
    rw [e3, if_pos (inb_nI (by omega) (by decide)), nI_clamp (by omega), e2]
    simp only [Option.bind_some]
    rw [r2, nI_pred, gI1_1, if_pos rfl]
    unfold upd
    rw [if_pos rfl]
  · rw [gI1_1, if_pos rfl]; unfold upd; rw [if_pos rfl]
  · rw [gI1_1, if_pos rfl, r1]; unfold upd; rw [if_neg (by decide), if_pos rfl]
  · intro i S' hS
    have hi := (List.getElem?_eq_some_iff.mp hS).1
    have h9 := hL (i + 1) S' hS
    have e9 : ((f + 13) % 14 + 13 - i) % 14 = (f + 13 - (i + 1)) % 14 := by omega
    rw [e9]
    exact cS_fr (cS_fr (cS_fr h9 fr1 (by omega)) q2 (by omega)) fr3 (by omega)
  · intro j h1 h2
    rw [gI1_1, if_neg (by omega), q2.1 j (by omega), gI1_1, if_neg (by omega)]
  · exact q2.2
