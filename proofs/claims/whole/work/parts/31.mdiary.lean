/-! PURE: the reference's diary (newest first), begin, and what stays. -/
def okL (n : Nat) (L : List aS) : Prop := ∀ S ∈ L, okS n S
def mMem (g : gG) (n : Nat) (hm : Nat → Nat) (L : List aS) : Prop := L.length ≤ 14 ∧ g.1 174 16 = nI L.length ∧ ∀ i S, L[i]? = some S → mS (fun j => g.1 185 (394 * (L.length - 1 - i) + j)) n hm S
theorem okL_get {n : Nat} {L : List aS} (h : okL n L) {i : Nat} {S : aS} (e : L[i]? = some S) : okS n S := h S (List.mem_of_getElem? e)
theorem m_cpS {g : gG} {r0 r2 n : Nat} {hm : Nat → Nat} {S : aS} (hn : n ≤ 10) (ok : okS n S) (h : mS (g.1 r0) n hm S) : mS ((cpN g r0 r2 0 0 394).1 r2) n hm S := by
  refine mS_eq hn ok ?_ h
  intro j hj
  rw [cpN_1, if_pos rfl, cpyIn _ _ (by omega) (by omega)]
  have e : 0 + (j - 0) = j := by omega
  rw [e]
theorem m_begin {g : gG} {n : Nat} {hm : Nat → Nat} {S : aS} (hn : n ≤ 10) (ok : okS n S) (h : mS (g.1 183) n hm S) : ∃ g', f_X10_begin g = some ((), g') ∧ mS (g'.1 184) n hm S ∧ (∀ j, j ≠ 184 → g'.1 j = g.1 j) ∧ g'.2 = g.2 := by
  refine ⟨cpN g 183 184 0 0 394, ?_, m_cpS hn ok h, ?_, rfl⟩
  · unfold f_X10_begin
    rw [show f_X10_copy 183 394 184 394 (0 : Int32) (0 : Int32) (394 : Int32) g = _ from m_copy g (a := 0) (b := 0) (m := 394) (by omega) (by omega) (by omega) (by decide) (by decide) (by unfold gFuel; omega)]
    rfl
  · intro j hj
    rw [cpN_1, if_neg hj]
theorem m_note37 {g : gG} {n l : Nat} {hm : Nat → Nat} {S : aS} {L : List aS} (hn : n ≤ 10) (ok : okS n S) (okl : okL n L) (h : mS (g.1 183) n hm S) (hM : mMem g n hm L) (hl : L.length = l) (hl2 : l < 14) : ∃ g', fs_X10_note_37 g = some ((), g') ∧ mMem g' n hm (S :: L) ∧ (∀ j, j ≠ 174 → j ≠ 185 → g'.1 j = g.1 j) ∧ (∀ q, q ≠ 16 → g'.1 174 q = g.1 174 q) ∧ g'.2 = g.2 := by
  obtain ⟨h1, h2, h3⟩ := hM
  rw [hl] at h2 h3
  have q1 : ∀ v, (gI1 (cpN g 183 185 0 (394 * l) 394) 174 16 v).1 185 = va_cpy (g.1 183) (g.1 185) 0 (394 * l) 394 := by
    intro v
    rw [gI1_1, if_neg (by decide), cpN_1, if_pos rfl]
  refine ⟨gI1 (cpN g 183 185 0 (394 * l) 394) 174 16 (nI (l + 1)), ?_, ⟨?_, ?_, ?_⟩, ?_, ?_, rfl⟩
  · unfold fs_X10_note_37
    rw [h2, show (394 : Int32) * nI l = nI (394 * l) from pk_mul 394 l]
    rw [show f_X10_copy 183 394 185 5516 (0 : Int32) (nI (394 * l)) (394 : Int32) g = _ from m_copy g (a := 0) (b := 394 * l) (m := 394) (by omega) (by omega) (by omega) (by decide) (by decide) (by unfold gFuel; omega)]
    simp only [Option.bind_some, gLet]
    rw [cpN_1, if_neg (by decide), h2, nI_1]
  · rw [List.length_cons]; omega
  · rw [gI1_1, if_pos rfl]; unfold upd; rw [if_pos rfl, List.length_cons, hl]
  · intro i S' hS
    have hi := (List.getElem?_eq_some_iff.mp hS).1
    rw [List.length_cons, hl] at hi
    rw [List.length_cons, hl]
    cases i with
    | zero =>
      have hS : S = S' := by simpa using hS
      subst hS
      refine mS_eq hn ok ?_ h
      intro j hj
      show (gI1 (cpN g 183 185 0 (394 * l) 394) 174 16 (nI (l + 1))).1 185 _ = _
      rw [q1, cpyIn _ _ (by omega) (by omega)]
      have e : 0 + (394 * (l + 1 - 1 - 0) + j - 394 * l) = j := by omega
      rw [e]
    | succ i =>
      rw [List.getElem?_cons_succ] at hS
      refine mS_eq hn (okL_get okl hS) ?_ (h3 i S' hS)
      intro j hj
      show (gI1 (cpN g 183 185 0 (394 * l) 394) 174 16 (nI (l + 1))).1 185 _ = _
      rw [q1, cpyOut _ _ (by omega)]
      have e : 394 * (l + 1 - 1 - (i + 1)) + j = 394 * (l - 1 - i) + j := by omega
      rw [e]
  · intro j h4 h5
    rw [gI1_1, if_neg h4, cpN_1, if_neg h5]
  · intro q hq
    rw [gI1_1, if_pos rfl]; unfold upd; rw [if_neg hq, cpN_1, if_neg (by decide)]
theorem m_note {g : gG} {n : Nat} {hm : Nat → Nat} {S : aS} {L : List aS} (hn : n ≤ 10) (ok : okS n S) (okl : okL n L) (h : mS (g.1 183) n hm S) (hM : mMem g n hm L) : ∃ g', f_X10_note g = some ((), g') ∧ mMem g' n hm ((S :: L).take 14) ∧ (∀ j, j ≠ 174 → j ≠ 185 → g'.1 j = g.1 j) ∧ (∀ q, q ≠ 16 → g'.1 174 q = g.1 174 q) ∧ g'.2 = g.2 := by
  obtain ⟨h1, h2, h3⟩ := hM
  unfold f_X10_note
  by_cases hl : L.length = 14
  · rw [h2, hl, if_pos (show nI 14 = (14 : Int32) from rfl)]
    rw [show f_X10_copy 185 5516 185 5516 (394 : Int32) (0 : Int32) (5122 : Int32) g = _ from m_copy g (a := 394) (b := 0) (m := 5122) (by omega) (by omega) (by omega) (by decide) (by decide) (by unfold gFuel; omega)]
    simp only [Option.bind_some, gLet]
    have e13 : (cpN g 185 185 394 0 5122).1 174 16 - (1 : Int32) = nI 13 := by
      rw [cpN_1, if_neg (by decide), h2, hl]; rfl
    rw [e13]
    have ht : (L.take 13).length = 13 := by rw [List.length_take, hl]; rfl
    have hM2 : mMem (gI1 (cpN g 185 185 394 0 5122) 174 16 (nI 13)) n hm (L.take 13) := by
      refine ⟨by omega, ?_, ?_⟩
      · rw [gI1_1, if_pos rfl]; unfold upd; rw [if_pos rfl, ht]
      · intro i S' hS
        have hi := (List.getElem?_eq_some_iff.mp hS).1
        rw [ht] at hi
        rw [List.getElem?_take_of_lt (by omega)] at hS
        refine mS_eq hn (okL_get okl hS) ?_ (h3 i S' hS)
        intro j hj
        show (gI1 (cpN g 185 185 394 0 5122) 174 16 (nI 13)).1 185 _ = _
        rw [ht, hl, gI1_1, if_neg (by decide), cpN_1, if_pos rfl, cpyIn _ _ (by omega) (by omega)]
        have e : 394 + (394 * (13 - 1 - i) + j - 0) = 394 * (14 - 1 - i) + j := by omega
        rw [e]
    have hS2 : mS ((gI1 (cpN g 185 185 394 0 5122) 174 16 (nI 13)).1 183) n hm S := by
      rw [gI1_1, if_neg (by decide), cpN_1, if_neg (by decide)]; exact h
    obtain ⟨g', e, a, b, c, d⟩ := m_note37 hn ok (fun S' hS' => okl S' (List.mem_of_mem_take hS')) hS2 hM2 ht (by decide)
    refine ⟨g', e, ?_, ?_, ?_, d⟩
    · have e9 : (S :: L).take 14 = S :: L.take 13 := rfl
      rw [e9]; exact a
    · intro j h4 h5
      rw [b j h4 h5, gI1_1, if_neg h4, cpN_1, if_neg h5]
    · intro q hq
      rw [c q hq, gI1_1, if_pos rfl]; unfold upd; rw [if_neg hq, cpN_1, if_neg (by decide)]
  · rw [h2, if_neg (show ¬ (nI L.length = (14 : Int32)) from fun e9 => hl ((nI_eq (b := 14) (by omega) (by decide)).mp e9))]
    obtain ⟨g', e, a, b, c, d⟩ := m_note37 hn ok okl h ⟨h1, h2, h3⟩ rfl (by omega)
    refine ⟨g', e, ?_, b, c, d⟩
    have e9 : (S :: L).take 14 = S :: L := List.take_of_length_le (by rw [List.length_cons]; omega)
    rw [e9]; exact a
theorem m_undo {g : gG} {n : Nat} {hm : Nat → Nat} {S : aS} {L : List aS} (hn : n ≤ 10) (ok : okS n S) (hM : mMem g n hm (S :: L)) : ∃ g', fs_X10_undo_13 0 g = some (nI L.length, g') ∧ mS (g'.1 183) n hm S ∧ mMem g' n hm L ∧ (∀ j, j ≠ 174 → j ≠ 183 → g'.1 j = g.1 j) ∧ (∀ q, q ≠ 16 → q ≠ 0 → g'.1 174 q = g.1 174 q) ∧ g'.1 174 0 = 0 ∧ g'.2 = g.2 := by
  obtain ⟨h1, h2, h3⟩ := hM
  rw [List.length_cons] at h1 h2 h3
  have e1 : (gI1 g 174 0 0).1 174 16 - (1 : Int32) = nI L.length := by
    rw [gI1_1, if_pos rfl]; unfold upd; rw [if_neg (by decide), h2, nI_pred]
  have e2 : (gI1 (gI1 g 174 0 0) 174 16 (nI L.length)).1 174 16 = nI L.length := by
    rw [gI1_1, if_pos rfl]; unfold upd; rw [if_pos rfl]
  have q1 : ∀ j, j ≠ 174 → j ≠ 183 → (cpN (gI1 (gI1 g 174 0 0) 174 16 (nI L.length)) 185 183 (394 * L.length) 0 394).1 j = g.1 j := by
    intro j h4 h5
    rw [cpN_1, if_neg h5, gI1_1, if_neg h4, gI1_1, if_neg h4]
  refine ⟨cpN (gI1 (gI1 g 174 0 0) 174 16 (nI L.length)) 185 183 (394 * L.length) 0 394, ?_, ?_, ⟨by omega, ?_, ?_⟩, q1, ?_, ?_, rfl⟩
  · unfold fs_X10_undo_13 f_X10_refused
    simp only [gLet]
    rw [if_pos (by decide)]
    simp only [Option.bind_some]
    rw [if_pos trivial, e1, e2, show (394 : Int32) * nI L.length = nI (394 * L.length) from pk_mul 394 L.length]
    rw [show f_X10_copy 185 5516 183 394 (nI (394 * L.length)) (0 : Int32) (394 : Int32) (gI1 (gI1 g 174 0 0) 174 16 (nI L.length)) = _ from m_copy _ (a := 394 * L.length) (b := 0) (m := 394) (by omega) (by omega) (by omega) (by decide) (by decide) (by unfold gFuel; omega)]
    simp only [Option.bind_some]
    rw [cpN_1, if_neg (by decide), e2]
  · refine mS_eq hn ok ?_ (h3 0 S rfl)
    intro j hj
    show _ = g.1 185 (394 * (L.length + 1 - 1 - 0) + j)
    rw [cpN_1, if_pos rfl, cpyIn _ _ (by omega) (by omega), gI1_1, if_neg (by decide), gI1_1, if_neg (by decide)]
    have e : 394 * L.length + (j - 0) = 394 * (L.length + 1 - 1 - 0) + j := by omega
    rw [e]
  · rw [cpN_1, if_neg (by decide), e2]
  · intro i S' hS
    have := h3 (i + 1) S' hS
    have e : L.length + 1 - 1 - (i + 1) = L.length - 1 - i := by omega
    rw [e] at this
    show mS (fun j => (cpN (gI1 (gI1 g 174 0 0) 174 16 (nI L.length)) 185 183 (394 * L.length) 0 394).1 185 (394 * (L.length - 1 - i) + j)) n hm S'
    rw [q1 185 (by decide) (by decide)]
    exact this
  · intro q h4 h5
    rw [cpN_1, if_neg (by decide), gI1_1, if_pos rfl]; unfold upd; rw [if_neg h4, gI1_1, if_pos rfl]; unfold upd; rw [if_neg h5]
  · rw [cpN_1, if_neg (by decide), gI1_1, if_pos rfl]; unfold upd; rw [if_neg (by decide), gI1_1, if_pos rfl]; unfold upd; rw [if_pos rfl]
