/-! PURE: undo, save slots, append, of the class alone. -/
section UCS
variable {tx : List Nat} {n : Nat} {hm : Nat → Nat} {S S' : aS} {L L' : List aS} {K : Nat → Option aS} {rd : aR}
theorem x_undo_none (ok : okA tx n hm S [] K) : AC (tx, n, hm, S, [], K, rd) f_X9_undo (.inr 2) (tx, n, hm, S, [], K, rd) := by
  refine AC.ro (fun g hC => ?_)
  unfold f_X9_undo f_X1_isEmpty
  rw [hC.2.2.2.1.2.1, if_pos (show nI ([] : List aS).length = (0 : Int32) from rfl)]
  simp only [ob_eq]
  rw [if_neg one0]
theorem x_undo (ok : okA tx n hm S (S' :: L') K) : AC (tx, n, hm, S, S' :: L', K, rd) f_X9_undo (.inl (nI L'.length)) (tx, n, hm, S', L', K, rd) := by
  obtain ⟨o1, o2, h2, hn, o5, o6, o7, o8⟩ := id ok
  have ok' : okS n S' := o7 S' (by simp)
  refine AC.st (fun g hC => ?_)
  obtain ⟨h1, h3, h4, h5, h6⟩ := hC
  have hl : (S' :: L').length ≤ 14 := h5.1
  obtain ⟨g', e, a, b, c, d⟩ := c_takeBack (r := 16) ok' hn h5 (by decide)
  refine ⟨g', ?_, ⟨⟨?_, ?_⟩, ⟨?_, ?_⟩, a, b, slC_eq h6 (fun j p q => c j (by omega) (by omega))⟩, fun j hj => c j (by omega) (by omega)⟩
  · unfold f_X9_undo f_X1_isEmpty
    rw [h5.2.1, if_neg (fun e9 => by
      have e8 := (nI_z (by omega)).mp e9
      rw [List.length_cons] at e8
      omega)]
    simp only [ob_eq]
    rw [if_pos trivial, e]
    simp only [ob_eq]
  · rw [c 1 (by omega) (by omega)]; exact h1.1
  · intro j x hx
    rw [c 2 (by omega) (by omega)]; exact h1.2 j x hx
  · rw [c 14 (by omega) (by omega)]; exact h3.1
  · intro s hs
    rw [c 15 (by omega) (by omega)]; exact h3.2 s hs
theorem x_save_no (ok : okA tx n hm S L K) {a : Int32} (hT : decide (0 ≤ a.toInt ∧ a.toInt ≤ ((1 : Nat) : Int)) = false) : AC (tx, n, hm, S, L, K, rd) (f_X9_save a) (.inr 3) (tx, n, hm, S, L, K, rd) := by
  refine AC.ro (fun g hC => ?_)
  unfold f_X9_save
  rw [slot_no hT, gXb_r]
theorem x_restore_no (ok : okA tx n hm S L K) {a : Int32} (hT : decide (0 ≤ a.toInt ∧ a.toInt ≤ ((1 : Nat) : Int)) = false) : AC (tx, n, hm, S, L, K, rd) (f_X9_restore a) (.inr 3) (tx, n, hm, S, L, K, rd) := by
  refine AC.ro (fun g hC => ?_)
  unfold f_X9_restore
  rw [slot_no hT, gXb_r]
theorem x_save (ok : okA tx n hm S L K) {i : Nat} (hi2 : i < 2) : AC (tx, n, hm, S, L, K, rd) (f_X9_save (nI i)) (.inl (nI S.2.2.2.length)) (tx, n, hm, S, L, setK K i S, rd) := by
  obtain ⟨o1, o2, h2, hn, o5, o6, o7, o8⟩ := id ok
  refine AC.st (fun g hC => ?_)
  obtain ⟨h1, h3, h4, h5, h6⟩ := hC
  obtain ⟨g1, e1, a1, f1⟩ := c_copyS (k := 139 + 8 * i) (r := 16) h4 o6 hn (by omega)
  have hr155 : g1.1 155 = g.1 155 := f1.1 155 (by omega)
  have q : ∀ j, j ≠ 155 → (gI1 g1 155 i 1).1 j = g1.1 j := fun j hj => by rw [gI1_1, if_neg hj]
  have q2 : ∀ j, (j < 139 + 8 * i ∨ 139 + 8 * i + 8 ≤ j) → j ≠ 155 → (gI1 g1 155 i 1).1 j = g.1 j := fun j hj hj2 => by rw [q j hj2, f1.1 j (by omega)]
  refine ⟨gI1 g1 155 i 1, ?_, ⟨⟨?_, ?_⟩, ⟨?_, ?_⟩, ?_, ?_, ?_⟩, fun j hj => q2 j (by omega) (by omega)⟩
  · unfold f_X9_save
    rw [slot_yes hi2, gXb_l, inb_nI hi2 (by decide)]
    simp only [if_true, nI_clamp (n := i) (show i < 2 ^ 31 by omega)]
    rw [e1]
    simp only [ob_eq, gl_eq]
    rw [show vp_nar .boolean (1 : Int32) = 1 from nar_b2 true]
    unfold f_X5_teamCount
    rw [q 16 (by decide), show g1.1 16 9 = nI S.2.2.2.length by rw [f1.1 16 (by omega)]; exact h4.2.1]
    rfl
  · rw [q2 1 (by omega) (by decide)]; exact h1.1
  · intro j x hx
    rw [q2 2 (by omega) (by decide)]; exact h1.2 j x hx
  · rw [q2 14 (by omega) (by decide)]; exact h3.1
  · intro s hs
    rw [q2 15 (by omega) (by decide)]; exact h3.2 s hs
  · exact cS_eq h4 (fun j hj => q2 _ (by omega) (by omega))
  · exact cMem_eq h5 (fun j p r => q2 j (by omega) (by omega))
  · intro j hj
    by_cases e : j = i
    · subst e
      refine ⟨fun hnn => (by rw [setK_1 rfl] at hnn; cases hnn), fun S' hS => ?_⟩
      rw [setK_1 rfl] at hS
      cases hS
      refine ⟨by rw [r_self, if_pos rfl], cS_eq a1 (fun z hz => q _ (by omega))⟩
    · obtain ⟨k1, k2⟩ := h6 j hj
      refine ⟨fun hnn => ?_, fun S' hS => ?_⟩
      · rw [setK_2 e] at hnn
        rw [r_self, if_neg e, hr155]; exact k1 hnn
      · rw [setK_2 e] at hS
        obtain ⟨k3, k4⟩ := k2 S' hS
        refine ⟨by rw [r_self, if_neg e, hr155]; exact k3, cS_eq k4 (fun z hz => q2 _ (by omega) (by omega))⟩
theorem x_restore_none (ok : okA tx n hm S L K) {i : Nat} (hi2 : i < 2) (hK : K i = none) : AC (tx, n, hm, S, L, K, rd) (f_X9_restore (nI i)) (.inr 2) (tx, n, hm, S, L, K, rd) := by
  refine AC.ro (fun g hC => ?_)
  unfold f_X9_restore
  rw [slot_yes hi2, gXb_l, if_pos (inb_nI hi2 (by decide)), nI_clamp (by omega), (hC.2.2.2.2 i hi2).1 hK, if_pos zero0]
theorem x_restore (ok : okA tx n hm S L K) {i : Nat} (hi2 : i < 2) (hK : K i = some S') : AC (tx, n, hm, S, L, K, rd) (f_X9_restore (nI i)) (.inl (nI S'.2.2.2.length)) (tx, n, hm, S', [], K, rd) := by
  obtain ⟨o1, o2, h2, hn, o5, o6, o7, o8⟩ := id ok
  have ok' := o8 i S' hK
  refine AC.st (fun g hC => ?_)
  obtain ⟨h1, h3, h4, h5, h6⟩ := hC
  obtain ⟨k3, k4⟩ := (h6 i hi2).2 S' hK
  obtain ⟨g1, e1, a1, f1⟩ := c_copyS (k := 16) (r := 139 + 8 * i) k4 ok' hn (by omega)
  have q : ∀ j, j ≠ 24 → (gI1 g1 24 2 0).1 j = g1.1 j := fun j hj => by rw [gI1_1, if_neg hj]
  have q2 : ∀ j, (j < 16 ∨ 24 < j) → (gI1 g1 24 2 0).1 j = g.1 j := fun j hj => by rw [q j (by omega), f1.1 j (by omega)]
  obtain ⟨m1, m2, f, m3, m4, m5⟩ := h5
  refine ⟨gI1 g1 24 2 0, ?_, ⟨⟨?_, ?_⟩, ⟨?_, ?_⟩, cS_eq a1 (fun z hz => q _ (by omega)), ⟨by decide, ?_, f, m3, ?_, fun z S1 hS1 => by simp at hS1⟩, slC_eq h6 (fun j p r => q2 j (by omega))⟩, fun j hj => q2 j (by omega)⟩
  · unfold f_X9_restore f_X1_forget f_X5_teamCount
    rw [slot_yes hi2, gXb_l, inb_nI hi2 (by decide)]
    simp only [if_true, nI_clamp (n := i) (show i < 2 ^ 31 by omega)]
    rw [k3, if_neg one0, e1]
    simp only [ob_eq, gl_eq]
    rw [q 16 (by decide)]
    exact congrArg (fun v => some (Sum.inl v, gI1 g1 24 2 0)) a1.2.1
  · rw [q2 1 (by omega)]; exact h1.1
  · intro j x hx
    rw [q2 2 (by omega)]; exact h1.2 j x hx
  · rw [q2 14 (by omega)]; exact h3.1
  · intro s hs
    rw [q2 15 (by omega)]; exact h3.2 s hs
  · rw [r_self, if_pos rfl]; rfl
  · rw [r_self, if_neg (by decide), f1.1 24 (by omega)]; exact m4
theorem x_append_bad (ok : okA tx n hm S L K) {a : Int32} (hT : decide (0 ≤ a.toInt ∧ a.toInt ≤ ((255 : Nat) : Int)) = false) : AC (tx, n, hm, S, L, K, rd) (f_X9_append a) (.inr 1) (tx, n, hm, S, L, K, rd) := by
  refine AC.ro (fun g hC => ?_)
  have h3 := of_decide_eq_false hT
  have e1 : (0 : Int32).toInt = 0 := rfl
  have e2 : (255 : Int32).toInt = 255 := rfl
  unfold f_X9_append fs_X9_append_11
  by_cases h0 : a < 0
  · rw [if_pos h0]
  · rw [if_neg h0, if_neg]
    rw [Int32.lt_iff_toInt_lt] at h0
    rw [Int32.le_iff_toInt_le]
    omega
theorem x_append (ok : okA tx n hm S L K) {c : Nat} (hc : c ≤ 255) (hlt : tx.length < 120) : AC (tx, n, hm, S, L, K, rd) (f_X9_append (nI c)) (.inl (nI (tx.length + 1))) (tx ++ [c], n, hm, S, L, K, rd) := by
  obtain ⟨o1, o2, h2, hn, o5, o6, o7, o8⟩ := id ok
  have htx : ∀ (f : Nat → Int32), (∀ j x, tx[j]? = some x → f j = nI x) → ∀ j x, (tx ++ [c])[j]? = some x → upd f tx.length (nI c) j = nI x := by
    intro f hf9 j x hx
    unfold upd
    by_cases ej : j < tx.length
    · rw [List.getElem?_append_left ej] at hx
      rw [if_neg (by omega)]; exact hf9 j x hx
    · have hlt9 := (List.getElem?_eq_some_iff.mp hx).1
      rw [List.length_append] at hlt9
      have hlt9 : j < tx.length + 1 := hlt9
      have e : j = tx.length := by omega
      subst e
      have e8 : c = x := by simpa using hx
      rw [if_pos rfl, e8]
  refine AC.st (fun g hC => ?_)
  obtain ⟨h1, h3, h4, h5, h6⟩ := hC
  have q : ∀ j, j ≠ 1 → j ≠ 2 → (gI1 (gI1 g 2 tx.length (nI c)) 1 1 (nI (tx.length + 1))).1 j = g.1 j := fun j h7 h8 => by rw [gI1_1, if_neg h7, gI1_1, if_neg h8]
  refine ⟨gI1 (gI1 g 2 tx.length (nI c)) 1 1 (nI (tx.length + 1)), ?_, ⟨⟨?_, ?_⟩, ⟨?_, ?_⟩, cS_eq h4 (fun z hz => q _ (by omega) (by omega)), cMem_eq h5 (fun z p r => q z (by omega) (by omega)), slC_eq h6 (fun z p r => q z (by omega) (by omega))⟩, fun j hj => q j (by omega) (by omega)⟩
  · unfold f_X9_append f_X6_isFull
    rw [if_neg (nI_pos (by omega)), if_pos (show nI c ≤ (255 : Int32) from nI_le (b := 255) hc (by decide)), h1.1, if_pos (show nI tx.length < (120 : Int32) from nI_lt (b := 120) hlt (by decide))]
    simp only [ob_eq]
    rw [if_pos trivial]
    unfold f_X6_add
    rw [h1.1, if_neg (show ¬ ((120 : Int32) ≤ nI tx.length) from nI_ge (b := 120) hlt (by decide)), if_pos (inb_nI hlt (by decide)), nI_clamp (by omega), char_small c (by omega)]
    simp only [gl_eq, ob_eq]
    have e5 : (gI1 g 2 tx.length (nI c)).1 1 1 = nI tx.length := by rw [gI1_1, if_neg (by decide)]; exact h1.1
    rw [e5, nI_1, r_self, if_pos rfl]
  · rw [r_self, if_pos rfl, List.length_append]; rfl
  · rw [gI1_1, if_neg (by decide), gI1_1, if_pos rfl]
    exact htx _ h1.2
  · rw [q 14 (by decide) (by decide)]; exact h3.1
  · intro s hs
    rw [q 15 (by decide) (by decide)]; exact h3.2 s hs
end UCS
