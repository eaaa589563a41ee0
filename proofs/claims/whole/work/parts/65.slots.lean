/-! PURE: undo, save slots, append. -/
def setK (K : Nat → Option aS) (i : Nat) (S : aS) : Nat → Option aS := fun j => if j = i then some S else K j
theorem setK_1 {K : Nat → Option aS} {i j : Nat} {S : aS} (h : j = i) : setK K i S j = some S := if_pos h
theorem setK_2 {K : Nat → Option aS} {i j : Nat} {S : aS} (h : ¬ j = i) : setK K i S j = K j := if_neg h
section US
variable {tx : List Nat} {n : Nat} {hm : Nat → Nat} {S : aS} {L : List aS} {K : Nat → Option aS}
theorem op_undo (ok : okA tx n hm S L K) : opOK tx n hm S L K f_X9_undo f_X10_undo G2 := by
  obtain ⟨o1, o2, h2, hn, o5, o6, o7, o8⟩ := id ok
  cases L with
  | nil =>
    refine opOK_same ok (.inr 2) (fun g hC => stC_rf hC ?_) (fun g hM => resM_r 0 1 one0 (fun _ => rfl) (stM_rf hM ?_))
    · unfold f_X9_undo f_X1_isEmpty
      rw [hC.2.2.2.1.2.1, if_pos (show nI ([] : List aS).length = (0 : Int32) from rfl)]
      simp only [ob_eq]
      rw [if_neg one0]
    · unfold f_X10_undo
      rw [hM.2.2.1.2.1, if_pos (show nI ([] : List aS).length = (0 : Int32) from rfl)]
      unfold fs_X10_undo_13
      rw [ref1]
      simp only [ob_eq]
      rw [if_neg one0]
  | cons S' L' =>
    have ok' : okS n S' := o7 S' (by simp)
    refine ⟨.inl (nI L'.length), tx, n, hm, S', L', K, ⟨o1, o2, h2, hn, o5, ok', fun S1 h1 => o7 S1 (by simp [h1]), o8⟩, fun g hC => ?_, fun g hM => ?_⟩
    · obtain ⟨h1, h3, h4, h5, h6⟩ := hC
      have hl : (S' :: L').length ≤ 14 := h5.1
      obtain ⟨g', e, a, b, c, d⟩ := c_takeBack (r := 16) ok' hn h5 (by decide)
      refine ⟨g', ?_, ⟨⟨?_, ?_⟩, ⟨?_, ?_⟩, a, b, slC_eq h6 (fun j p q => c j (by omega) (by omega))⟩, fun j hj => c j (by omega) (by omega)⟩
      · unfold f_X9_undo f_X1_isEmpty
        rw [h5.2.1, if_neg (fun e9 => by
          have e8 := (nI_z (by omega)).mp e9
          rw [List.length_cons] at e8
          omega)]
        simp only [ob_eq]
        rw [if_pos trivial, e]
        simp only [ob_eq]
      · rw [c 1 (by omega) (by omega)]; exact h1.1
      · intro j x hx
        rw [c 2 (by omega) (by omega)]; exact h1.2 j x hx
      · rw [c 14 (by omega) (by omega)]; exact h3.1
      · intro s hs
        rw [c 15 (by omega) (by omega)]; exact h3.2 s hs
    · obtain ⟨h1, h3, h4, h5⟩ := hM
      have hl : (S' :: L').length ≤ 14 := h4.1
      obtain ⟨g', e, a, b, c, d, d0, d2⟩ := m_undo hn ok' h4
      refine resM_l ⟨g', ?_, ⟨⟨?_, ?_⟩, a, b, ?_⟩, d0, fun j hj => c j (by omega) (by omega), d2⟩
      · unfold f_X10_undo
        rw [h4.2.1, if_neg (fun e9 => by
          have e8 := (nI_z (by omega)).mp e9
          rw [List.length_cons] at e8
          omega)]
        exact e
      · rw [d 2 (by decide) (by decide)]; exact h1.1
      · intro j x hx
        rw [c 175 (by decide) (by decide)]; exact h1.2 j x hx
      · intro i hi
        rw [c 187 (by decide) (by decide), c 186 (by decide) (by decide)]; exact h5 i hi
theorem slot_two {a : Int32} : decide (0 ≤ a.toInt ∧ a.toInt ≤ ((1 : Nat) : Int)) = true → a = nI 0 ∨ a = nI 1 := by
  intro h
  obtain ⟨j, hj, rfl⟩ := in_nI h
  have : j = 0 ∨ j = 1 := by omega
  rcases this with rfl | rfl
  · exact Or.inl rfl
  · exact Or.inr rfl
theorem slot_no {a : Int32} (h : decide (0 ≤ a.toInt ∧ a.toInt ≤ ((1 : Nat) : Int)) = false) (g : gG) : f_X9_requireSlot a g = some (.inr 3, g) := by
  have h3 := of_decide_eq_false h
  have e1 : (0 : Int32).toInt = 0 := rfl
  have e2 : (2 : Int32).toInt = 2 := rfl
  unfold f_X9_requireSlot fs_X9_requireSlot_9
  by_cases h0 : a < 0
  · rw [if_pos h0]
  · rw [if_neg h0, if_neg]
    rw [Int32.lt_iff_toInt_lt] at h0 ⊢
    omega
theorem slot_yes {i : Nat} (hi : i < 2) (g : gG) : f_X9_requireSlot (nI i) g = some (.inl (), g) := by
  unfold f_X9_requireSlot
  rw [if_neg (nI_pos (by omega)), if_pos (show nI i < (2 : Int32) from nI_lt (b := 2) hi (by decide))]
theorem c_copyS {g : gG} {k r : Nat} (h : cS g r S) (ok : okS n S) (hn : n ≤ 10) (hkr : k + 8 ≤ r ∨ r + 8 ≤ k) : ∃ g', f_X5_copyFrom k r g = some ((), g') ∧ cS g' k S ∧ frm k (k + 8) g g' := by
  obtain ⟨X, Y, E, T⟩ := S
  exact c_copyFrom h ok hn hkr
theorem slot_in (a : Int32) (g : gG) : f_X10_in a.toInt64 (0 : Int64) (1 : Int64) g = some (b2 (decide (0 ≤ a.toInt ∧ a.toInt ≤ ((1 : Nat) : Int))), g) := m_inL a 1 (by decide) g
theorem op_save (ok : okA tx n hm S L K) (a : Int32) : opOK tx n hm S L K (f_X9_save a) (f_X10_save a) G3 := by
  obtain ⟨o1, o2, h2, hn, o5, o6, o7, o8⟩ := id ok
  have c1 : (1 : Int32).toNatClampNeg = 1 := by decide
  cases hT : decide (0 ≤ a.toInt ∧ a.toInt ≤ ((1 : Nat) : Int)) with
  | false =>
    refine opOK_same ok (.inr 3) (fun g hC => stC_rf hC ?_) (fun g hM => resM_r 0 1 one0 (fun _ => rfl) (stM_rf hM ?_))
    · unfold f_X9_save
      rw [slot_no hT, gXb_r]
    · unfold f_X10_save
      rw [slot_in, hT]
      simp only [ob_eq]
      rw [b2_f, if_pos zero0]
      unfold fs_X10_save_16
      rw [ref1]
      simp only [ob_eq]
      rw [if_neg one0]
  | true =>
    obtain ⟨i, hi, rfl⟩ := in_nI hT
    have hi2 : i < 2 := by omega
    refine ⟨.inl (nI S.2.2.2.length), tx, n, hm, S, L, setK K i S, ⟨o1, o2, h2, hn, o5, o6, o7, ?_⟩, fun g hC => ?_, fun g hM => ?_⟩
    · intro j S' hS
      by_cases e : j = i
      · rw [setK_1 e] at hS; cases hS; exact o6
      · rw [setK_2 e] at hS; exact o8 j S' hS
    · obtain ⟨h1, h3, h4, h5, h6⟩ := hC
      obtain ⟨g1, e1, a1, f1⟩ := c_copyS (k := 139 + 8 * i) (r := 16) h4 o6 hn (by omega)
      have hr155 : g1.1 155 = g.1 155 := f1.1 155 (by omega)
      have q : ∀ j, j ≠ 155 → (gI1 g1 155 i 1).1 j = g1.1 j := fun j hj => by rw [gI1_1, if_neg hj]
      have q2 : ∀ j, (j < 139 + 8 * i ∨ 139 + 8 * i + 8 ≤ j) → j ≠ 155 → (gI1 g1 155 i 1).1 j = g.1 j := fun j hj hj2 => by rw [q j hj2, f1.1 j (by omega)]
      refine ⟨gI1 g1 155 i 1, ?_, ⟨⟨?_, ?_⟩, ⟨?_, ?_⟩, ?_, ?_, ?_⟩, fun j hj => q2 j (by omega) (by omega)⟩
      · unfold f_X9_save
        rw [slot_yes hi2, gXb_l, inb_nI hi2 (by decide)]
        simp only [if_true, nI_clamp (n := i) (show i < 2 ^ 31 by omega)]
        rw [e1]
        simp only [ob_eq, gl_eq]
        rw [show vp_nar .boolean (1 : Int32) = 1 from nar_b2 true]
        unfold f_X5_teamCount
        rw [q 16 (by decide), show g1.1 16 9 = nI S.2.2.2.length by rw [f1.1 16 (by omega)]; exact h4.2.1]
        rfl
      · rw [q2 1 (by omega) (by decide)]; exact h1.1
      · intro j x hx
        rw [q2 2 (by omega) (by decide)]; exact h1.2 j x hx
      · rw [q2 14 (by omega) (by decide)]; exact h3.1
      · intro s hs
        rw [q2 15 (by omega) (by decide)]; exact h3.2 s hs
      · exact cS_eq h4 (fun j hj => q2 _ (by omega) (by omega))
      · exact cMem_eq h5 (fun j p r => q2 j (by omega) (by omega))
      · intro j hj
        by_cases e : j = i
        · subst e
          refine ⟨fun hnn => (by rw [setK_1 rfl] at hnn; cases hnn), fun S' hS => ?_⟩
          rw [setK_1 rfl] at hS
          cases hS
          refine ⟨by rw [r_self, if_pos rfl], cS_eq a1 (fun z hz => q _ (by omega))⟩
        · obtain ⟨k1, k2⟩ := h6 j hj
          refine ⟨fun hnn => ?_, fun S' hS => ?_⟩
          · rw [setK_2 e] at hnn
            rw [r_self, if_neg e, hr155]; exact k1 hnn
          · rw [setK_2 e] at hS
            obtain ⟨k3, k4⟩ := k2 S' hS
            refine ⟨by rw [r_self, if_neg e, hr155]; exact k3, cS_eq k4 (fun z hz => q2 _ (by omega) (by omega))⟩
    · have hM' := InvM_r 0 hM
      obtain ⟨h1, h3, h4, h5⟩ := hM'
      have ecp := m_copy (gI1 g 174 0 0) (r0 := 183) (n0 := 394) (r2 := 186) (n2 := 788) (a := 0) (b := 394 * i) (m := 394) (by omega) (by omega) (by omega) (by decide) (by decide) (by unfold gFuel; omega)
      have q : ∀ j, j ≠ 186 → j ≠ 187 → (gI1 (cpN (gI1 g 174 0 0) 183 186 0 (394 * i) 394) 187 i 1).1 j = (gI1 g 174 0 0).1 j := fun j h7 h8 => by rw [gI1_1, if_neg h8, cpN_1, if_neg h7]
      have q186 : (gI1 (cpN (gI1 g 174 0 0) 183 186 0 (394 * i) 394) 187 i 1).1 186 = va_cpy ((gI1 g 174 0 0).1 183) ((gI1 g 174 0 0).1 186) 0 (394 * i) 394 := by rw [gI1_1, if_neg (by decide), cpN_1, if_pos rfl]
      have q187 : ∀ j, (gI1 (cpN (gI1 g 174 0 0) 183 186 0 (394 * i) 394) 187 i 1).1 187 j = if j = i then 1 else (gI1 g 174 0 0).1 187 j := fun j => by rw [r_self, cpN_1, if_neg (show ¬ ((187 : Nat) = 186) by decide)]
      refine resM_l ⟨gI1 (cpN (gI1 g 174 0 0) 183 186 0 (394 * i) 394) 187 i 1, ?_, ⟨⟨?_, ?_⟩, ?_, ⟨h4.1, ?_, ?_⟩, ?_⟩, ?_, fun j hj => by rw [q j (by omega) (by omega), gI1_1, if_neg (by omega)], rfl⟩
      · unfold f_X10_save
        rw [slot_in, hT]
        simp only [ob_eq]
        rw [b2_t, if_neg one0]
        unfold fs_X10_save_16
        rw [ref0]
        simp only [ob_eq]
        rw [if_pos trivial, show (394 : Int32) * nI i = nI (394 * i) from pk_mul 394 i, show f_X10_copy 183 394 186 788 (0 : Int32) (nI (394 * i)) (394 : Int32) (gI1 g 174 0 0) = _ from ecp]
        simp only [ob_eq]
        rw [if_pos (inb_nI hi2 (by decide)), nI_clamp (by omega), show vp_nar .boolean (1 : Int32) = 1 from nar_b2 true]
        simp only [gl_eq]
        rw [if_pos (show inb 1 394 = true by decide), c1, q 183 (by decide) (by decide)]
        exact congrArg (fun v => some (v, gI1 (cpN (gI1 g 174 0 0) 183 186 0 (394 * i) 394) 187 i 1)) h3.2.1
      · rw [q 174 (by decide) (by decide)]; exact h1.1
      · intro j x hx
        rw [q 175 (by decide) (by decide)]; exact h1.2 j x hx
      · rw [q 183 (by decide) (by decide)]; exact h3
      · rw [q 174 (by decide) (by decide)]; exact h4.2.1
      · intro z S1 hS1
        rw [q 185 (by decide) (by decide)]; exact h4.2.2 z S1 hS1
      · intro j hj
        by_cases e : j = i
        · subst e
          refine ⟨fun hnn => (by rw [setK_1 rfl] at hnn; cases hnn), fun S' hS => ?_⟩
          rw [setK_1 rfl] at hS
          cases hS
          refine ⟨by rw [q187, if_pos rfl], mS_eq hn o6 (fun z hz => ?_) h3⟩
          rw [q186, cpyIn _ _ (by omega) (by omega)]
          have e5 : 0 + (394 * j + z - 394 * j) = z := by omega
          rw [e5]
        · obtain ⟨k1, k2⟩ := h5 j hj
          refine ⟨fun hnn => ?_, fun S' hS => ?_⟩
          · rw [setK_2 e] at hnn
            rw [q187, if_neg e]; exact k1 hnn
          · rw [setK_2 e] at hS
            obtain ⟨k3, k4⟩ := k2 S' hS
            refine ⟨by rw [q187, if_neg e]; exact k3, mS_eq hn (o8 j S' hS) (fun z hz => ?_) k4⟩
            rw [q186, cpyOut _ _ (by omega)]
      · rw [q 174 (by decide) (by decide), r_self, if_pos rfl]
theorem op_restore (ok : okA tx n hm S L K) (a : Int32) : opOK tx n hm S L K (f_X9_restore a) (f_X10_restore a) G32 := by
  obtain ⟨o1, o2, h2, hn, o5, o6, o7, o8⟩ := id ok
  have c1 : (1 : Int32).toNatClampNeg = 1 := by decide
  cases hT : decide (0 ≤ a.toInt ∧ a.toInt ≤ ((1 : Nat) : Int)) with
  | false =>
    refine opOK_same ok (.inr 3) (fun g hC => stC_rf hC ?_) (fun g hM => resM_r 0 1 one0 (fun _ => rfl) (stM_rf hM ?_))
    · unfold f_X9_restore
      rw [slot_no hT, gXb_r]
    · unfold f_X10_restore
      rw [slot_in, hT]
      simp only [ob_eq]
      rw [b2_f, if_pos zero0]
      unfold fs_X10_restore_29
      rw [ref1]
      simp only [ob_eq]
      rw [if_neg one0]
  | true =>
    obtain ⟨i, hi, rfl⟩ := in_nI hT
    have hi2 : i < 2 := by omega
    cases hK : K i with
    | none =>
      refine opOK_same ok (.inr 2) (fun g hC => stC_rf hC ?_) (fun g hM => resM_r 0 2 (by decide) (fun _ => rfl) (stM_rf hM ?_))
      · unfold f_X9_restore
        rw [slot_yes hi2, gXb_l, if_pos (inb_nI hi2 (by decide)), nI_clamp (by omega), (hC.2.2.2.2 i hi2).1 hK, if_pos zero0]
      · unfold f_X10_restore
        rw [slot_in, hT]
        simp only [ob_eq]
        rw [b2_t, if_neg one0, if_pos (inb_nI hi2 (by decide)), nI_clamp (by omega), (hM.2.2.2 i hi2).1 hK, if_pos zero0]
        unfold fs_X10_restore_29
        rw [ref2]
        simp only [ob_eq]
        rw [if_neg one0]
    | some S' =>
      have ok' := o8 i S' hK
      refine ⟨.inl (nI S'.2.2.2.length), tx, n, hm, S', [], K, ⟨o1, o2, h2, hn, o5, ok', fun S1 h1 => by simp at h1, o8⟩, fun g hC => ?_, fun g hM => ?_⟩
      · obtain ⟨h1, h3, h4, h5, h6⟩ := hC
        obtain ⟨k3, k4⟩ := (h6 i hi2).2 S' hK
        obtain ⟨g1, e1, a1, f1⟩ := c_copyS (k := 16) (r := 139 + 8 * i) k4 ok' hn (by omega)
        have q : ∀ j, j ≠ 24 → (gI1 g1 24 2 0).1 j = g1.1 j := fun j hj => by rw [gI1_1, if_neg hj]
        have q2 : ∀ j, (j < 16 ∨ 24 < j) → (gI1 g1 24 2 0).1 j = g.1 j := fun j hj => by rw [q j (by omega), f1.1 j (by omega)]
        obtain ⟨m1, m2, f, m3, m4, m5⟩ := h5
        refine ⟨gI1 g1 24 2 0, ?_, ⟨⟨?_, ?_⟩, ⟨?_, ?_⟩, cS_eq a1 (fun z hz => q _ (by omega)), ⟨by decide, ?_, f, m3, ?_, fun z S1 hS1 => by simp at hS1⟩, slC_eq h6 (fun j p r => q2 j (by omega))⟩, fun j hj => q2 j (by omega)⟩
        · unfold f_X9_restore f_X1_forget f_X5_teamCount
          rw [slot_yes hi2, gXb_l, inb_nI hi2 (by decide)]
          simp only [if_true, nI_clamp (n := i) (show i < 2 ^ 31 by omega)]
          rw [k3, if_neg one0, e1]
          simp only [ob_eq, gl_eq]
          rw [q 16 (by decide)]
          exact congrArg (fun v => some (Sum.inl v, gI1 g1 24 2 0)) a1.2.1
        · rw [q2 1 (by omega)]; exact h1.1
        · intro j x hx
          rw [q2 2 (by omega)]; exact h1.2 j x hx
        · rw [q2 14 (by omega)]; exact h3.1
        · intro s hs
          rw [q2 15 (by omega)]; exact h3.2 s hs
        · rw [r_self, if_pos rfl]; rfl
        · rw [r_self, if_neg (by decide), f1.1 24 (by omega)]; exact m4
      · have hM' := InvM_r 0 hM
        obtain ⟨h1, h3, h4, h5⟩ := hM'
        obtain ⟨k3, k4⟩ := (h5 i hi2).2 S' hK
        have ecp := m_copy (gI1 g 174 0 0) (r0 := 186) (n0 := 788) (r2 := 183) (n2 := 394) (a := 394 * i) (b := 0) (m := 394) (by omega) (by omega) (by omega) (by decide) (by decide) (by unfold gFuel; omega)
        have q : ∀ j, j ≠ 183 → j ≠ 174 → (gI1 (cpN (gI1 g 174 0 0) 186 183 (394 * i) 0 394) 174 16 0).1 j = (gI1 g 174 0 0).1 j := fun j h7 h8 => by rw [gI1_1, if_neg h8, cpN_1, if_neg h7]
        have q183 : (gI1 (cpN (gI1 g 174 0 0) 186 183 (394 * i) 0 394) 174 16 0).1 183 = va_cpy ((gI1 g 174 0 0).1 186) ((gI1 g 174 0 0).1 183) (394 * i) 0 394 := by rw [gI1_1, if_neg (by decide), cpN_1, if_pos rfl]
        have q174 : ∀ j, (gI1 (cpN (gI1 g 174 0 0) 186 183 (394 * i) 0 394) 174 16 0).1 174 j = if j = 16 then 0 else (gI1 g 174 0 0).1 174 j := fun j => by rw [r_self, cpN_1, if_neg (show ¬ ((174 : Nat) = 183) by decide)]
        have hS' : mS ((gI1 (cpN (gI1 g 174 0 0) 186 183 (394 * i) 0 394) 174 16 0).1 183) n hm S' := by
          refine mS_eq hn ok' (fun z hz => ?_) k4
          rw [q183, cpyIn _ _ (by omega) (by omega)]
          congr 1
        refine resM_l ⟨gI1 (cpN (gI1 g 174 0 0) 186 183 (394 * i) 0 394) 174 16 0, ?_, ⟨⟨?_, ?_⟩, hS', ⟨by decide, ?_, fun z S1 hS1 => by simp at hS1⟩, ?_⟩, ?_, fun j hj => by rw [q j (by omega) (by omega), gI1_1, if_neg (by omega)], rfl⟩
        · unfold f_X10_restore
          rw [slot_in, hT]
          simp only [ob_eq]
          rw [b2_t, if_neg one0, if_pos (inb_nI hi2 (by decide)), nI_clamp (by omega), ((hM.2.2.2 i hi2).2 S' hK).1, if_neg one0]
          unfold fs_X10_restore_29
          rw [ref0]
          simp only [ob_eq]
          rw [if_pos trivial, show (394 : Int32) * nI i = nI (394 * i) from pk_mul 394 i, show f_X10_copy 186 788 183 394 (nI (394 * i)) (0 : Int32) (394 : Int32) (gI1 g 174 0 0) = _ from ecp]
          simp only [ob_eq, gl_eq]
          rw [if_pos (show inb 1 394 = true by decide), c1]
          exact congrArg (fun v => some (v, gI1 (cpN (gI1 g 174 0 0) 186 183 (394 * i) 0 394) 174 16 0)) hS'.2.1
        · rw [q174, if_neg (by decide)]; exact h1.1
        · intro j x hx
          rw [q 175 (by decide) (by decide)]; exact h1.2 j x hx
        · rw [q174, if_pos rfl]; rfl
        · intro j hj
          rw [q 187 (by decide) (by decide), q 186 (by decide) (by decide)]; exact h5 j hj
        · rw [q174, if_neg (by decide), r_self, if_pos rfl]
theorem char_small : ∀ c, c < 256 → vp_nar .char (((nI c).toUInt32 % 65536).toInt32) = nI c := by decide +kernel
theorem op_append (ok : okA tx n hm S L K) (a : Int32) : opOK tx n hm S L K (f_X9_append a) (f_X10_append a) G12 := by
  obtain ⟨o1, o2, h2, hn, o5, o6, o7, o8⟩ := id ok
  cases hT : decide (0 ≤ a.toInt ∧ a.toInt ≤ ((255 : Nat) : Int)) with
  | false =>
    refine opOK_same ok (.inr 1) (fun g hC => stC_rf hC ?_) (fun g hM => resM_r 0 1 one0 (fun _ => rfl) (stM_rf hM ?_))
    · have h3 := of_decide_eq_false hT
      have e1 : (0 : Int32).toInt = 0 := rfl
      have e2 : (255 : Int32).toInt = 255 := rfl
      unfold f_X9_append fs_X9_append_11
      by_cases h0 : a < 0
      · rw [if_pos h0]
      · rw [if_neg h0, if_neg]
        rw [Int32.lt_iff_toInt_lt] at h0
        rw [Int32.le_iff_toInt_le]
        omega
    · unfold f_X10_append
      rw [show f_X10_in a.toInt64 (0 : Int64) (255 : Int64) g = _ from m_inL a 255 (by decide) g, hT]
      simp only [ob_eq]
      rw [b2_f, if_pos zero0]
      unfold fs_X10_append_31
      rw [ref1]
      simp only [ob_eq]
      rw [if_neg one0]
  | true =>
    obtain ⟨c, hc, rfl⟩ := in_nI hT
    by_cases hf : tx.length = 120
    · refine opOK_same ok (.inr 2) (fun g hC => stC_rf hC ?_) (fun g hM => resM_r 0 2 (by decide) (fun _ => rfl) (stM_rf hM ?_))
      · unfold f_X9_append f_X6_isFull
        rw [if_neg (nI_pos (by omega)), if_pos (show nI c ≤ (255 : Int32) from nI_le (b := 255) hc (by decide)), hC.1.1, hf, if_neg (by decide)]
        simp only [ob_eq]
        rw [if_neg one0]
      · unfold f_X10_append
        rw [show f_X10_in (nI c).toInt64 (0 : Int64) (255 : Int64) g = _ from m_inL (nI c) 255 (by decide) g, hT]
        simp only [ob_eq]
        rw [b2_t, if_neg one0, hM.1.1, hf, if_pos (show nI 120 = (120 : Int32) from rfl)]
        unfold fs_X10_append_31
        rw [ref2]
        simp only [ob_eq]
        rw [if_neg one0]
    · have hlt : tx.length < 120 := by omega
      have htx : ∀ (f : Nat → Int32), (∀ j x, tx[j]? = some x → f j = nI x) → ∀ j x, (tx ++ [c])[j]? = some x → upd f tx.length (nI c) j = nI x := by
        intro f hf9 j x hx
        unfold upd
        by_cases ej : j < tx.length
        · rw [List.getElem?_append_left ej] at hx
          rw [if_neg (by omega)]; exact hf9 j x hx
        · have hlt9 := (List.getElem?_eq_some_iff.mp hx).1
          rw [List.length_append] at hlt9
          have hlt9 : j < tx.length + 1 := hlt9
          have e : j = tx.length := by omega
          subst e
          have e8 : c = x := by simpa using hx
          rw [if_pos rfl, e8]
      refine ⟨.inl (nI (tx.length + 1)), tx ++ [c], n, hm, S, L, K, ⟨?_, ?_, h2, hn, o5, o6, o7, o8⟩, fun g hC => ?_, fun g hM => ?_⟩
      · rw [List.length_append]
        show tx.length + 1 ≤ 120
        omega
      · intro x hx
        rcases List.mem_append.mp hx with h | h
        · exact o2 x h
        · rw [List.mem_singleton.mp h]; omega
      · obtain ⟨h1, h3, h4, h5, h6⟩ := hC
        have q : ∀ j, j ≠ 1 → j ≠ 2 → (gI1 (gI1 g 2 tx.length (nI c)) 1 1 (nI (tx.length + 1))).1 j = g.1 j := fun j h7 h8 => by rw [gI1_1, if_neg h7, gI1_1, if_neg h8]
        refine ⟨gI1 (gI1 g 2 tx.length (nI c)) 1 1 (nI (tx.length + 1)), ?_, ⟨⟨?_, ?_⟩, ⟨?_, ?_⟩, cS_eq h4 (fun z hz => q _ (by omega) (by omega)), cMem_eq h5 (fun z p r => q z (by omega) (by omega)), slC_eq h6 (fun z p r => q z (by omega) (by omega))⟩, fun j hj => q j (by omega) (by omega)⟩
        · unfold f_X9_append f_X6_isFull
          rw [if_neg (nI_pos (by omega)), if_pos (show nI c ≤ (255 : Int32) from nI_le (b := 255) hc (by decide)), h1.1, if_pos (show nI tx.length < (120 : Int32) from nI_lt (b := 120) hlt (by decide))]
          simp only [ob_eq]
          rw [if_pos trivial]
          unfold f_X6_add
          rw [h1.1, if_neg (show ¬ ((120 : Int32) ≤ nI tx.length) from nI_ge (b := 120) hlt (by decide)), if_pos (inb_nI hlt (by decide)), nI_clamp (by omega), char_small c (by omega)]
          simp only [gl_eq, ob_eq]
          have e5 : (gI1 g 2 tx.length (nI c)).1 1 1 = nI tx.length := by rw [gI1_1, if_neg (by decide)]; exact h1.1
          rw [e5, nI_1, r_self, if_pos rfl]
        · rw [r_self, if_pos rfl, List.length_append]; rfl
        · rw [gI1_1, if_neg (by decide), gI1_1, if_pos rfl]
          exact htx _ h1.2
        · rw [q 14 (by decide) (by decide)]; exact h3.1
        · intro s hs
          rw [q 15 (by decide) (by decide)]; exact h3.2 s hs
      · have hM' := InvM_r 0 hM
        obtain ⟨h1, h3, h4, h5⟩ := hM'
        have q : ∀ j, j ≠ 174 → j ≠ 175 → (gI1 (gI1 (gI1 g 174 0 0) 175 tx.length (nI c)) 174 2 (nI (tx.length + 1))).1 j = (gI1 g 174 0 0).1 j := fun j h7 h8 => by rw [gI1_1, if_neg h7, gI1_1, if_neg h8]
        have q174 : ∀ j, (gI1 (gI1 (gI1 g 174 0 0) 175 tx.length (nI c)) 174 2 (nI (tx.length + 1))).1 174 j = if j = 2 then nI (tx.length + 1) else (gI1 g 174 0 0).1 174 j := fun j => by rw [r_self, gI1_1, if_neg (show ¬ ((174 : Nat) = 175) by decide)]
        refine resM_l ⟨gI1 (gI1 (gI1 g 174 0 0) 175 tx.length (nI c)) 174 2 (nI (tx.length + 1)), ?_, ⟨⟨?_, ?_⟩, ?_, ⟨h4.1, ?_, ?_⟩, ?_⟩, ?_, fun j hj => by rw [q j (by omega) (by omega), gI1_1, if_neg (by omega)], rfl⟩
        · unfold f_X10_append
          rw [show f_X10_in (nI c).toInt64 (0 : Int64) (255 : Int64) g = _ from m_inL (nI c) 255 (by decide) g, hT]
          simp only [ob_eq]
          rw [b2_t, if_neg one0, hM.1.1, if_neg (show ¬ (nI tx.length = (120 : Int32)) from fun e => hf ((nI_eq (b := 120) (by omega) (by decide)).mp e))]
          unfold fs_X10_append_31
          rw [ref0]
          simp only [ob_eq]
          rw [if_pos trivial, h1.1, if_pos (inb_nI hlt (by decide)), nI_clamp (by omega)]
          simp only [gl_eq]
          have e5 : (gI1 (gI1 g 174 0 0) 175 tx.length (nI c)).1 174 2 = nI tx.length := by rw [gI1_1, if_neg (by decide)]; exact h1.1
          rw [e5, nI_1, q174, if_pos rfl]
        · rw [q174, if_pos rfl, List.length_append]; rfl
        · rw [gI1_1, if_neg (by decide), gI1_1, if_pos rfl]
          exact htx _ h1.2
        · rw [q 183 (by decide) (by decide)]; exact h3
        · rw [q174, if_neg (by decide)]; exact h4.2.1
        · intro z S1 hS1
          rw [q 185 (by decide) (by decide)]; exact h4.2.2 z S1 hS1
        · intro j hj
          rw [q 187 (by decide) (by decide), q 186 (by decide) (by decide)]; exact h5 j hj
        · rw [q174, if_neg (by decide), r_self, if_pos rfl]
end US
