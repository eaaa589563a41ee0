/-! PURE: the reference reads a condition to its end. -/
section MC
variable {tx : List Nat} {s told : Nat}
theorem c80_no {g : gG} {i : Nat} (hm : mc g i false) : fs_X10_readCondition_80 g = some (0, g) := by
  unfold fs_X10_readCondition_80
  rw [hm.2, if_pos (show b2 false = 0 from rfl)]
theorem c80_yes {g : gG} {i : Nat} {F : aF} {R : List aF} (hm : mc g i true) (h : fsM g s F R) (hR : R.length ≤ 121) : fs_X10_readCondition_80 g = some (b2 (cT F s), g) := by
  unfold fs_X10_readCondition_80
  rw [hm.2, if_neg (show ¬ (b2 true = 0) from one0), m_group h hR]
  simp only [ob_eq]
  cases cT F s with
  | true => rw [b2_t, if_neg one0]
  | false => rw [b2_f, if_pos zero0]
theorem c13_no {g : gG} {i fu : Nat} (hm : mc g i false) (hf : 0 < fu) (a b c : Int32) : fb_X10_readCondition_13 fu a b c g = some (0, g) := by
  obtain ⟨fu, rfl⟩ : ∃ f', fu = f' + 1 := ⟨fu - 1, by omega⟩
  show fs_X10_readCondition_13 (fb_X10_readCondition_13 fu) a b c g = _
  unfold fs_X10_readCondition_13
  rw [hm.2, if_pos (show b2 false = 0 from rfl)]
  exact c80_no hm
def mcR (tx : List Nat) (told s i : Nat) (g : gG) (y : Option (Int32 × gG)) (z : Nat × Option aF) : Prop := (z.2 = none → ∃ g', y = some (0, g') ∧ mc g' z.1 false ∧ frQ g g') ∧ ∀ F', z.2 = some F' → ∃ g', y = some (b2 (cT F' (s % 512)), g') ∧ mc g' z.1 true ∧ frQ g g' ∧ i ≤ z.1 ∧ z.1 ≤ tx.length ∧ (z.1 < tx.length → tx.getD z.1 0 = 47)
theorem mcR_no {g g' : gG} {i j fu : Nat} {a b c : Int32} {y : Option (Int32 × gG)} (e : y = fb_X10_readCondition_13 fu a b c g') (hm : mc g' j false) (hf : 0 < fu) (f : frQ g g') : mcR tx told s i g y (j, none) := by
  refine ⟨fun _ => ⟨g', ?_, hm, f⟩, fun F' h => by cases h⟩
  rw [e]; exact c13_no hm hf a b c
theorem mcR_tr {g g' : gG} {i j : Nat} {y y' : Option (Int32 × gG)} {z : Nat × Option aF} (e : y = y') (f : frQ g g') (hij : i ≤ j) (h : mcR tx told s j g' y' z) : mcR tx told s i g y z := by
  subst e
  refine ⟨fun hz => ?_, fun F' hz => ?_⟩
  · obtain ⟨g2, e2, m2, f2⟩ := h.1 hz
    exact ⟨g2, e2, m2, f.tr f2⟩
  · obtain ⟨g2, e2, m2, f2, l1, l2, l3⟩ := h.2 F' hz
    exact ⟨g2, e2, m2, f.tr f2, Nat.le_trans hij l1, l2, l3⟩
theorem m_cond (hl : tx.length ≤ 120) (hc : ∀ c ∈ tx, c < 256) (ht : told ≤ 9) : ∀ d i mode F R g fu, i + d = tx.length → d + 1 < fu → mc g i true → fsM g (s % 512) F R → invN F R i → (mode = 4 ∨ mode = 6) → txM g tx → mcR tx told s i g (fb_X10_readCondition_13 fu (nI s) (nI told) (b2 (decide (mode = 4))) g) (cR tx told d i mode F R) := by
  intro d
  induction d using Nat.strongRecOn with
  | ind d ih =>
  intro i mode F R g fu hi hf hm h hN hmo hT
  obtain ⟨fu, rfl⟩ : ∃ f', fu = f' + 1 := ⟨fu - 1, by omega⟩
  have hR := hN.1
  have e0 : fb_X10_readCondition_13 (fu + 1) (nI s) (nI told) (b2 (decide (mode = 4))) g = fs_X10_readCondition_13 (fb_X10_readCondition_13 fu) (nI s) (nI told) (b2 (decide (mode = 4))) g := rfl
  rw [e0]
  unfold fs_X10_readCondition_13
  rw [hm.2, if_neg (show ¬ (b2 true = 0) from one0)]
  rcases hmo with rfl | rfl
  · -- a part stands here
    have b4 : b2 (decide ((4 : Nat) = 4)) = 1 := rfl
    rw [b4, if_neg one0]
    unfold fs_X10_readCondition_51
    rw [if_neg one0]
    cases d with
    | zero =>
      have er : cR tx told 0 i 4 F R = (i, none) := by
        show (i, if 4 = 6 ∧ isE R = true then some F else none) = _
        rw [if_neg (fun e => by have := e.1; omega)]
      rw [er]
      obtain ⟨g1, x1, m1, _, f1⟩ := m_readPart_e (s := s) (told := told) (F := F) (R := R) hT hl hm ht (by omega)
      rw [x1]
      simp only [ob_eq]
      rw [if_pos trivial]
      exact mcR_no rfl m1 (by omega) f1
    | succ d =>
      have er : cR tx told (d + 1) i 4 F R = (match cst told 4 F R (tx.getD i 0) with
        | none => (i, none)
        | some z => cR tx told d (i + 1) z.1 z.2.1 z.2.2) := by
        show (if 4 = 6 ∧ isE R = true ∧ tx.getD i 0 = 47 then (i, some F) else _) = _
        rw [if_neg (fun e => by have := e.1; omega)]
        rfl
      rw [er]
      obtain ⟨p1, p2, p3, p4⟩ := m_readPart_c (told := told) hT hl hc hm h hR ht (by omega)
      cases ez : cst told 4 F R (tx.getD i 0) with
      | none =>
        obtain ⟨g1, x1, m1, _, f1⟩ := p4 ez
        rw [x1]
        simp only [ob_eq]
        rw [if_pos trivial]
        exact mcR_no rfl m1 (by omega) f1
      | some z =>
        obtain ⟨m', F', R'⟩ := z
        have hN' := cst_inv ez hN
        rcases cst_mode ez with e4 | e5 | e6
        · have e4 : m' = 4 := e4
          subst e4
          obtain ⟨g1, x1, m1, s1, f1⟩ := p1 F' R' ez
          rw [x1]
          simp only [ob_eq]
          rw [if_pos trivial]
          exact mcR_tr rfl f1 (Nat.le_succ _) (ih d (by omega) (i + 1) 4 F' R' g1 fu (by omega) (by omega) m1 (s1 rfl) hN' (Or.inl rfl) (txM_Q hT f1))
        · have e5 : m' = 5 := e5
          subst e5
          obtain ⟨p5, p6⟩ := p3 F' R' ez
          by_cases hn : i + 1 < tx.length ∧ tx.getD (i + 1) 0 = 91
          · obtain ⟨g1, x1, m1, s1, f1⟩ := p5 hn
            rw [x1]
            simp only [ob_eq]
            rw [if_pos trivial]
            obtain ⟨d, rfl⟩ : ∃ d', d = d' + 1 := ⟨d - 1, by omega⟩
            have er2 : cR tx told (d + 1) (i + 1) 5 F' R' = cR tx told d (i + 2) 4 F' R' := by
              show (if 5 = 6 ∧ isE R' = true ∧ tx.getD (i + 1) 0 = 47 then (i + 1, some F') else (match (if tx.getD (i + 1) 0 = 91 then some (4, F', R') else none) with
                | none => (i + 1, none)
                | some z => cR tx told d (i + 1 + 1) z.1 z.2.1 z.2.2)) = _
              rw [if_neg (fun e => by have := e.1; omega), if_pos hn.2]
            show mcR tx told s i g _ (cR tx told (d + 1) (i + 1) 5 F' R')
            rw [er2]
            exact mcR_tr rfl f1 (Nat.le_add_right _ 2) (ih d (by omega) (i + 2) 4 F' R' g1 fu (by omega) (by omega) m1 (s1 rfl) (invN_c hN' rfl rfl) (Or.inl rfl) (txM_Q hT f1))
          · obtain ⟨g1, x1, m1, s1, f1⟩ := p6 hn
            rw [x1]
            simp only [ob_eq]
            rw [if_pos trivial]
            have er2 : cR tx told d (i + 1) 5 F' R' = (i + 1, none) := by
              cases d with
              | zero =>
                show (i + 1, if 5 = 6 ∧ isE R' = true then some F' else none) = _
                rw [if_neg (fun e => by have := e.1; omega)]
              | succ d =>
                show (if 5 = 6 ∧ isE R' = true ∧ tx.getD (i + 1) 0 = 47 then (i + 1, some F') else (match (if tx.getD (i + 1) 0 = 91 then some (4, F', R') else none) with
                  | none => (i + 1, none)
                  | some z => cR tx told d (i + 1 + 1) z.1 z.2.1 z.2.2)) = _
                rw [if_neg (fun e => by have := e.1; omega), if_neg (fun e => hn ⟨by omega, e⟩)]
            show mcR tx told s i g _ (cR tx told d (i + 1) 5 F' R')
            rw [er2]
            exact mcR_no rfl m1 (by omega) f1
        · have e6 : m' = 6 := e6
          subst e6
          obtain ⟨g1, x1, m1, s1, f1⟩ := p2 F' R' ez
          rw [x1]
          simp only [ob_eq]
          rw [if_neg one0]
          exact mcR_tr rfl f1 (Nat.le_succ _) (ih d (by omega) (i + 1) 6 F' R' g1 fu (by omega) (by omega) m1 (s1 rfl) hN' (Or.inr rfl) (txM_Q hT f1))
  · -- something stands behind a part
    have b4 : b2 (decide ((6 : Nat) = 4)) = 0 := rfl
    rw [b4, if_pos zero0]
    have e51 : fs_X10_readCondition_51 (fb_X10_readCondition_13 fu) (nI s) (nI told) 0 g = (f_X10_readBehind g).bind (fun u2 => fb_X10_readCondition_13 fu (nI s) (nI told) u2.1 u2.2) := by
      unfold fs_X10_readCondition_51
      rw [if_pos zero0]
      simp only [gl_eq]
    rw [e51]
    have hB : ¬ (isE R = true ∧ (d = 0 ∨ tx.getD i 0 = 47)) → mcR tx told s i g ((f_X10_readBehind g).bind (fun u2 => fb_X10_readCondition_13 fu (nI s) (nI told) u2.1 u2.2)) (cR tx told d i 6 F R) := by
      intro hns
      cases d with
      | zero =>
        have er : cR tx told 0 i 6 F R = (i, none) := by
          show (i, if 6 = 6 ∧ isE R = true then some F else none) = _
          rw [if_neg (fun e => hns ⟨e.2, Or.inl rfl⟩)]
        rw [er]
        obtain ⟨g1, x1, m1, _, f1⟩ := m_readBehind_e hT hl hm h (by omega) (by omega)
        rw [x1]
        simp only [ob_eq]
        exact mcR_no rfl m1 (by omega) f1
      | succ d =>
        have er : cR tx told (d + 1) i 6 F R = (match cst told 6 F R (tx.getD i 0) with
          | none => (i, none)
          | some z => cR tx told d (i + 1) z.1 z.2.1 z.2.2) := by
          show (if 6 = 6 ∧ isE R = true ∧ tx.getD i 0 = 47 then (i, some F) else _) = _
          rw [if_neg (fun e => hns ⟨e.2.1, Or.inr e.2.2⟩)]
          rfl
        rw [er]
        obtain ⟨p1, p2, p4⟩ := m_readBehind_c (told := told) hT hl hc hm h hN (by omega)
        cases ez : cst told 6 F R (tx.getD i 0) with
        | none =>
          obtain ⟨g1, x1, m1, _, f1⟩ := p4 ez
          rw [x1]
          simp only [ob_eq]
          exact mcR_no rfl m1 (by omega) f1
        | some z =>
          obtain ⟨m', F', R'⟩ := z
          have hN' := cst_inv ez hN
          have h5 : m' = 4 ∨ m' = 6 := by
            have ez := ez
            unfold cst at ez
            rw [if_neg (by decide), if_neg (by decide)] at ez
            split at ez
            · cases ez; exact Or.inl rfl
            · split at ez
              · cases ez; exact Or.inl rfl
              · split at ez
                · cases ez
                · split at ez
                  · cases ez; exact Or.inl rfl
                  · split at ez
                    · cases ez; exact Or.inr rfl
                    · split at ez
                      · cases ez; exact Or.inr rfl
                      · cases ez
          rcases h5 with rfl | rfl
          · obtain ⟨g1, x1, m1, s1, f1⟩ := p1 F' R' ez
            rw [x1]
            simp only [ob_eq]
            exact mcR_tr rfl f1 (Nat.le_succ _) (ih d (by omega) (i + 1) 4 F' R' g1 fu (by omega) (by omega) m1 (s1 rfl) hN' (Or.inl rfl) (txM_Q hT f1))
          · obtain ⟨g1, x1, m1, s1, f1⟩ := p2 F' R' ez
            rw [x1]
            simp only [ob_eq]
            exact mcR_tr rfl f1 (Nat.le_succ _) (ih d (by omega) (i + 1) 6 F' R' g1 fu (by omega) (by omega) m1 (s1 rfl) hN' (Or.inr rfl) (txM_Q hT f1))
    by_cases hE : isE R = true
    · have eR := isE_t hE
      subst eR
      rw [if_neg (show ¬ ((0 : Int32) < g.1 174 12) by rw [h.1]; exact (by decide : ¬ ((0 : Int32) < nI 0))), hT.1, hm.1]
      by_cases hd : d = 0
      · subst hd
        have er : cR tx told 0 i 6 F [] = (i, some F) := by
          show (i, if 6 = 6 ∧ isE [] = true then some F else none) = _
          rw [if_pos ⟨rfl, rfl⟩]
        rw [er, if_pos (nI_le (by omega) (by omega)), c80_yes hm h (by omega)]
        refine ⟨fun e => (by cases e), fun F' e => ?_⟩
        cases e
        exact ⟨g, rfl, hm, frQ.rf, Nat.le_refl _, by show i ≤ _; omega, fun hlt => by have hlt : i < tx.length := hlt; omega⟩
      · rw [if_neg (nI_ge (by omega) (by omega)), show f_X10_isNext (47 : Int32) g = _ from m_isNext hT hl hc hm.1 (by omega) (c := 47) (by decide)]
        simp only [ob_eq]
        by_cases h47 : tx.getD i 0 = 47
        · obtain ⟨d, rfl⟩ : ∃ d', d = d' + 1 := ⟨d - 1, by omega⟩
          have er : cR tx told (d + 1) i 6 F [] = (i, some F) := by
            show (if 6 = 6 ∧ isE [] = true ∧ tx.getD i 0 = 47 then (i, some F) else _) = _
            rw [if_pos ⟨rfl, rfl, h47⟩]
          rw [er, decide_eq_true (show i < tx.length ∧ tx.getD i 0 = 47 from ⟨by omega, h47⟩), b2_t, if_neg one0, c80_yes hm h (by omega)]
          refine ⟨fun e => (by cases e), fun F' e => ?_⟩
          cases e
          exact ⟨g, rfl, hm, frQ.rf, Nat.le_refl _, by show i ≤ _; omega, fun _ => h47⟩
        · rw [decide_eq_false (show ¬ (i < tx.length ∧ tx.getD i 0 = 47) from fun e => h47 e.2), b2_f, if_pos zero0]
          exact hB (fun e => e.2.elim hd h47)
    · have hRp : 0 < R.length := by
        cases R with
        | nil => exact absurd rfl hE
        | cons F1 R1 => exact Nat.succ_pos _
      rw [if_pos (show (0 : Int32) < g.1 174 12 by rw [h.1]; exact nI_lt (a := 0) hRp (by omega))]
      exact hB (fun e => hE e.1)
end MC
