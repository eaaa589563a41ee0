/-! PURE: scripts. -/
theorem m_inG (a l b : Int64) (g : gG) : f_X10_in a l b g = some (b2 (decide (l.toInt ≤ a.toInt ∧ a.toInt ≤ b.toInt)), g) := by
  unfold f_X10_in
  by_cases h1 : a.toInt < l.toInt
  · have e1 : lg_cmp a l < 0 := by rw [lg_cmp_lt, Int64.lt_iff_toInt_lt]; exact h1
    have e2 : decide (l.toInt ≤ a.toInt ∧ a.toInt ≤ b.toInt) = false := by
      rw [decide_eq_false_iff_not]; omega
    rw [if_pos e1, e2, b2_f]
  · have e1 : ¬ (lg_cmp a l < 0) := by rw [lg_cmp_lt, Int64.lt_iff_toInt_lt]; exact h1
    rw [if_neg e1]
    by_cases h3 : b.toInt < a.toInt
    · have e3 : 0 < lg_cmp a b := by rw [lg_cmp_gt, Int64.lt_iff_toInt_lt]; exact h3
      have e2 : decide (l.toInt ≤ a.toInt ∧ a.toInt ≤ b.toInt) = false := by
        rw [decide_eq_false_iff_not]; omega
      rw [if_pos e3, e2, b2_f]
    · have e3 : ¬ (0 < lg_cmp a b) := by rw [lg_cmp_gt, Int64.lt_iff_toInt_lt]; exact h3
      have e2 : decide (l.toInt ≤ a.toInt ∧ a.toInt ≤ b.toInt) = true := by
        rw [decide_eq_true_iff]; omega
      rw [if_neg e3, e2, b2_t]
theorem pow_small {m : Nat} (h : m ≤ 4) : 0 < 10000 ^ m ∧ 10000 ^ m ≤ 10000000000000000 := by
  have : m = 0 ∨ m = 1 ∨ m = 2 ∨ m = 3 ∨ m = 4 := by omega
  rcases this with rfl | rfl | rfl | rfl | rfl <;> decide
theorem pow_ten (m : Nat) : 10 ^ (4 * m) = 10000 ^ m := by rw [Nat.pow_mul]
theorem c_past_l {m : Nat} (h4 : m ≤ 4) (g : gG) (d : Nat) : ∀ i fu, i + d = m → d < fu → fb_X3_pastEnd_4 fu (nI m) (lN (10000 ^ i)) (nI i) g = some (lN (10000 ^ m), g) := by
  induction d with
  | zero =>
    intro i fu hi hf
    obtain ⟨fu, rfl⟩ : ∃ f', fu = f' + 1 := ⟨fu - 1, by omega⟩
    have e : i = m := by omega
    subst e
    unfold fb_X3_pastEnd_4 fs_X3_pastEnd_4
    rw [if_pos (nI_le (Nat.le_refl _) (by omega))]
  | succ d ih =>
    intro i fu hi hf
    obtain ⟨fu, rfl⟩ : ∃ f', fu = f' + 1 := ⟨fu - 1, by omega⟩
    unfold fb_X3_pastEnd_4 fs_X3_pastEnd_4
    rw [if_neg (nI_ge (by omega) (by omega)), if_neg (show ¬ ((4 : Int32) ≤ nI i) from nI_ge (b := 4) (by omega) (by decide))]
    simp only [gl_eq, nI_1]
    rw [show lN (10000 ^ i) * (10000 : Int64) = lN (10000 ^ (i + 1)) by rw [Nat.pow_succ]; exact lN_mul _ _]
    exact ih (i + 1) fu (by omega) (by omega)
theorem c_past {m : Nat} (h4 : m ≤ 4) (g : gG) : f_X3_pastEnd (nI m) g = some (lN (10000 ^ m), g) := by
  unfold f_X3_pastEnd
  exact c_past_l h4 g m 0 gFuel (by omega) (by unfold gFuel; omega)
theorem m_ten_l {m : Nat} (h4 : m ≤ 16) (g : gG) (d : Nat) : ∀ i fu, i + d = m → d < fu → fb_X10_tenTo_4 fu (nI m) (lN (10 ^ i)) (nI i) g = some (lN (10 ^ m), g) := by
  induction d with
  | zero =>
    intro i fu hi hf
    obtain ⟨fu, rfl⟩ : ∃ f', fu = f' + 1 := ⟨fu - 1, by omega⟩
    have e : i = m := by omega
    subst e
    unfold fb_X10_tenTo_4 fs_X10_tenTo_4
    rw [if_pos (nI_le (Nat.le_refl _) (by omega))]
  | succ d ih =>
    intro i fu hi hf
    obtain ⟨fu, rfl⟩ : ∃ f', fu = f' + 1 := ⟨fu - 1, by omega⟩
    unfold fb_X10_tenTo_4 fs_X10_tenTo_4
    rw [if_neg (nI_ge (by omega) (by omega))]
    simp only [gl_eq, nI_1]
    rw [show lN (10 ^ i) * (10 : Int64) = lN (10 ^ (i + 1)) by rw [Nat.pow_succ]; exact lN_mul _ _]
    exact ih (i + 1) fu (by omega) (by omega)
theorem m_ten {m : Nat} (h4 : m ≤ 4) (g : gG) : f_X10_tenTo (nI (4 * m)) g = some (lN (10000 ^ m), g) := by
  unfold f_X10_tenTo
  rw [← pow_ten]
  exact m_ten_l (m := 4 * m) (by omega) g (4 * m) 0 gFuel (by omega) (by unfold gFuel; omega)
theorem c_group_l {i : Nat} (hi : i < 4) (g : gG) (d : Nat) : ∀ r fu, d < 4 → r < 2 ^ 62 → d < fu → fb_X3_groupAt_8 fu (nI i) (lN r) (nI (i + d)) g = some (nI (r / 10000 ^ d % 10000), g) := by
  induction d with
  | zero =>
    intro r fu hd hr hf
    obtain ⟨fu, rfl⟩ : ∃ f', fu = f' + 1 := ⟨fu - 1, by omega⟩
    unfold fb_X3_groupAt_8 fs_X3_groupAt_8
    rw [if_pos (nI_le (by omega) (by omega)), show lN r - lN r / (10000 : Int64) * (10000 : Int64) = lN (r % 10000) from pk_lRem (b := 10000) (by omega) (by decide) (by decide), lN_i, Nat.pow_zero, Nat.div_one]
  | succ d ih =>
    intro r fu hd hr hf
    obtain ⟨fu, rfl⟩ : ∃ f', fu = f' + 1 := ⟨fu - 1, by omega⟩
    have hdiv : r / 10000 ≤ r := Nat.div_le_self _ _
    unfold fb_X3_groupAt_8 fs_X3_groupAt_8
    rw [if_neg (nI_ge (by omega) (by omega)), show lN r / (10000 : Int64) = lN (r / 10000) from pk_lDiv (b := 10000) (by omega) (by decide) (by decide)]
    simp only [gl_eq]
    rw [show nI (i + (d + 1)) + (-1 : Int32) = nI (i + d) from pk_m1 (i + d), ih (r / 10000) fu (by omega) (by omega) (by omega), Nat.div_div_eq_div_mul, Nat.pow_succ, Nat.mul_comm 10000]
theorem c_group {i m v : Nat} (hi : i < m) (h4 : m ≤ 4) (hv : v < 2 ^ 62) (g : gG) : f_X3_groupAt (nI i) (nI m) (lN v) g = some (nI (v / 10000 ^ (m - 1 - i) % 10000), g) := by
  unfold f_X3_groupAt
  simp only [gl_eq]
  have h := c_group_l (i := i) (by omega) g (m - 1 - i) v gFuel (by omega) hv (by unfold gFuel; omega)
  rw [show i + (m - 1 - i) = m - 1 by omega] at h
  rw [show nI m - (1 : Int32) = nI (m - 1) from pk_sub (a := m) (b := 1) (by omega)]
  exact h
theorem lN_ne0 {a : Nat} (h0 : 0 < a) (h : a < 2 ^ 62) : ¬ lN a = 0 := by
  intro e
  have h1 := congrArg Int64.toInt e
  rw [pf_lI (by omega)] at h1
  have : (0 : Int64).toInt = 0 := by decide
  omega
section SCR
variable {n : Nat} {hm : Nat → Nat}
theorem scr_loop (h2 : 2 ≤ n) (hn : n ≤ 10) {m v : Nat} (h4 : m ≤ 4) (hv : v < 2 ^ 62) (d : Nat) : ∀ i (S : aS), i + d = m → okS n S → ∃ res, (∀ fu g, d < fu → cH g n hm → cS g 165 S → ∃ g', fb_X9_runScript_61 fu (nI m) (lN v) (nI i) g = some (.inl res, g') ∧ frm 157 174 g g') ∧ ∀ fu g, d < fu → mS (g.1 184) n hm S → ∃ g', fb_X10_runScript_62 fu (nI m) (lN v) (nI i) g = some (res, g') ∧ (∀ j, j ≠ 184 → j ≠ 188 → g'.1 j = g.1 j) ∧ g'.2 = g.2 := by
  induction d with
  | zero =>
    intro i S hi ok
    have e : i = m := by omega
    subst e
    refine ⟨-9, fun fu g hf hH hS => ⟨g, ?_, frm.rf⟩, fun fu g hf hS => ⟨g, ?_, fun j _ _ => rfl, rfl⟩⟩
    · obtain ⟨fu, rfl⟩ : ∃ f', fu = f' + 1 := ⟨fu - 1, by omega⟩
      unfold fb_X9_runScript_61 fs_X9_runScript_61
      rw [if_pos (nI_le (Nat.le_refl _) (by omega))]
    · obtain ⟨fu, rfl⟩ : ∃ f', fu = f' + 1 := ⟨fu - 1, by omega⟩
      unfold fb_X10_runScript_62 fs_X10_runScript_62
      rw [if_pos (nI_le (Nat.le_refl _) (by omega))]
  | succ d ih =>
    intro i S hi ok
    have hg : v / 10000 ^ (m - 1 - i) % 10000 < 10000 := Nat.mod_lt _ (by decide)
    obtain ⟨B, S', ok', xC, xM⟩ := cmd_all (hm := hm) ok h2 hn hg
    obtain ⟨res', yC, yM⟩ := ih (i + 1) S' (by omega) ok'
    have hp := pow_small (m := m - 1 - i) (by omega)
    have eM : ∀ (F : Nat) g, fb_X10_runScript_62 (F + 1) (nI m) (lN v) (nI i) g = (f_X10_does (nI (v / 10000 ^ (m - 1 - i) % 10000)) g).bind (fun u4 => if u4.1 = (0 : Int32) then (some (nI i, u4.2)) else (fb_X10_runScript_62 F (nI m) (lN v) (nI (i + 1)) u4.2)) := by
      intro F g
      show fs_X10_runScript_62 (fb_X10_runScript_62 F) (nI m) (lN v) (nI i) g = _
      unfold fs_X10_runScript_62
      rw [if_neg (nI_ge (by omega) (by omega)), show (4 : Int32) * ((nI m - (1 : Int32)) - nI i) = nI (4 * (m - 1 - i)) by
        rw [show nI m - (1 : Int32) = nI (m - 1) from pk_sub (a := m) (b := 1) (by omega), pk_sub (by omega)]
        exact pk_mul 4 _, m_ten (by omega)]
      simp only [ob_eq, gl_eq, nI_1]
      have hdl : v / 10000 ^ (m - 1 - i) ≤ v := Nat.div_le_self _ _
      rw [if_neg (lN_ne0 hp.1 (by omega)), pk_lDiv (by omega) hp.1 (by omega), show lN (v / 10000 ^ (m - 1 - i)) - lN (v / 10000 ^ (m - 1 - i)) / (10000 : Int64) * (10000 : Int64) = lN (v / 10000 ^ (m - 1 - i) % 10000) from pk_lRem (b := 10000) (by omega) (by decide) (by decide), lN_i]
    have eC : ∀ (F : Nat) g, fb_X9_runScript_61 (F + 1) (nI m) (lN v) (nI i) g = (f_X3_succeeds (nI (v / 10000 ^ (m - 1 - i) % 10000)) g).bind (fun u3 => if u3.1 = (0 : Int32) then (some (.inl (nI i), u3.2)) else (fb_X9_runScript_61 F (nI m) (lN v) (nI (i + 1)) u3.2)) := by
      intro F g
      show fs_X9_runScript_61 (fb_X9_runScript_61 F) (nI m) (lN v) (nI i) g = _
      unfold fs_X9_runScript_61
      rw [if_neg (nI_ge (by omega) (by omega)), c_group (by omega) h4 hv]
      simp only [ob_eq, gl_eq, nI_1]
    cases B with
    | false =>
      refine ⟨nI i, fun fu g hf hH hS => ?_, fun fu g hf hS => ?_⟩
      · obtain ⟨fu, rfl⟩ : ∃ f', fu = f' + 1 := ⟨fu - 1, by omega⟩
        obtain ⟨g1, e, a, f⟩ := xC g hH hS
        refine ⟨g1, ?_, f⟩
        rw [eC, e]
        simp only [ob_eq]
        rw [b2_f, if_pos zero0]
      · obtain ⟨fu, rfl⟩ : ∃ f', fu = f' + 1 := ⟨fu - 1, by omega⟩
        obtain ⟨g1, e, a, f, f2⟩ := xM g hS
        refine ⟨g1, ?_, f, f2⟩
        rw [eM, e]
        simp only [ob_eq]
        rw [b2_f, if_pos zero0]
    | true =>
      refine ⟨res', fun fu g hf hH hS => ?_, fun fu g hf hS => ?_⟩
      · obtain ⟨fu, rfl⟩ : ∃ f', fu = f' + 1 := ⟨fu - 1, by omega⟩
        obtain ⟨g1, e, a, f⟩ := xC g hH hS
        obtain ⟨g2, e2, f2⟩ := yC fu g1 (by omega) (cH_fr hH f (by omega)) a
        refine ⟨g2, ?_, f.tr f2⟩
        rw [eC, e]
        simp only [ob_eq]
        rw [b2_t, if_neg one0]
        exact e2
      · obtain ⟨fu, rfl⟩ : ∃ f', fu = f' + 1 := ⟨fu - 1, by omega⟩
        obtain ⟨g1, e, a, f, f3⟩ := xM g hS
        obtain ⟨g2, e2, f2, f4⟩ := yM fu g1 (by omega) a
        refine ⟨g2, ?_, fun j h7 h8 => (f2 j h7 h8).trans (f j h7 h8), f4.trans f3⟩
        rw [eM, e]
        simp only [ob_eq]
        rw [b2_t, if_neg one0]
        exact e2
end SCR
section OS
variable {tx : List Nat} {n : Nat} {hm : Nat → Nat} {S : aS} {L : List aS} {K : Nat → Option aS}
theorem range14 {a : Int32} {k : Nat} (hk : k < 2 ^ 31) (h : decide ((1 : Int64).toInt ≤ a.toInt64.toInt ∧ a.toInt64.toInt ≤ (lN k).toInt) = true) : ∃ m, 1 ≤ m ∧ m ≤ k ∧ a = nI m := by
  have h1 := of_decide_eq_true h
  rw [Int32.toInt_toInt64, lN_toInt hk, show (1 : Int64).toInt = 1 by decide] at h1
  refine ⟨a.toInt.toNat, by omega, by omega, ?_⟩
  apply Int32.toInt_inj.mp
  rw [nI_toInt (by omega)]
  omega
theorem range14_no {a : Int32} {k : Nat} (hk : k < 2 ^ 31) (h : decide ((1 : Int64).toInt ≤ a.toInt64.toInt ∧ a.toInt64.toInt ≤ (lN k).toInt) = false) : a < 1 ∨ (¬ a < 1 ∧ ¬ a ≤ nI k) := by
  have h1 := of_decide_eq_false h
  rw [Int32.toInt_toInt64, lN_toInt hk, show (1 : Int64).toInt = 1 by decide] at h1
  rw [Int32.lt_iff_toInt_lt, Int32.le_iff_toInt_le, nI_toInt hk, show (1 : Int32).toInt = 1 by decide]
  omega
theorem op_runScript (ok : okA tx n hm S L K) (a : Int32) (s : Int64) : opOK tx n hm S L K (f_X9_runScript a s) (f_X10_runScript a s) G1 := by
  obtain ⟨o1, o2, h2, hn, o5, o6, o7, o8⟩ := id ok
  have hin : ∀ g, f_X10_in a.toInt64 (1 : Int64) (4 : Int64) g = some (b2 (decide ((1 : Int64).toInt ≤ a.toInt64.toInt ∧ a.toInt64.toInt ≤ (lN 4).toInt)), g) := fun g => m_inG _ _ _ g
  have bad : ∀ g, InvM tx n hm S L K g → fs_X10_runScript_46 a s g = some (0, gI1 g 174 0 1) := by
    intro g hM
    unfold fs_X10_runScript_46 fs_X10_runScript_47
    rw [ref1]
    simp only [ob_eq]
    rw [if_neg one0]
  cases hT : decide ((1 : Int64).toInt ≤ a.toInt64.toInt ∧ a.toInt64.toInt ≤ (lN 4).toInt) with
  | false =>
    refine opOK_same ok (.inr 1) (fun g hC => stC_rf hC ?_) (fun g hM => resM_r 0 1 one0 (fun _ => rfl) (stM_rf hM ?_))
    · unfold f_X9_runScript fs_X9_runScript_10
      rcases range14_no (by decide) hT with h | ⟨h, h3⟩
      · rw [if_pos h]
      · rw [if_neg h, if_neg (show ¬ a ≤ (4 : Int32) from h3)]
    · unfold f_X10_runScript
      rw [hin, hT]
      simp only [ob_eq, gl_eq]
      rw [b2_f, if_pos zero0]
      exact bad g hM
  | true =>
    obtain ⟨m, hm1, hm4, rfl⟩ := range14 (by decide) hT
    have hp := pow_small hm4
    have e62 : (10000000000000000 : Nat) < 2 ^ 62 := by decide
    have eP : (lN (10000 ^ m)).toInt = ((10000 ^ m : Nat) : Int) := pf_lI (by omega)
    have eP1 : (lN (10000 ^ m) - (1 : Int64)).toInt = ((10000 ^ m : Nat) : Int) - 1 := by
      rw [show lN (10000 ^ m) - (1 : Int64) = lN (10000 ^ m - 1) from lN_sub (b := 1) hp.1, pf_lI (by omega)]
      omega
    have e0 : (0 : Int64).toInt = 0 := by decide
    have xM : ∀ g, f_X10_runScript (nI m) s g = if b2 (decide (0 ≤ s.toInt ∧ s.toInt < ((10000 ^ m : Nat) : Int))) = (0 : Int32) then fs_X10_runScript_46 (nI m) s g else fs_X10_runScript_47 (nI m) s (0 : Int32) g := by
      intro g
      unfold f_X10_runScript
      rw [hin, hT]
      simp only [ob_eq, gl_eq]
      rw [b2_t, if_neg one0, if_neg one0]
      unfold fs_X10_runScript_31
      rw [show (4 : Int32) * nI m = nI (4 * m) from pk_mul 4 m, m_ten hm4]
      simp only [ob_eq]
      rw [m_inG]
      simp only [ob_eq]
      rw [eP1, e0]
      have ed : decide (0 ≤ s.toInt ∧ s.toInt ≤ ((10000 ^ m : Nat) : Int) - 1) = decide (0 ≤ s.toInt ∧ s.toInt < ((10000 ^ m : Nat) : Int)) := by
        apply decide_eq_decide.mpr
        omega
      rw [ed]
    have xC : ∀ g, f_X9_runScript (nI m) s g = if b2 (decide (0 ≤ s.toInt ∧ s.toInt < ((10000 ^ m : Nat) : Int))) = (0 : Int32) then some (.inr 1, g) else ((f_X3_begin 16 g).bind (fun u6 => fb_X9_runScript_61 gFuel (nI m) s (0 : Int32) u6.2)) := by
      intro g
      unfold f_X9_runScript fs_X9_runScript_36
      rw [if_neg (show ¬ (nI m < (1 : Int32)) from nI_nlt (b := 1) hm1 (by omega)), if_pos (show nI m ≤ (4 : Int32) from nI_le (b := 4) hm4 (by decide))]
      by_cases hneg : s.toInt < 0
      · rw [if_pos (by rw [lg_cmp_lt, Int64.lt_iff_toInt_lt, e0]; exact hneg), decide_eq_false (by omega), b2_f, if_pos zero0]
      · rw [if_neg (by rw [lg_cmp_lt, Int64.lt_iff_toInt_lt, e0]; exact hneg), c_past hm4]
        simp only [ob_eq]
        by_cases hlt : s.toInt < ((10000 ^ m : Nat) : Int)
        · rw [if_pos (by rw [lg_cmp_lt, Int64.lt_iff_toInt_lt, eP]; exact hlt), decide_eq_true (by omega), b2_t, if_neg one0]
        · rw [if_neg (by rw [lg_cmp_lt, Int64.lt_iff_toInt_lt, eP]; exact hlt), decide_eq_false (by omega), b2_f, if_pos zero0]
    cases hR : decide (0 ≤ s.toInt ∧ s.toInt < ((10000 ^ m : Nat) : Int)) with
    | false =>
      refine opOK_same ok (.inr 1) (fun g hC => stC_rf hC ?_) (fun g hM => resM_r 0 1 one0 (fun _ => rfl) (stM_rf hM ?_))
      · rw [xC, hR, b2_f, if_pos zero0]
      · rw [xM, hR, b2_f, if_pos zero0]
        exact bad g hM
    | true =>
      have hR' := of_decide_eq_true hR
      obtain ⟨v, hv, rfl⟩ : ∃ v, v < 10000 ^ m ∧ s = lN v := by
        refine ⟨s.toInt.toNat, by omega, ?_⟩
        apply Int64.toInt_inj.mp
        rw [pf_lI (by omega)]
        omega
      obtain ⟨res, yC, yM⟩ := scr_loop (hm := hm) h2 hn (m := m) (v := v) hm4 (by omega) m 0 S (by omega) o6
      refine opOK_same ok (.inl res) (fun g hC => ?_) (fun g hM => resM_l ?_)
      · obtain ⟨g1, e1, a1, f1⟩ := c_copyS (k := 165) (r := 16) hC.2.2.1 o6 hn (by omega)
        obtain ⟨g2, e2, f2⟩ := yC gFuel g1 (by unfold gFuel; omega) (cH_fr hC.2.1 f1 (by omega)) a1
        refine stC_fr (g' := g2) hC ?_ ((f1.wd (by decide) (by decide)).tr f2) (by decide) (by decide)
        rw [xC, hR, b2_t, if_neg one0]
        unfold f_X3_begin
        rw [e1]
        simp only [ob_eq]
        exact e2
      · have hM' := InvM_r 0 hM
        obtain ⟨g1, e1, a1, b1, d1⟩ := m_begin hn o6 hM'.2.1
        obtain ⟨g2, e2, b2', d2⟩ := yM gFuel g1 (by unfold gFuel; omega) a1
        have fr : ∀ j, j ≠ 184 → j ≠ 188 → g2.1 j = (gI1 g 174 0 0).1 j := fun j h7 h8 => (b2' j h7 h8).trans (b1 j h7)
        refine ⟨g2, ?_, InvM_eq hM' (by rw [fr 174 (by decide) (by decide)]) (by rw [fr 174 (by decide) (by decide)]) (fun j hj => fr j (by omega) (by omega)), by rw [fr 174 (by decide) (by decide), r_self, if_pos rfl], fun j hj => by rw [fr j (by omega) (by omega), gI1_1, if_neg (by omega)], d2.trans d1⟩
        rw [xM, hR, b2_t, if_neg one0]
        unfold fs_X10_runScript_47
        rw [ref0]
        simp only [ob_eq]
        rw [if_pos trivial, e1]
        simp only [ob_eq]
        exact e2
end OS
