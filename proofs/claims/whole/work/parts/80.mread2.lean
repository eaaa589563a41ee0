/-! PURE: the reference reads the whole text. -/
section MW
variable {tx : List Nat} {lays : Bool}
def txR (lays : Bool) (g : gG) (y : Option (Int32 × gG)) (z : Nat × Option (List aP)) : Prop := (z.2 = none → ∃ g', y = some (nI z.1, g') ∧ frX g g') ∧ ∀ D', z.2 = some D' → ∃ g', y = some (-9, g') ∧ frX g g' ∧ rdM lays g' D'
theorem m78_no {g : gG} {i : Nat} (hm : mc g i false) : fs_X10_readText_78 g = some (nI i, g) := by
  unfold fs_X10_readText_78
  rw [hm.2, if_pos (show b2 false = 0 from rfl), hm.1]
theorem m42_no {g : gG} {i fu : Nat} (hm : mc g i false) (hf : 0 < fu) (l : Int32) : fb_X10_readText_42 fu l g = some (nI i, g) := by
  obtain ⟨fu, rfl⟩ : ∃ f', fu = f' + 1 := ⟨fu - 1, by omega⟩
  show fs_X10_readText_42 (fb_X10_readText_42 fu) l g = _
  unfold fs_X10_readText_42
  rw [hm.2, if_pos (show b2 false = 0 from rfl)]
  exact m78_no hm
theorem m_text42 (hl : tx.length ≤ 120) (hc : ∀ c ∈ tx, c < 256) : ∀ d i D g fu, d + D.length = 11 → d + 1 < fu → D.length ≤ 10 → txM g tx → mc g i true → i ≤ tx.length → ¬ (i = tx.length ∧ 2 ≤ D.length) → rdM lays g D → txR lays g (fb_X10_readText_42 fu (b2 lays) g) (tR tx d i D) := by
  intro d
  induction d with
  | zero =>
    intro i D g fu hd hf hD hT hm hi hne hr
    omega
  | succ d ih =>
    intro i D g fu hd hf hD hT hm hi hne hr
    obtain ⟨fu, rfl⟩ : ∃ f', fu = f' + 1 := ⟨fu - 1, by omega⟩
    have e70 : fb_X10_readText_42 (fu + 1) (b2 lays) g = (f_X10_readPlace (b2 lays) g).bind (fun u1 => fb_X10_readText_42 fu (b2 lays) u1.2) := by
      show fs_X10_readText_42 (fb_X10_readText_42 fu) (b2 lays) g = fs_X10_readText_70 (fb_X10_readText_42 fu) (b2 lays) g
      unfold fs_X10_readText_42
      rw [hm.2, if_neg (show ¬ (b2 true = 0) from one0), if_pos (show inb 0 394 = true by decide), clamp0, hr.1]
      by_cases h2 : D.length < 2
      · rw [if_pos (show nI D.length < (2 : Int32) from nI_lt (b := 2) h2 (by decide))]
      · rw [if_neg (show ¬ (nI D.length < (2 : Int32)) from nI_nlt (b := 2) (by omega) (by omega)), hT.1, hm.1, if_neg (nI_ge (by omega) (by omega))]
    rw [tR_pl]
    obtain ⟨p1, p2⟩ := m_place hT hl hc hm hi hD hr
    cases eo : (pl1 tx D i).2 with
    | none =>
      obtain ⟨g1, e1, m1, f1⟩ := p1 eo
      have ez : pl2 tx d D (pl1 tx D i) = ((pl1 tx D i).1, none) := by
        unfold pl2
        rw [eo]
      rw [ez, e70, e1, ob_eq, m42_no m1 (by omega)]
      exact ⟨fun _ => ⟨g1, rfl, f1⟩, fun D' h => by cases h⟩
    | some w =>
      obtain ⟨g1, e1, m1, f1, r1, l1, l2, l3⟩ := p2 w eo
      have ez : pl2 tx d D (pl1 tx D i) = if (pl1 tx D i).1 = tx.length ∧ 2 ≤ D.length + 1 then ((pl1 tx D i).1, some (D ++ [w])) else tR tx d (pl1 tx D i).1 (D ++ [w]) := by
        unfold pl2
        rw [eo]
      have hlen : (D ++ [w]).length = D.length + 1 := by rw [List.length_append]; rfl
      have hD9 : D.length < 10 := by
        by_cases h9 : D.length < 10
        · exact h9
        · have : pl1 tx D i = (i, none) := by
            unfold pl1
            rw [if_neg (fun e => h9 e.2.2)]
          rw [this] at eo
          cases eo
      rw [ez, e70, e1, ob_eq]
      by_cases hend : (pl1 tx D i).1 = tx.length ∧ 2 ≤ D.length + 1
      · rw [if_pos hend]
        refine ⟨fun h => (by cases h), fun D' h => ?_⟩
        cases h
        refine ⟨g1, ?_, f1, r1⟩
        obtain ⟨fu, rfl⟩ : ∃ f', fu = f' + 1 := ⟨fu - 1, by omega⟩
        show fs_X10_readText_42 (fb_X10_readText_42 fu) (b2 lays) g1 = _
        unfold fs_X10_readText_42 fs_X10_readText_78
        rw [m1.2, if_neg (show ¬ (b2 true = 0) from one0), if_pos (show inb 0 394 = true by decide), clamp0, r1.1, hlen, if_neg (show ¬ (nI (D.length + 1) < (2 : Int32)) from nI_nlt (b := 2) hend.2 (by omega)), (txM_X hT f1).1, m1.1, if_pos (nI_le (by omega) (by omega)), if_neg (show ¬ (b2 true = 0) from one0)]
      · rw [if_neg hend]
        obtain ⟨y1, y2⟩ := ih (pl1 tx D i).1 (D ++ [w]) g1 fu (by rw [hlen]; omega) (by omega) (by rw [hlen]; omega) (txM_X hT f1) m1 l2 (by rw [hlen]; exact hend) r1
        refine ⟨fun h => ?_, fun D' h => ?_⟩
        · obtain ⟨g2, e2, f2⟩ := y1 h
          exact ⟨g2, e2, f1.tr f2⟩
        · obtain ⟨g2, e2, f2, r2⟩ := y2 D' h
          exact ⟨g2, e2, f1.tr f2, r2⟩
theorem m_clear12 (l : Int32) : ∀ d k g fu, k + d = 394 → d < fu → (∀ q, q < k → g.1 176 q = 0) → ∃ g', fb_X10_readText_12 fu l (nI k) g = (f_X10_isNext (72 : Int32) g').bind (fun u2 => (f_X10_accept u2.1 u2.2).bind (fun u3 => fb_X10_readText_42 gFuel l u3.2)) ∧ (∀ q, q < 394 → g'.1 176 q = 0) ∧ (∀ j, j ≠ 176 → g'.1 j = g.1 j) ∧ g'.2 = g.2 := by
  intro d
  induction d with
  | zero =>
    intro k g fu hk hf h0
    obtain ⟨fu, rfl⟩ : ∃ f', fu = f' + 1 := ⟨fu - 1, by omega⟩
    have e : k = 394 := by omega
    subst e
    refine ⟨g, ?_, h0, fun _ _ => rfl, rfl⟩
    show fs_X10_readText_12 (fb_X10_readText_12 fu) l (nI 394) g = _
    unfold fs_X10_readText_12
    rw [if_pos (show (394 : Int32) ≤ nI 394 by decide)]
  | succ d ih =>
    intro k g fu hk hf h0
    obtain ⟨fu, rfl⟩ : ∃ f', fu = f' + 1 := ⟨fu - 1, by omega⟩
    obtain ⟨g', e, q0, q1, q2⟩ := ih (k + 1) (gI1 g 176 k 0) fu (by omega) (by omega) (fun q hq => by
      rw [r_self]
      by_cases e : q = k
      · rw [if_pos e]
      · rw [if_neg e]; exact h0 q (by omega))
    refine ⟨g', ?_, q0, fun j hj => by rw [q1 j hj, gI1_1, if_neg hj], q2⟩
    rw [← e]
    show fs_X10_readText_12 (fb_X10_readText_12 fu) l (nI k) g = _
    unfold fs_X10_readText_12
    rw [if_neg (show ¬ ((394 : Int32) ≤ nI k) from nI_ge (b := 394) (by omega) (by decide)), if_pos (inb_nI (by omega) (by decide)), nI_clamp (by omega)]
    simp only [gl_eq]
    rw [nI_1]
/-- the reference's reading of the whole text -/
theorem m_readText {g : gG} (hl : tx.length ≤ 120) (hc : ∀ c ∈ tx, c < 256) (hT : txM g tx) : txR lays g (f_X10_readText (b2 lays) g) (pT tx) := by
  have hg : gFuel = 6000 := rfl
  obtain ⟨g1, e1, q0, q1, q2⟩ := m_clear12 (b2 lays) 394 0 (gI1 (gI1 g 174 3 0) 174 4 1) gFuel (by omega) (by omega) (fun q hq => by omega)
  have f0' : frX g (gI1 (gI1 g 174 3 0) 174 4 1) := frX.q ((frQ.s (by decide)).tr (frQ.s (by decide)))
  have f1 : frX g g1 := f0'.tr ⟨fun j _ b _ => q1 j b, fun q _ _ _ => by rw [q1 174 (by decide)], q2⟩
  have hT1 := txM_X hT f1
  have hm1 : mc g1 0 true := ⟨by rw [q1 174 (by decide), r_self, if_neg (by decide), r_self, if_pos rfl]; rfl, by rw [q1 174 (by decide), r_self, if_pos rfl]; rfl⟩
  have hr1 : rdM lays g1 [] := ⟨q0 0 (by decide), q0 1 (by decide), fun _ p z hz => by simp at hz⟩
  have eR : f_X10_readText (b2 lays) g = fb_X10_readText_12 gFuel (b2 lays) (nI 0) (gI1 (gI1 g 174 3 0) 174 4 1) := by
    unfold f_X10_readText
    rw [gl_eq, if_pos (show gZb 1 = true by decide), gl_eq]
    rfl
  rw [eR, e1, show f_X10_isNext (72 : Int32) g1 = _ from m_isNext hT1 hl hc hm1.1 (by omega) (c := 72) (by decide), ob_eq]
  unfold pT
  by_cases h72 : 0 < tx.length ∧ tx.getD 0 0 = 72
  · rw [if_pos h72, decide_eq_true h72, b2_t, m_accept1 hm1, ob_eq]
    have f2 : frX g1 (gI1 (gI1 g1 174 4 1) 174 3 (nI (0 + 1))) := frX.q frQ_a
    obtain ⟨y1, y2⟩ := m_text42 (lays := lays) hl hc 11 1 [] (gI1 (gI1 g1 174 4 1) 174 3 (nI (0 + 1))) gFuel (by decide) (by omega) (by decide) (txM_X hT1 f2) (mc_a1 (i := 0)) (by omega) (fun e => absurd e.2 (by decide)) (rdM_eq hr1 (frQ_176 frQ_a))
    refine ⟨fun h => ?_, fun D' h => ?_⟩
    · obtain ⟨g2, e2, f3⟩ := y1 h
      exact ⟨g2, e2, (f1.tr f2).tr f3⟩
    · obtain ⟨g2, e2, f3, r2⟩ := y2 D' h
      exact ⟨g2, e2, (f1.tr f2).tr f3, r2⟩
  · rw [if_neg h72, decide_eq_false h72, b2_f, m_accept0 hm1, ob_eq]
    have m2 := mc_a0 (g := g1) (i := 0)
    refine ⟨fun _ => ⟨_, m42_no m2 (by decide) (b2 lays), f1.tr (frX.q frQ_a)⟩, fun D' h => by cases h⟩
end MW
