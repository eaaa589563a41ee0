/-! PURE: the reference reads a text. -/
def mapF (x y : Nat) (r : Nat × Option aF) : Nat × Option aP := (r.1, match r.2 with
  | none => none
  | some F => some (x, y, cT F))
def pl1 (tx : List Nat) (D : List aP) (i : Nat) : Nat × Option aP := if i < tx.length ∧ tx.getD i 0 = 47 ∧ D.length < 10 then (if i + 1 < tx.length ∧ dig (tx.getD (i + 1) 0) = true then (if i + 1 + 1 < tx.length ∧ dig (tx.getD (i + 1 + 1) 0) = true then mapF (tx.getD (i + 1) 0 - 48) (tx.getD (i + 1 + 1) 0 - 48) (cR tx D.length (tx.length - (i + 1 + 2)) (i + 1 + 2) 4 (f0 0) []) else (i + 1 + 1, none)) else (i + 1, none)) else (i, none)
def pl2 (tx : List Nat) (d : Nat) (D : List aP) (z : Nat × Option aP) : Nat × Option (List aP) := match z.2 with
  | none => (z.1, none)
  | some w => if z.1 = tx.length ∧ 2 ≤ D.length + 1 then (z.1, some (D ++ [w])) else tR tx d z.1 (D ++ [w])
theorem tR_pl (tx : List Nat) (d i : Nat) (D : List aP) : tR tx (d + 1) i D = pl2 tx d D (pl1 tx D i) := by
  show (if i < tx.length ∧ tx.getD i 0 = 47 ∧ D.length < 10 then plc tx (tR tx d) D (i + 1) else (i, none)) = _
  unfold pl1
  by_cases h1 : i < tx.length ∧ tx.getD i 0 = 47 ∧ D.length < 10
  · rw [if_pos h1, if_pos h1]
    unfold plc
    by_cases h2 : i + 1 < tx.length ∧ dig (tx.getD (i + 1) 0) = true
    · rw [if_pos h2, if_pos h2]
      by_cases h3 : i + 1 + 1 < tx.length ∧ dig (tx.getD (i + 1 + 1) 0) = true
      · rw [if_pos h3, if_pos h3]
        generalize cR tx D.length (tx.length - (i + 1 + 2)) (i + 1 + 2) 4 (f0 0) [] = r
        obtain ⟨j, o⟩ := r
        cases o with
        | none => rfl
        | some F => rfl
      · rw [if_neg h3, if_neg h3]; rfl
    · rw [if_neg h2, if_neg h2]; rfl
  · rw [if_neg h1, if_neg h1]; rfl
def plK (l1 l2 x3 x5 x6 : Int32) (u7 : Int32 × gG) : Option (Unit × gG) := if (u7.2.1 174 4) = (0 : Int32) then (fs_X10_readPlace_66 u7.2) else (if l1 = (0 : Int32) then (fs_X10_readPlace_66 u7.2) else (if inb ((2 : Int32) + ((2 : Int32) * l2)) 394 = true then gLet (gI1 u7.2 176 ((2 : Int32) + ((2 : Int32) * l2)).toNatClampNeg x3) (fun g10 => if inb (((2 : Int32) + ((2 : Int32) * l2)) + (1 : Int32)) 394 = true then gLet (gI1 g10 176 (((2 : Int32) + ((2 : Int32) * l2)) + (1 : Int32)).toNatClampNeg x5) (fun g11 => fb_X10_readPlace_116 gFuel l2 x6 (0 : Int32) g11) else none) else none))
def plC (l1 l2 x3 x5 : Int32) (g : gG) : Option (Unit × gG) := (f_X10_readCondition (0 : Int32) l2 g).bind (fun u7 => plK l1 l2 x3 x5 (g.1 174 3) u7)
def plB (l1 l2 x3 : Int32) (g : gG) : Option (Unit × gG) := (f_X10_digit g).bind (fun u4 => plC l1 l2 x3 u4.1 u4.2)
def plA (l1 l2 : Int32) (g : gG) : Option (Unit × gG) := (f_X10_digit g).bind (fun u2 => plB l1 l2 u2.1 u2.2)
theorem pl28 (l1 l2 s1 : Int32) (g : gG) : fs_X10_readPlace_28 l1 l2 s1 g = (f_X10_accept s1 g).bind (fun u1 => plA l1 l2 u1.2) := by
  unfold fs_X10_readPlace_28 plA plB plC plK
  simp only [gl_eq]
section MT
variable {tx : List Nat} {lays : Bool}
theorem m_66_no {g : gG} {i : Nat} (hm : mc g i false) : ∃ g', fs_X10_readPlace_66 g = some ((), g') ∧ mc g' i false ∧ frX g g' := by
  refine ⟨gI1 g 176 0 (g.1 176 0 + 0), ?_, mc_Q hm (by rw [gI1_1, if_neg (by decide)]) (by rw [gI1_1, if_neg (by decide)]), frX.i⟩
  unfold fs_X10_readPlace_66
  rw [if_pos (show inb 0 394 = true by decide), hm.2, if_pos (show b2 false = 0 from rfl), if_pos (show inb 0 394 = true by decide), clamp0]
  simp only [gl_eq]
theorem plK_no {u : Int32 × gG} {i : Nat} (hm : mc u.2 i false) (l1 l2 x3 x5 x6 : Int32) : ∃ g', plK l1 l2 x3 x5 x6 u = some ((), g') ∧ mc g' i false ∧ frX u.2 g' := by
  obtain ⟨g', e, m, f⟩ := m_66_no hm
  refine ⟨g', ?_, m, f⟩
  unfold plK
  rw [hm.2, if_pos (show b2 false = 0 from rfl), e]
theorem plC_no {g : gG} {i : Nat} (hm : mc g i false) (l1 l2 x3 x5 : Int32) : ∃ g', plC l1 l2 x3 x5 g = some ((), g') ∧ mc g' i false ∧ frX g g' := by
  obtain ⟨g1, e1, m1, f1⟩ := m_readCondition_bad hm 0 l2
  obtain ⟨g2, e2, m2, f2⟩ := plK_no (u := (0, g1)) m1 l1 l2 x3 x5 (g.1 174 3)
  refine ⟨g2, ?_, m2, (frX.q f1).tr f2⟩
  unfold plC
  rw [e1, ob_eq, e2]
theorem plB_no {g : gG} {i : Nat} (hT : txM g tx) (hl : tx.length ≤ 120) (hm : mc g i false) (hi : i ≤ tx.length) (l1 l2 x3 : Int32) : ∃ g', plB l1 l2 x3 g = some ((), g') ∧ mc g' i false ∧ frX g g' := by
  obtain ⟨g2, e2, m2, f2⟩ := plC_no (mc_a0 (g := g) (i := i)) l1 l2 x3 0
  refine ⟨g2, ?_, m2, (frX.q frQ_a).tr f2⟩
  unfold plB
  rw [m_digit_bad hT hl hm hi, ob_eq, e2]
theorem plA_no {g : gG} {i : Nat} (hT : txM g tx) (hl : tx.length ≤ 120) (hm : mc g i false) (hi : i ≤ tx.length) (l1 l2 : Int32) : ∃ g', plA l1 l2 g = some ((), g') ∧ mc g' i false ∧ frX g g' := by
  obtain ⟨g2, e2, m2, f2⟩ := plB_no (txM_Q hT frQ_a) hl (mc_a0 (g := g) (i := i)) hi l1 l2 0
  refine ⟨g2, ?_, m2, (frX.q frQ_a).tr f2⟩
  unfold plA
  rw [m_digit_bad hT hl hm hi, ob_eq, e2]
def plR (tx : List Nat) (lays : Bool) (g : gG) (i : Nat) (D : List aP) (y : Option (Unit × gG)) (z : Nat × Option aP) : Prop := (z.2 = none → ∃ g', y = some ((), g') ∧ mc g' z.1 false ∧ frX g g') ∧ ∀ w, z.2 = some w → ∃ g', y = some ((), g') ∧ mc g' z.1 true ∧ frX g g' ∧ rdM lays g' (D ++ [w]) ∧ i ≤ z.1 ∧ z.1 ≤ tx.length ∧ (z.1 < tx.length → tx.getD z.1 0 = 47)
theorem plR_no {g : gG} {i j : Nat} {D : List aP} {y : Option (Unit × gG)} (h : ∃ g', y = some ((), g') ∧ mc g' j false ∧ frX g g') : plR tx lays g i D y (j, none) := ⟨fun _ => h, fun w hw => by cases hw⟩
theorem plR_tr {g g' : gG} {i j : Nat} {D : List aP} {y y' : Option (Unit × gG)} {z : Nat × Option aP} (e : y = y') (f : frX g g') (hij : i ≤ j) (h : plR tx lays g' j D y' z) : plR tx lays g i D y z := by
  subst e
  refine ⟨fun hz => ?_, fun w hz => ?_⟩
  · obtain ⟨g2, e2, m2, f2⟩ := h.1 hz
    exact ⟨g2, e2, m2, f.tr f2⟩
  · obtain ⟨g2, e2, m2, f2, r2, l1, l2, l3⟩ := h.2 w hz
    exact ⟨g2, e2, m2, f.tr f2, r2, Nat.le_trans hij l1, l2, l3⟩
/-- the row with one place more -/
theorem rdM_app {g g' : gG} {D : List aP} {w : aP} (h : rdM lays g D) (e0 : g'.1 176 0 = nI (D.length + 1)) (e1 : g'.1 176 1 = g.1 176 1) (hy : lays = true → (g'.1 176 (2 + 2 * D.length) = nI w.1 ∧ g'.1 176 (3 + 2 * D.length) = nI w.2.1 ∧ bitsM (g'.1 176) D.length 1024 w.2.2) ∧ ∀ p, p < D.length → g'.1 176 (2 + 2 * p) = g.1 176 (2 + 2 * p) ∧ g'.1 176 (3 + 2 * p) = g.1 176 (3 + 2 * p) ∧ ∀ q, 22 + 32 * p ≤ q → q < 54 + 32 * p → g'.1 176 q = g.1 176 q) : rdM lays g' (D ++ [w]) := by
  obtain ⟨h0, h1, h2⟩ := h
  refine ⟨?_, e1.trans h1, fun hl p z hz => ?_⟩
  · rw [e0, List.length_append]; rfl
  · obtain ⟨y1, y2⟩ := hy hl
    by_cases ej : p < D.length
    · rw [List.getElem?_append_left ej] at hz
      obtain ⟨q1, q2, q3⟩ := h2 hl p z hz
      obtain ⟨r1, r2, r3⟩ := y2 p ej
      refine ⟨r1.trans q1, r2.trans q2, fun s hs => ?_⟩
      rw [r3 _ (by omega) (by omega)]
      exact q3 s hs
    · have hlt := (List.getElem?_eq_some_iff.mp hz).1
      rw [List.length_append] at hlt
      have hlt : p < D.length + 1 := hlt
      have e : p = D.length := by omega
      subst e
      have e8 : w = z := by simpa using hz
      subst e8
      exact y1
theorem plC_yes {g : gG} {i x y : Nat} {D : List aP} (hT : txM g tx) (hl : tx.length ≤ 120) (hc : ∀ c ∈ tx, c < 256) (hm : mc g i true) (hi : i ≤ tx.length) (hD : D.length ≤ 9) (hr : rdM lays g D) : plR tx lays g i D (plC (b2 lays) (nI D.length) (nI x) (nI y) g) (mapF x y (cR tx D.length (tx.length - i) i 4 (f0 0) [])) := by
  obtain ⟨p1, p2⟩ := m_readCondition hT hl hc hm hi hD 0
  have hg : gFuel = 6000 := rfl
  have eC : plC (b2 lays) (nI D.length) (nI x) (nI y) g = (f_X10_readCondition (nI 0) (nI D.length) g).bind (plK (b2 lays) (nI D.length) (nI x) (nI y) (nI i)) := by
    unfold plC
    rw [hm.1]; rfl
  rw [eC]
  have hz : ∃ z, cR tx D.length (tx.length - i) i 4 (f0 0) [] = z := ⟨_, rfl⟩
  obtain ⟨z, hz⟩ := hz
  rw [hz] at p1 p2 ⊢
  cases eo : z.2 with
  | none =>
    obtain ⟨g1, e1, m1, f1⟩ := p1 eo
    have ez : mapF x y z = (z.1, none) := by
      unfold mapF
      rw [eo]
    rw [ez, e1, ob_eq]
    obtain ⟨g2, e2, m2, f2⟩ := plK_no (u := (0, g1)) m1 (b2 lays) (nI D.length) (nI x) (nI y) (nI i)
    exact plR_no ⟨g2, e2, m2, (frX.q f1).tr f2⟩
  | some F =>
    obtain ⟨g1, e1, m1, f1, l1, l2, l3⟩ := p2 F eo
    have ez : mapF x y z = (z.1, some (x, y, cT F)) := by
      unfold mapF
      rw [eo]
    rw [ez, e1, ob_eq]
    have e176 := frQ_176 f1
    refine ⟨fun h => (by cases h), fun w hw => ?_⟩
    cases hw
    unfold plK
    show ∃ g', (if (g1.1 174 4) = (0 : Int32) then _ else _) = some ((), g') ∧ _
    rw [m1.2, if_neg (show ¬ (b2 true = 0) from one0)]
    cases lays with
    | false =>
      rw [if_pos (show b2 false = 0 from rfl)]
      refine ⟨gI1 g1 176 0 (nI (D.length + 1)), ?_, mc_Q m1 (by rw [gI1_1, if_neg (by decide)]) (by rw [gI1_1, if_neg (by decide)]), (frX.q f1).tr frX.i, ?_, l1, l2, l3⟩
      · unfold fs_X10_readPlace_66
        rw [if_pos (show inb 0 394 = true by decide), m1.2, if_neg (show ¬ (b2 true = 0) from one0), if_pos (show inb 0 394 = true by decide), clamp0, e176, hr.1, nI_1]
        simp only [gl_eq]
      · refine rdM_app hr (by rw [r_self, if_pos rfl]) (by rw [r_self, if_neg (by decide), e176]) (fun h => by cases h)
    | true =>
      rw [if_neg (show ¬ (b2 true = 0) from one0)]
      have i1 : (2 : Int32) + ((2 : Int32) * nI D.length) = nI (2 + 2 * D.length) := by
        show nI 2 + nI 2 * nI D.length = _
        rw [pk_mul, nI_add]
      have i2 : nI (2 + 2 * D.length) + (1 : Int32) = nI (3 + 2 * D.length) := by
        rw [nI_1]
        have : 2 + 2 * D.length + 1 = 3 + 2 * D.length := by omega
        rw [this]
      rw [i1, i2, if_pos (inb_nI (by omega) (by decide)), nI_clamp (by omega), gl_eq, if_pos (inb_nI (by omega) (by decide)), nI_clamp (by omega), gl_eq]
      have f2 : frX g1 (gI1 (gI1 g1 176 (2 + 2 * D.length) (nI x)) 176 (3 + 2 * D.length) (nI y)) := frX.i.tr frX.i
      have m2 : mc (gI1 (gI1 g1 176 (2 + 2 * D.length) (nI x)) 176 (3 + 2 * D.length) (nI y)) z.1 true := mc_Q m1 (by rw [gI1_1, if_neg (by decide), gI1_1, if_neg (by decide)]) (by rw [gI1_1, if_neg (by decide), gI1_1, if_neg (by decide)])
      obtain ⟨g3, e3, m3, b3, q3, f3⟩ := m_lay (F := F) hl hc hi hD hz eo 1024 0 (gI1 (gI1 g1 176 (2 + 2 * D.length) (nI x)) 176 (3 + 2 * D.length) (nI y)) gFuel (by omega) (by omega) (txM_X (txM_Q hT f1) f2) m2 (fun s hs => by omega)
      have w2 : ∀ q, (gI1 (gI1 g1 176 (2 + 2 * D.length) (nI x)) 176 (3 + 2 * D.length) (nI y)).1 176 q = if q = 3 + 2 * D.length then nI y else if q = 2 + 2 * D.length then nI x else g.1 176 q := by
        intro q
        rw [r_self, r_self, e176]
      have w3 : ∀ q, q ≠ 0 → (q < 22 + 32 * D.length ∨ 54 + 32 * D.length ≤ q) → (gI1 g3 176 0 (nI (D.length + 1))).1 176 q = if q = 3 + 2 * D.length then nI y else if q = 2 + 2 * D.length then nI x else g.1 176 q := by
        intro q h0 hq
        rw [r_self, if_neg h0, q3 q hq, w2]
      refine ⟨gI1 g3 176 0 (nI (D.length + 1)), ?_, mc_Q m3 (by rw [gI1_1, if_neg (by decide)]) (by rw [gI1_1, if_neg (by decide)]), (((frX.q f1).tr f2).tr f3).tr frX.i, ?_, l1, l2, l3⟩
      · rw [show fb_X10_readPlace_116 gFuel (nI D.length) (nI i) (0 : Int32) _ = _ from e3, w2, if_neg (by omega), if_neg (by omega), hr.1, nI_1]
      · refine rdM_app hr (by rw [r_self, if_pos rfl]) ?_ (fun _ => ⟨⟨?_, ?_, fun s hs => ?_⟩, fun p hp => ⟨?_, ?_, fun q h1 h2 => ?_⟩⟩)
        · rw [w3 1 (by decide) (by omega), if_neg (by omega), if_neg (by omega)]
        · rw [w3 _ (by omega) (by omega), if_neg (by omega), if_pos rfl]
        · rw [w3 _ (by omega) (by omega), if_pos rfl]
        · rw [r_self, if_neg (by omega)]; exact b3 s hs
        · rw [w3 _ (by omega) (by omega), if_neg (by omega), if_neg (by omega)]
        · rw [w3 _ (by omega) (by omega), if_neg (by omega), if_neg (by omega)]
        · rw [w3 _ (by omega) (by omega), if_neg (by omega), if_neg (by omega)]
theorem m_place {g : gG} {i : Nat} {D : List aP} (hT : txM g tx) (hl : tx.length ≤ 120) (hc : ∀ c ∈ tx, c < 256) (hm : mc g i true) (hi : i ≤ tx.length) (hD : D.length ≤ 10) (hr : rdM lays g D) : plR tx lays g i D (f_X10_readPlace (b2 lays) g) (pl1 tx D i) := by
  unfold pl1 f_X10_readPlace
  rw [if_pos (show inb 0 394 = true by decide), clamp0, hr.1, gl_eq, show f_X10_isNext (47 : Int32) g = _ from m_isNext hT hl hc hm.1 (by omega) (c := 47) (by decide), ob_eq]
  have bad : fs_X10_readPlace_27 (b2 lays) (nI D.length) g = (f_X10_accept 0 g).bind (fun u1 => plA (b2 lays) (nI D.length) u1.2) := pl28 _ _ _ _
  by_cases h1 : i < tx.length ∧ tx.getD i 0 = 47 ∧ D.length < 10
  · rw [if_pos h1, decide_eq_true (show i < tx.length ∧ tx.getD i 0 = 47 from ⟨h1.1, h1.2.1⟩), b2_t, if_neg one0, if_neg (show ¬ ((10 : Int32) ≤ nI D.length) from nI_ge (b := 10) h1.2.2 (by decide)), pl28, m_accept1 hm, ob_eq]
    have f1 : frX g (gI1 (gI1 g 174 4 1) 174 3 (nI (i + 1))) := frX.q frQ_a
    have hm1 : mc (gI1 (gI1 g 174 4 1) 174 3 (nI (i + 1))) (i + 1) true := mc_a1
    have hr1 : rdM lays (gI1 (gI1 g 174 4 1) 174 3 (nI (i + 1))) D := rdM_eq hr (frQ_176 frQ_a)
    have hT1 := txM_X hT f1
    refine plR_tr rfl f1 (Nat.le_succ _) ?_
    generalize gI1 (gI1 g 174 4 1) 174 3 (nI (i + 1)) = g1 at *
    show plR tx lays g1 (i + 1) D (plA (b2 lays) (nI D.length) g1) _
    obtain ⟨d1, d2⟩ := m_digit hT1 hl hc hm1 (by omega)
    unfold plA
    by_cases h2 : i + 1 < tx.length ∧ dig (tx.getD (i + 1) 0) = true
    · rw [if_pos h2, d1 h2, ob_eq]
      have f2 : frX g1 (gI1 (gI1 g1 174 4 1) 174 3 (nI (i + 1 + 1))) := frX.q frQ_a
      have hm2 : mc (gI1 (gI1 g1 174 4 1) 174 3 (nI (i + 1 + 1))) (i + 1 + 1) true := mc_a1
      have hr2 : rdM lays (gI1 (gI1 g1 174 4 1) 174 3 (nI (i + 1 + 1))) D := rdM_eq hr1 (frQ_176 frQ_a)
      have hT2 := txM_X hT1 f2
      refine plR_tr rfl f2 (Nat.le_succ _) ?_
      show plR tx lays (gI1 (gI1 g1 174 4 1) 174 3 (nI (i + 1 + 1))) (i + 1 + 1) D (plB (b2 lays) (nI D.length) (nI (tx.getD (i + 1) 0 - 48)) (gI1 (gI1 g1 174 4 1) 174 3 (nI (i + 1 + 1)))) _
      generalize gI1 (gI1 g1 174 4 1) 174 3 (nI (i + 1 + 1)) = g2 at *
      obtain ⟨d3, d4⟩ := m_digit hT2 hl hc hm2 (by omega)
      unfold plB
      by_cases h3 : i + 1 + 1 < tx.length ∧ dig (tx.getD (i + 1 + 1) 0) = true
      · rw [if_pos h3, d3 h3, ob_eq]
        have f3 : frX g2 (gI1 (gI1 g2 174 4 1) 174 3 (nI (i + 1 + 1 + 1))) := frX.q frQ_a
        have hm3 : mc (gI1 (gI1 g2 174 4 1) 174 3 (nI (i + 1 + 1 + 1))) (i + 1 + 2) true := mc_a1
        have hr3 : rdM lays (gI1 (gI1 g2 174 4 1) 174 3 (nI (i + 1 + 1 + 1))) D := rdM_eq hr2 (frQ_176 frQ_a)
        refine plR_tr rfl f3 (Nat.le_succ _) ?_
        exact plC_yes (txM_X hT2 f3) hl hc hm3 (by omega) (by omega) hr3
      · rw [if_neg h3, d4 h3, ob_eq]
        obtain ⟨g4, e4, m4, f4⟩ := plC_no (mc_a0 (g := g2) (i := i + 1 + 1)) (b2 lays) (nI D.length) (nI (tx.getD (i + 1) 0 - 48)) 0
        exact plR_no ⟨g4, e4, m4, (frX.q frQ_a).tr f4⟩
    · rw [if_neg h2, d2 h2, ob_eq]
      obtain ⟨g4, e4, m4, f4⟩ := plB_no (txM_Q hT1 frQ_a) hl (mc_a0 (g := g1) (i := i + 1)) (by omega) (b2 lays) (nI D.length) 0
      exact plR_no ⟨g4, e4, m4, (frX.q frQ_a).tr f4⟩
  · rw [if_neg h1]
    have e1 : ∀ v : Bool, (v = true → i < tx.length ∧ tx.getD i 0 = 47) → (if b2 v = (0 : Int32) then fs_X10_readPlace_27 (b2 lays) (nI D.length) g else (if (10 : Int32) ≤ nI D.length then fs_X10_readPlace_27 (b2 lays) (nI D.length) g else fs_X10_readPlace_28 (b2 lays) (nI D.length) 1 g)) = fs_X10_readPlace_27 (b2 lays) (nI D.length) g := by
      intro v hv
      cases v with
      | false => rw [b2_f, if_pos zero0]
      | true =>
        have := hv rfl
        rw [b2_t, if_neg one0, if_pos (show (10 : Int32) ≤ nI D.length from nI_le (a := 10) (by
          by_cases h9 : D.length < 10
          · exact absurd ⟨this.1, this.2, h9⟩ h1
          · omega) (by omega))]
    rw [e1 _ (fun h => of_decide_eq_true h), bad, m_accept0 hm, ob_eq]
    obtain ⟨g4, e4, m4, f4⟩ := plA_no (txM_Q hT frQ_a) hl (mc_a0 (g := g) (i := i)) hi (b2 lays) (nI D.length)
    exact plR_no ⟨g4, e4, m4, (frX.q frQ_a).tr f4⟩
end MT
