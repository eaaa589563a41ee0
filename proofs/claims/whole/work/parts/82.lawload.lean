/-! PURE: the law at errorPosition and at load. -/
section LL
variable {tx : List Nat} {n : Nat} {hm : Nat → Nat} {S : aS} {L : List aS} {K : Nat → Option aS}
theorem InvC_R {g g' : gG} (h : InvC tx n hm S L K g) (f : frR g g') : InvC tx n hm S L K g' := InvC_eq h (fun j hj => f.1 j (by omega))
theorem InvM_R {g g' : gG} (h : InvM tx n hm S L K g) (f : frR g g') : InvM tx n hm S L K g' := InvM_eq h (by rw [f.1 174 (by decide)]) (by rw [f.1 174 (by decide)]) (fun j hj => f.1 j (by omega))
theorem InvM_X {g g' : gG} (h : InvM tx n hm S L K g) (f : frX g g') : InvM tx n hm S L K g' := InvM_eq h (f.2.1 2 (by decide) (by decide) (by decide)) (f.2.1 16 (by decide) (by decide) (by decide)) (fun j hj => f.1 j (by omega) (by omega) (by omega))
theorem InvC_X {g g' : gG} (h : InvC tx n hm S L K g) (f : frX g g') : InvC tx n hm S L K g' := InvC_eq h (fun j hj => f.1 j (by omega) (by omega) (by omega))
theorem rdC_X {g g' : gG} (h : rdC g) (f : frX g g') : rdC g' := rdC_eq h (f.1 6 (by decide) (by decide) (by decide)) (f.1 7 (by decide) (by decide) (by decide))
theorem law_err (ok : okA tx n hm S L K) {g : gG} (hC : InvC tx n hm S L K g) (hM : InvM tx n hm S L K g) (hr : rdC g) (l4 : Int32) (F : Int32 → gG → Option Unit) : ∃ g2, Inv g2 ∧ (f_X9_errorPosition g).bind (fun u1 => (f_X10_errorPosition u1.2).bind (fun u2 => if u1.1 = u2.1 then (gLet (l4 + (4 : Int32)) (fun x4 => F x4 u2.2)) else (none))) = F (l4 + (4 : Int32)) g2 := by
  obtain ⟨hl, hc, ok'⟩ := id ok
  have main : ∃ v g' g2, f_X2_errorIn g = some (v, g') ∧ frR g g' ∧ rdC g' ∧ f_X10_readText (b2 false) (gI1 g' 174 0 0) = some (v, g2) ∧ frX (gI1 g' 174 0 0) g2 := by
    obtain ⟨p1, p2⟩ := c_errorIn hl hc hC.1 hr
    have hT : ∀ g' : gG, frR g g' → txM (gI1 g' 174 0 0) tx := fun g' f => (InvM_r 0 (InvM_R hM f)).1
    cases eo : (pT tx).2 with
    | none =>
      obtain ⟨g', e1, f1, r1⟩ := p1 eo
      obtain ⟨g2, e2, f2⟩ := (m_readText (lays := false) hl hc (hT g' f1)).1 eo
      exact ⟨_, g', g2, e1, f1, r1, e2, f2⟩
    | some D' =>
      obtain ⟨g', e1, f1, r1, _⟩ := p2 D' eo
      obtain ⟨g2, e2, f2, _⟩ := (m_readText (lays := false) hl hc (hT g' f1)).2 D' eo
      exact ⟨_, g', g2, e1, f1, r1, e2, f2⟩
  obtain ⟨v, g', g2, e1, f1, r1, e2, f2⟩ := main
  have hM2 := InvM_X (InvM_r 0 (InvM_R hM f1)) f2
  have e0 : ∀ j, j < 174 → (gI1 g' 174 0 0).1 j = g'.1 j := fun j hj => by rw [gI1_1, if_neg (by omega)]
  have hC2 := InvC_X (InvC_eq (InvC_R hC f1) (fun j hj => e0 j (by omega))) f2
  refine ⟨g2, ⟨tx, n, hm, S, L, K, ok, hC2, hM2, rdC_X (rdC_eq r1 (e0 6 (by decide)) (e0 7 (by decide))) f2⟩, ?_⟩
  unfold f_X9_errorPosition f_X10_errorPosition
  rw [e1]
  simp only [ob_eq, gl_eq]
  rw [show f_X10_readText (0 : Int32) (gI1 g' 174 0 0) = _ from e2]
  simp only [ob_eq]
  rw [if_pos trivial]
end LL
section LO
variable {tx : List Nat} {n : Nat} {hm : Nat → Nat} {S : aS} {L : List aS} {K : Nat → Option aS}
/-- the class's hunt is new -/
theorem c_newHunt {g : gG} {D : List aP} {X Y : Nat → Nat} (hC : InvC tx n hm S L K g) (hn : D.length ≤ 10) (h10 : g.1 3 10 = nI D.length) (hr : rdD g D) (hXY : ∀ p, p < 10 → g.1 6 p = nI (X p) ∧ g.1 7 p = nI (Y p)) : ∃ g', ((f_X0_take g).bind (fun u3 => (f_X5_begin 16 u3.2).bind (fun u4 => (f_X1_forget u4.2).bind (fun u5 => fb_X9_load_57 gFuel (0 : Int32) u5.2)))) = some (.inl (nI D.length), g') ∧ InvC tx D.length (hmD D) (X, Y, 0, []) [] (fun _ => none) g' ∧ ∀ j, (174 ≤ j ∨ j = 6 ∨ j = 7) → g'.1 j = g.1 j := by
  have hg : gFuel = 6000 := rfl
  obtain ⟨g1, e1, c1, q1⟩ := c_take hn h10 hr
  obtain ⟨g2, e2, c2, q2⟩ := c_begin_l (X := X) (Y := Y) 10 0 g1 gFuel (by decide) (by omega) (fun p hp => by rw [q1 6 (by decide) (by decide), q1 7 (by decide) (by decide)]; exact hXY p hp) (fun p hp => by omega)
  have e4 : fb_X9_load_57 gFuel (0 : Int32) (gI1 g2 24 2 0) = some (.inl (nI D.length), gI1 (gI1 (gI1 g2 24 2 0) 155 0 0) 155 1 0) := by
    rw [show gFuel = 5997 + 1 + 1 + 1 from rfl]
    show fs_X9_load_57 (fs_X9_load_57 (fs_X9_load_57 (fb_X9_load_57 5997))) (0 : Int32) (gI1 g2 24 2 0) = _
    unfold fs_X9_load_57 f_X0_count
    rw [if_neg (show ¬ ((2 : Int32) ≤ 0) by decide), if_pos (show inb 0 2 = true by decide), show vp_nar .boolean (0 : Int32) = 0 from nar_b2 false]
    simp only [gl_eq]
    rw [show (0 : Int32) + 1 = 1 by decide, if_neg (show ¬ ((2 : Int32) ≤ 1) by decide), if_pos (show inb 1 2 = true by decide), show (1 : Int32) + 1 = 2 by decide, if_pos (show (2 : Int32) ≤ 2 by decide)]
    simp only [ob_eq]
    rw [show (0 : Int32).toNatClampNeg = 0 from rfl, show (1 : Int32).toNatClampNeg = 1 from rfl, gI1_1, if_neg (by decide), gI1_1, if_neg (by decide), gI1_1, if_neg (by decide), q2 14 (by decide) (by decide) (by decide), c1.1]
  have w : ∀ j, j ≠ 24 → j ≠ 155 → (gI1 (gI1 (gI1 g2 24 2 0) 155 0 0) 155 1 0).1 j = g2.1 j := fun j a b => by rw [gI1_1, if_neg b, gI1_1, if_neg b, gI1_1, if_neg a]
  have w2 : ∀ j, (j < 14 ∨ 18 < j) → j ≠ 24 → j ≠ 155 → (gI1 (gI1 (gI1 g2 24 2 0) 155 0 0) 155 1 0).1 j = g.1 j := fun j a b c => by rw [w j b c, q2 j (by omega) (by omega) (by omega), q1 j (by omega) (by omega)]
  refine ⟨gI1 (gI1 (gI1 g2 24 2 0) 155 0 0) 155 1 0, ?_, ⟨⟨?_, ?_⟩, ⟨?_, ?_⟩, ?_, ⟨Nat.zero_le _, ?_, ?_⟩, ?_⟩, fun j hj => w2 j (by omega) (by omega) (by omega)⟩
  · rw [e1, ob_eq]
    unfold f_X5_begin f_X1_forget
    rw [show fb_X5_begin_2 16 gFuel (0 : Int32) g1 = _ from e2, ob_eq, gl_eq, ob_eq, e4]
  · rw [w2 1 (by decide) (by decide) (by decide)]; exact hC.1.1
  · intro j c hc
    rw [w2 2 (by decide) (by decide) (by decide)]; exact hC.1.2 j c hc
  · rw [w 14 (by decide) (by decide), q2 14 (by decide) (by decide) (by decide)]; exact c1.1
  · intro s hs
    rw [w 15 (by decide) (by decide), q2 15 (by decide) (by decide) (by decide)]; exact c1.2 s hs
  · exact cS_eq c2 (fun j hj => w _ (by omega) (by omega))
  · rw [gI1_1, if_neg (by decide), gI1_1, if_neg (by decide), r_self, if_pos rfl]; rfl
  · obtain ⟨_, _, f, hf, hf1, _⟩ := hC.2.2.2.1
    refine ⟨f, hf, ?_, fun i S' hS => by simp at hS⟩
    rw [gI1_1, if_neg (by decide), gI1_1, if_neg (by decide), r_self, if_neg (by decide), q2 24 (by decide) (by decide) (by decide), q1 24 (by decide) (by decide)]
    exact hf1
  · intro i hi
    refine ⟨fun _ => ?_, fun S' hS => by cases hS⟩
    rw [r_self, r_self]
    rcases (show i = 0 ∨ i = 1 by omega) with rfl | rfl
    · rw [if_neg (by decide), if_pos rfl]
    · rw [if_pos rfl]
/-- the reference's hunt is new -/
theorem m_newHunt {g : gG} {D : List aP} {X Y : Nat → Nat} (hM : InvM tx n hm S L K g) (hn : D.length ≤ 10) (hr : rdM true g D) (hXY : ∀ p z, D[p]? = some z → X p = z.1 ∧ Y p = z.2.1) : ∃ g', fs_X10_load_16 0 g = some (nI D.length, g') ∧ InvM tx D.length (hmD D) (X, Y, 0, []) [] (fun _ => none) g' ∧ g'.1 174 0 = 0 ∧ (∀ j, j < 174 → g'.1 j = g.1 j) ∧ g'.2 = g.2 := by
  have e1 := m_copy (gI1 g 174 0 0) (r0 := 176) (n0 := 394) (r2 := 183) (n2 := 394) (a := 0) (b := 0) (m := 394) (fun e => by omega) (by decide) (by decide) (by decide) (by decide) (by decide)
  have w183 : ∀ q, q < 394 → (cpN (gI1 g 174 0 0) 176 183 0 0 394).1 183 q = g.1 176 q := by
    intro q hq
    rw [cpN_1, if_pos rfl]
    unfold va_cpy
    rw [if_pos (by omega), gI1_1, if_neg (by decide), Nat.zero_add, Nat.sub_zero]
  have wo : ∀ j, j ≠ 183 → (cpN (gI1 g 174 0 0) 176 183 0 0 394).1 j = (gI1 g 174 0 0).1 j := fun j hj => by rw [cpN_1, if_neg hj]
  have w : ∀ j, j ≠ 174 → j ≠ 187 → (gI1 (gI1 (gI1 (cpN (gI1 g 174 0 0) 176 183 0 0 394) 174 16 0) 187 0 0) 187 1 0).1 j = (cpN (gI1 g 174 0 0) 176 183 0 0 394).1 j := fun j a b => by rw [gI1_1, if_neg b, gI1_1, if_neg b, gI1_1, if_neg a]
  have w2 : ∀ j, j ≠ 174 → j ≠ 187 → j ≠ 183 → (gI1 (gI1 (gI1 (cpN (gI1 g 174 0 0) 176 183 0 0 394) 174 16 0) 187 0 0) 187 1 0).1 j = g.1 j := fun j a b c => by rw [w j a b, wo j c, gI1_1, if_neg a]
  have w174 : ∀ q, (gI1 (gI1 (gI1 (cpN (gI1 g 174 0 0) 176 183 0 0 394) 174 16 0) 187 0 0) 187 1 0).1 174 q = if q = 16 then 0 else if q = 0 then 0 else g.1 174 q := fun q => by rw [gI1_1, if_neg (by decide), gI1_1, if_neg (by decide), r_self, wo 174 (by decide), r_self]
  have hq : ∀ q, q < 394 → (gI1 (gI1 (gI1 (cpN (gI1 g 174 0 0) 176 183 0 0 394) 174 16 0) 187 0 0) 187 1 0).1 183 q = g.1 176 q := fun q hq => by rw [w 183 (by decide) (by decide), w183 q hq]
  refine ⟨gI1 (gI1 (gI1 (cpN (gI1 g 174 0 0) 176 183 0 0 394) 174 16 0) 187 0 0) 187 1 0, ?_, ⟨⟨?_, ?_⟩, ⟨⟨?_, ?_⟩, ?_, ?_, ?_⟩, ⟨Nat.zero_le _, ?_, ?_⟩, ?_⟩, ?_, fun j hj => w2 j (by omega) (by omega) (by omega), rfl⟩
  · unfold fs_X10_load_16
    rw [ref0, ob_eq, if_pos zero0, show f_X10_copy 176 394 183 394 (0 : Int32) (0 : Int32) (394 : Int32) (gI1 g 174 0 0) = _ from e1, ob_eq, gl_eq, if_pos (show inb 0 2 = true by decide), show vp_nar .boolean (0 : Int32) = 0 from nar_b2 false, gl_eq, if_pos (show inb 1 2 = true by decide), gl_eq, if_pos (show inb 0 394 = true by decide), show (0 : Int32).toNatClampNeg = 0 from rfl, show (1 : Int32).toNatClampNeg = 1 from rfl, hq 0 (by decide), hr.1]
  · rw [w174, if_neg (by decide), if_neg (by decide)]; exact hM.1.1
  · intro j c hc
    rw [w2 175 (by decide) (by decide) (by decide)]; exact hM.1.2 j c hc
  · rw [hq 0 (by decide)]; exact hr.1
  · intro p s hp hs
    have hz : ∃ z, D[p]? = some z := ⟨_, List.getElem?_eq_getElem hp⟩
    obtain ⟨z, hz⟩ := hz
    rw [hq _ (by omega), (hr.2.2 rfl p z hz).2.2 s hs]
    show _ = ((msk (tD D (s % 512)) D.length) ||| 0).testBit p
    rw [Nat.or_zero, msk_bit, tD_at hz, decide_eq_true hp, Bool.true_and]
  · rw [hq 1 (by decide)]; exact hr.2.1
  · intro p hp
    have hz : ∃ z, D[p]? = some z := ⟨_, List.getElem?_eq_getElem hp⟩
    obtain ⟨z, hz⟩ := hz
    obtain ⟨y1, y2, _⟩ := hr.2.2 rfl p z hz
    obtain ⟨x1, x2⟩ := hXY p z hz
    rw [hq _ (by omega), hq _ (by omega)]
    show _ = nI (X p) ∧ _ = nI (Y p)
    rw [x1, x2]
    exact ⟨y1, y2⟩
  · intro t tm ht
    have ht : ([] : List aT)[t]? = some tm := ht
    simp at ht
  · rw [w174, if_pos rfl]; rfl
  · intro i S' hS
    simp at hS
  · intro i hi
    refine ⟨fun _ => ?_, fun S' hS => by cases hS⟩
    rw [r_self, r_self]
    rcases (show i = 0 ∨ i = 1 by omega) with rfl | rfl
    · rw [if_neg (by decide), if_pos rfl]
    · rw [if_pos rfl]
  · rw [w174, if_neg (by decide), if_pos rfl]
theorem law_load (ok : okA tx n hm S L K) {g : gG} (hC : InvC tx n hm S L K g) (hM : InvM tx n hm S L K g) (hr : rdC g) (l4 : Int32) (F : Int32 → gG → Option Unit) : ∃ g2, Inv g2 ∧ (f_L_load g).bind (fun u1 => gLet u1.1 (fun x2 => (f_X10_load u1.2).bind (fun u3 => gLet u3.1 (fun x4 => (f_X10_thrown u3.2).bind (fun u5 => if u5.1 = x2 then (if x2 = (0 : Int32) then (if inb (0 : Int32) 1 = true then if (lg_cmp (u5.2.2 193 (0 : Int32).toNatClampNeg) x4.toInt64) = (0 : Int32) then (gLet (l4 + (4 : Int32)) (fun x10 => F x10 u5.2)) else (none) else none) else (gLet (l4 + (4 : Int32)) (fun x8 => F x8 u5.2))) else (none)))))) = F (l4 + (4 : Int32)) g2 := by
  obtain ⟨hl, hc, ok'⟩ := id ok
  obtain ⟨p1, p2⟩ := c_errorIn hl hc hC.1 hr
  have eL : f_L_load g = gXh (f_X9_load g) outF G2 := rfl
  have hle := pT_le tx
  have h9 : ¬ (nI (pT tx).1 = (-9 : Int32)) := by
    intro e
    have e2 := congrArg Int32.toInt e
    rw [nI_toInt (by omega), show (-9 : Int32).toInt = -9 by decide] at e2
    omega
  rw [eL]
  unfold f_X9_load f_X10_load
  cases eo : (pT tx).2 with
  | none =>
    obtain ⟨g', e1, f1, r1⟩ := p1 eo
    have hM1 := InvM_R hM f1
    obtain ⟨g2, e2, f2⟩ := (m_readText (lays := true) hl hc hM1.1).1 eo
    have hM2 := InvM_X hM1 f2
    have hC2 := InvC_X (InvC_R hC f1) f2
    have e0 : ∀ j, j < 174 → (gI1 g2 174 0 1).1 j = g2.1 j := fun j hj => by rw [gI1_1, if_neg (by omega)]
    refine ⟨gI1 g2 174 0 1, ⟨tx, n, hm, S, L, K, ok, InvC_eq hC2 (fun j hj => e0 j (by omega)), InvM_r 1 hM2, rdC_eq (rdC_X r1 f2) (e0 6 (by decide)) (e0 7 (by decide))⟩, ?_⟩
    rw [e1, ob_eq, if_neg h9, gXh_r, show G2 2 g' = some (1, g') from rfl]
    simp only [ob_eq, gl_eq]
    rw [show f_X10_readText (1 : Int32) g' = _ from e2]
    simp only [ob_eq]
    rw [if_neg h9]
    unfold fs_X10_load_16
    rw [ref1, ob_eq, if_neg one0]
    simp only [ob_eq]
    unfold f_X10_thrown
    simp only [ob_eq]
    rw [r_self, if_pos rfl, if_pos (show (1 : Int32) = 1 from rfl), if_neg one0]
  | some D =>
    obtain ⟨g', e1, f1, r1, d1, n1, l2, l10, w9⟩ := p2 D eo
    have hM1 := InvM_R hM f1
    have hC1 := InvC_R hC f1
    have hXY : ∀ p, p < 10 → (g'.1 6 p = nI (g'.1 6 p).toNatClampNeg ∧ (g'.1 6 p).toNatClampNeg ≤ 9) ∧ g'.1 7 p = nI (g'.1 7 p).toNatClampNeg ∧ (g'.1 7 p).toNatClampNeg ≤ 9 := by
      intro p hp
      obtain ⟨⟨v, hv, ev⟩, ⟨u, hu, eu⟩⟩ := r1 p hp
      rw [ev, eu, nI_clamp (by omega), nI_clamp (by omega)]
      exact ⟨⟨rfl, hv⟩, rfl, hu⟩
    obtain ⟨g2, e2, c2, q2⟩ := c_newHunt (X := fun p => (g'.1 6 p).toNatClampNeg) (Y := fun p => (g'.1 7 p).toNatClampNeg) hC1 l10 n1 d1 (fun p hp => ⟨(hXY p hp).1.1, (hXY p hp).2.1⟩)
    have hM3 : InvM tx n hm S L K (gL1 g2 193 0 (nI D.length).toInt64) := InvM_eq hM1 (by rw [gL1_1, q2 174 (by omega)]) (by rw [gL1_1, q2 174 (by omega)]) (fun j hj => by rw [gL1_1, q2 j (by omega)])
    obtain ⟨g3, e3, f3, r3⟩ := (m_readText (lays := true) hl hc hM3.1).2 D eo
    have hM4 := InvM_X hM3 f3
    obtain ⟨g4, e4, m4, t4, q4, q5⟩ := m_newHunt (X := fun p => (g'.1 6 p).toNatClampNeg) (Y := fun p => (g'.1 7 p).toNatClampNeg) hM4 l10 r3 (fun p z hz => by
      obtain ⟨y1, y2, _⟩ := d1 p z hz
      obtain ⟨b1, b2'⟩ := w9 z (List.mem_of_getElem? hz)
      refine ⟨?_, ?_⟩
      · show (g'.1 6 p).toNatClampNeg = _
        rw [y1, nI_clamp (by omega)]
      · show (g'.1 7 p).toNatClampNeg = _
        rw [y2, nI_clamp (by omega)])
    have z2 : ∀ j, j < 174 → g4.1 j = g2.1 j := fun j hj => by rw [q4 j hj, f3.1 j (by omega) (by omega) (by omega), gL1_1]
    have okN : okA tx D.length (hmD D) ((fun p => (g'.1 6 p).toNatClampNeg), (fun p => (g'.1 7 p).toNatClampNeg), 0, []) [] (fun _ => none) := ⟨hl, hc, l2, l10, fun s _ => hmD_lt D s, ⟨Nat.two_pow_pos _, Nat.zero_le _, fun p hp => ⟨(hXY p hp).1.2, (hXY p hp).2.2⟩, fun tm h => by cases h⟩, (fun S h => by cases h), fun i S' h => by cases h⟩
    refine ⟨g4, ⟨tx, D.length, hmD D, _, [], fun _ => none, okN, InvC_eq c2 (fun j hj => z2 j (by omega)), m4, rdC_eq r1 (by rw [z2 6 (by decide), q2 6 (by omega)]) (by rw [z2 7 (by decide), q2 7 (by omega)])⟩, ?_⟩
    rw [e1, ob_eq, if_pos rfl, e2, gXh_l, outF_eq]
    simp only [ob_eq, gl_eq]
    rw [show f_X10_readText (1 : Int32) (gL1 g2 193 0 (nI D.length).toInt64) = _ from e3]
    simp only [ob_eq]
    rw [if_pos trivial, e4]
    unfold f_X10_thrown
    simp only [ob_eq]
    rw [t4, if_pos rfl, if_pos trivial, if_pos (show inb 0 1 = true by decide), clamp0, q5, f3.2.2, gL1_2, lg_refl, if_pos rfl]
end LO
