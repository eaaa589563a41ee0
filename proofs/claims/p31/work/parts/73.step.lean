/-! PURE: one sign of a condition. -/
def tgl (F : aF) : aF := (F.1, F.2.1, F.2.2.1, F.2.2.2.1, !F.2.2.2.2)
def cst (told mode : Nat) (F : aF) (R : List aF) (c : Nat) : Option (Nat × aF × List aF) :=
  if mode = 4 then
    (if c = 33 then some (4, tgl F, R) else if c = 40 then some (4, f0 0, F :: R) else if 49 ≤ c ∧ c ≤ 52 then some (5, f0 (c - 48), F :: R) else if c = 42 then some (6, addP F (fun _ => true), R) else if 97 ≤ c ∧ c < 97 + told then some (6, addP F (fun s => s.testBit (c - 97)), R) else none)
  else if mode = 5 then (if c = 91 then some (4, F, R) else none)
  else (if c = 46 then some (4, F, R) else if c = 43 then some (4, endG F, R) else (match R with
    | [] => none
    | F1 :: R1 => if c = 44 ∧ 0 < F.1 then some (4, endC F, F1 :: R1) else if c = 93 ∧ 0 < F.1 then some (6, addP F1 (atl F.1 (F.2.1 ++ [cT F])), R1) else if c = 41 ∧ F.1 = 0 then some (6, addP F1 (cT F), R1) else none))
def okFs : aF → List aF → Prop
  | F, [] => F.1 = 0 ∧ F.2.1 = []
  | F, F1 :: R => ((F.1 = 0 → F.2.1 = []) ∧ F.1 ≤ 4) ∧ okFs F1 R
theorem okFs_c {F F' : aF} {R : List aF} (h : okFs F R) (h1 : F'.1 = F.1) (h2 : F'.2.1 = F.2.1) : okFs F' R := by
  cases R with
  | nil =>
    show F'.1 = 0 ∧ F'.2.1 = []
    rw [h1, h2]; exact h
  | cons F1 R =>
    obtain ⟨h3, h4⟩ := h
    refine ⟨?_, h4⟩
    rw [h1, h2]; exact h3
theorem okFs_k {F : aF} {R : List aF} (h : okFs F R) : (F.1 = 0 → F.2.1 = []) ∧ F.1 ≤ 4 := by
  cases R with
  | nil => exact ⟨fun _ => h.2, by rw [h.1]; decide⟩
  | cons F1 R => exact h.1
def clS (g : gG) (told mode : Nat) (F : aF) (R : List aF) (i : Nat) : Prop := g.1 3 11 = nI mode ∧ g.1 3 10 = nI (told + 1) ∧ fsC g F R ∧ skC g (stk (F :: R)) ∧ R.length ≤ i ∧ (stk (F :: R)).length ≤ i ∧ okFs F R ∧ (mode = 6 → F.2.2.2.1.isSome = true)
theorem stk_len (F : aF) (R : List aF) : (stk (F :: R)).length = (stk R).length + (F.2.1.length + (F.2.2.1.toList.length + F.2.2.2.1.toList.length)) := by
  show (stk R ++ (F.2.1 ++ (F.2.2.1.toList ++ F.2.2.2.1.toList))).length = _
  simp only [List.length_append]
theorem some_len {o : Option Tr} (h : o.isSome = true) : o.toList.length = 1 := by
  obtain ⟨u, hu⟩ := Option.isSome_iff_exists.mp h
  rw [hu]; rfl
theorem opt_len (o : Option Tr) : o.toList.length ≤ 1 := by
  cases o with
  | none => exact Nat.zero_le _
  | some u => exact Nat.le_refl _
theorem stk_add_len (F : aF) (R : List aF) (t : Tr) : (stk (addP F t :: R)).length ≤ (stk (F :: R)).length + 1 := by
  rw [stk_len, stk_len]
  show (stk R).length + (F.2.1.length + (F.2.2.1.toList.length + 1)) ≤ _
  omega
theorem stk_endG_len {F : aF} (R : List aF) (h : F.2.2.2.1.isSome = true) : (stk (endG F :: R)).length ≤ (stk (F :: R)).length := by
  rw [stk_len, stk_len, some_len h]
  show (stk R).length + (F.2.1.length + (1 + 0)) ≤ _
  omega
theorem stk_endC_len {F : aF} (R : List aF) (h : F.2.2.2.1.isSome = true) : (stk (endC F :: R)).length ≤ (stk (F :: R)).length := by
  rw [stk_len, stk_len, some_len h]
  show (stk R).length + ((F.2.1 ++ [cT F]).length + (0 + 0)) ≤ _
  rw [app_len]
  omega
section ST
variable {g : gG} {told mode i c : Nat} {F : aF} {R : List aF}
theorem c_nests (h : fsC g F R) (hR : R.length < 120) {l : List Tr} (hs : skC g l) (k m : Nat) : ∃ g', f_X2_nests (nI k) (nI m) g = some (1, g') ∧ fsC g' (f0 k) (F :: R) ∧ skC g' l ∧ g'.1 3 11 = nI m ∧ frP g g' := by
  obtain ⟨h1, h2, h3⟩ := h
  have e9 : (gI1 g 3 9 (nI (R.length + 1))).1 3 9 = nI (R.length + 1) := by rw [r_self, if_pos rfl]
  obtain ⟨g1, e1, a1, b1, c1, d1, f1, k1⟩ := c_beginC (g := gI1 g 3 9 (nI (R.length + 1))) k (m := R.length + 1) (by omega) e9
  have q : ∀ j, 9 ≤ j → j ≤ 13 → ∀ i, i < R.length + 1 → (gI1 g1 3 11 (nI m)).1 j i = g.1 j i := fun j a b i hi => by
    rw [gI1_1, if_neg (by omega), k1 j a b i (by omega), gI1_1, if_neg (by omega)]
  refine ⟨gI1 g1 3 11 (nI m), ?_, ⟨?_, ?_, ⟨?_, ?_⟩⟩, ?_, by rw [r_self, if_pos rfl], ((frP.e (by decide)).tr f1).tr (frP.e (by decide))⟩
  · unfold f_X2_nests
    rw [h1, if_pos (show nI R.length < (120 : Int32) from nI_lt (b := 120) hR (by decide)), nI_1]
    simp only [gl_eq]
    rw [e1]
    simp only [ob_eq]
  · rw [r_self, if_neg (by decide), b1]; exact e9
  · obtain ⟨q1, q2, q3, q4, q5⟩ := a1
    exact ⟨by rw [gI1_1, if_neg (by decide)]; exact q1, by rw [gI1_1, if_neg (by decide)]; exact q2, by rw [gI1_1, if_neg (by decide)]; exact q3, by rw [gI1_1, if_neg (by decide)]; exact q4, by rw [gI1_1, if_neg (by decide)]; exact q5⟩
  · obtain ⟨q1, q2, q3, q4, q5⟩ := h2
    exact ⟨by rw [q 9 (by decide) (by decide) _ (by omega)]; exact q1, by rw [q 10 (by decide) (by decide) _ (by omega)]; exact q2, by rw [q 11 (by decide) (by decide) _ (by omega)]; exact q3, by rw [q 12 (by decide) (by decide) _ (by omega)]; exact q4, by rw [q 13 (by decide) (by decide) _ (by omega)]; exact q5⟩
  · exact frsC_eq R (fun j a b i hi => q j a b i (by omega)) h3
  · refine skC_i hs ?_ ?_
    · rw [gI1_1, if_neg (by decide), c1, gI1_1, if_neg (by decide)]
    · show g1.2 5 = _
      rw [d1]; rfl
theorem stk_f0 (k : Nat) (R : List aF) : stk (f0 k :: R) = stk R := by
  show stk R ++ ([] ++ ([] ++ [])) = stk R
  simp
theorem c_part120 (h : fsC g F R) (hR : R.length ≤ 120) {t : Tr} (hs : skC g (stk (F :: R) ++ [t])) (hl : (stk (F :: R) ++ [t]).length ≤ 120) : ∃ g', fs_X2_takesPart_120 g = some (1, g') ∧ fsC g' (addP F t) R ∧ skC g' (stk (addP F t :: R)) ∧ g'.1 3 11 = 6 ∧ frP g g' := by
  obtain ⟨g1, e1, a1⟩ := c_endPart h hR hs hl
  refine ⟨g1, ?_, a1⟩
  unfold fs_X2_takesPart_120
  rw [e1]
  simp only [ob_eq]
theorem c_takesPart (h : clS g told 4 F R i) (ht : told ≤ 9) (hi : i ≤ 119) (hc : c < 256) : (∀ m' F' R', cst told 4 F R c = some (m', F', R') → ∃ g', f_X2_takesPart (nI c) g = some (1, g') ∧ clS g' told m' F' R' (i + 1) ∧ frP g g') ∧ (cst told 4 F R c = none → f_X2_takesPart (nI c) g = some (0, g)) := by
  obtain ⟨h1, h2, h3, h4, h5, h6, h7, h8⟩ := h
  have hd := h3.1
  have ec : cst told 4 F R c = (if c = 33 then some (4, tgl F, R) else if c = 40 then some (4, f0 0, F :: R) else if 49 ≤ c ∧ c ≤ 52 then some (5, f0 (c - 48), F :: R) else if c = 42 then some (6, addP F (fun _ => true), R) else if 97 ≤ c ∧ c < 97 + told then some (6, addP F (fun s => s.testBit (c - 97)), R) else none) := rfl
  rw [ec]
  have eqn : ∀ k : Nat, k < 256 → (nI c = nI k ↔ c = k) := fun k hk => nI_eq (by omega) (by omega)
  by_cases c33 : c = 33
  · rw [if_pos c33]
    refine ⟨fun m' F' R' e => ?_, fun e => by cases e⟩
    cases e
    obtain ⟨q1, ⟨q2, q3, q4, q5, q6⟩, q7⟩ := id h3
    have mk : ∀ v : Int32, v = b2 (!F.2.2.2.2) → clS (gI1 g 11 R.length v) told 4 (tgl F) R (i + 1) ∧ frP g (gI1 g 11 R.length v) := by
      intro v hv
      refine ⟨⟨by rw [gI1_1, if_neg (by decide)]; exact h1, by rw [gI1_1, if_neg (by decide)]; exact h2, ⟨by rw [gI1_1, if_neg (by decide)]; exact q1, ⟨by rw [gI1_1, if_neg (by decide)]; exact q2, by rw [gI1_1, if_neg (by decide)]; exact q3, by rw [r_self, if_pos rfl]; exact hv, by rw [gI1_1, if_neg (by decide)]; exact q5, by rw [gI1_1, if_neg (by decide)]; exact q6⟩, frsC_eq R (fun j a b z hz => gI1_o (by omega)) q7⟩, skC_i h4 (by rw [gI1_1, if_neg (by decide)]) rfl, by omega, Nat.le_succ_of_le h6, okFs_c h7 rfl rfl, fun e => by cases e⟩, frP.f (by decide)⟩
    unfold f_X2_takesPart
    rw [if_pos (show nI c = (33 : Int32) from (eqn 33 (by decide)).mpr c33), hd, if_pos (inb_nI (by omega) (by decide)), nI_clamp (by omega), q4, show vp_nar .boolean (1 : Int32) = 1 from nar_b2 true, show vp_nar .boolean (0 : Int32) = 0 from nar_b2 false]
    simp only [gl_eq]
    cases en : F.2.2.2.2 with
    | false =>
      obtain ⟨z1, z2⟩ := mk 1 (by rw [en]; rfl)
      exact ⟨_, by rw [if_pos (show b2 false = 0 from rfl), if_pos (inb_nI (by omega) (by decide))], z1, z2⟩
    | true =>
      obtain ⟨z1, z2⟩ := mk 0 (by rw [en]; rfl)
      exact ⟨_, by rw [if_neg (show ¬ (b2 true = 0) by decide), if_pos (inb_nI (by omega) (by decide))], z1, z2⟩
  · rw [if_neg c33]
    unfold f_X2_takesPart
    rw [if_neg (show ¬ (nI c = (33 : Int32)) from fun e => c33 ((eqn 33 (by decide)).mp e))]
    by_cases c40 : c = 40
    · rw [if_pos c40]
      refine ⟨fun m' F' R' e => ?_, fun e => by cases e⟩
      cases e
      obtain ⟨g1, e1, a1, b1, c1, d1⟩ := c_nests h3 (by omega) h4 0 4
      rw [if_pos (show nI c = (40 : Int32) from (eqn 40 (by decide)).mpr c40), show f_X2_nests (0 : Int32) (4 : Int32) g = _ from e1]
      simp only [ob_eq]
      rw [if_pos (show gZb 1 = true by decide)]
      refine ⟨g1, rfl, ⟨c1, by rw [d1.2.2]; exact h2, a1, by rw [stk_f0]; exact b1, ?_, by rw [stk_f0]; omega, ⟨⟨fun _ => rfl, by decide⟩, h7⟩, fun e => by cases e⟩, d1⟩
      show R.length + 1 ≤ i + 1
      omega
    · rw [if_neg c40, if_neg (show ¬ (nI c = (40 : Int32)) from fun e => c40 ((eqn 40 (by decide)).mp e))]
      by_cases c49 : 49 ≤ c ∧ c ≤ 52
      · rw [if_pos c49]
        refine ⟨fun m' F' R' e => ?_, fun e => by cases e⟩
        cases e
        obtain ⟨g1, e1, a1, b1, c1, d1⟩ := c_nests h3 (by omega) h4 (c - 48) 5
        rw [if_neg (show ¬ (nI c < (49 : Int32)) from nI_nlt (b := 49) c49.1 (by omega)), if_neg (show ¬ ((52 : Int32) < nI c) from nI_nlt (a := 52) c49.2 (by decide)), show nI c - (48 : Int32) = nI (c - 48) from pk_sub (a := c) (b := 48) (by omega), show f_X2_nests (nI (c - 48)) (5 : Int32) g = _ from e1]
        simp only [ob_eq]
        rw [if_pos (show gZb 1 = true by decide)]
        refine ⟨g1, rfl, ⟨c1, by rw [d1.2.2]; exact h2, a1, by rw [stk_f0]; exact b1, ?_, by rw [stk_f0]; omega, ⟨⟨fun _ => rfl, ?_⟩, h7⟩, fun e => by cases e⟩, d1⟩
        · show R.length + 1 ≤ i + 1
          omega
        · show c - 48 ≤ 4
          omega
      · rw [if_neg c49]
        have e69 : (if nI c < (49 : Int32) then (fs_X2_takesPart_69 (nI c) g) else (if (52 : Int32) < nI c then (fs_X2_takesPart_69 (nI c) g) else ((f_X2_nests (nI c - (48 : Int32)) (5 : Int32) g).bind (fun u5 => if gZb u5.1 = true then some (u5.1, u5.2) else none)))) = fs_X2_takesPart_69 (nI c) g := by
          by_cases q : c < 49
          · rw [if_pos (show nI c < (49 : Int32) from nI_lt (b := 49) q (by decide))]
          · rw [if_neg (show ¬ (nI c < (49 : Int32)) from nI_nlt (b := 49) (by omega) (by omega)), if_pos (show (52 : Int32) < nI c from nI_lt (a := 52) (by omega) (by omega))]
        rw [e69]
        unfold fs_X2_takesPart_69
        by_cases c42 : c = 42
        · rw [if_pos c42]
          refine ⟨fun m' F' R' e => ?_, fun e => by cases e⟩
          cases e
          obtain ⟨g1, e1, a1, b1⟩ := sk_always h4 (by omega)
          obtain ⟨g2, e2, a2, b2', c2, d2⟩ := c_part120 (fsC_t h3 b1) (by omega) a1 (by rw [app_len]; omega)
          have dd := (frP.t b1).tr d2
          rw [if_pos (show nI c = (42 : Int32) from (eqn 42 (by decide)).mpr c42), e1]
          simp only [ob_eq]
          have hl := stk_add_len F R (fun _ => true)
          exact ⟨g2, e2, ⟨c2, by rw [dd.2.2]; exact h2, a2, b2', by omega, by omega, okFs_c h7 rfl rfl, fun _ => rfl⟩, dd⟩
        · rw [if_neg c42, if_neg (show ¬ (nI c = (42 : Int32)) from fun e => c42 ((eqn 42 (by decide)).mp e))]
          have e97 : ((97 : Int32) + (g.1 3 10)) - (1 : Int32) = nI (97 + told) := by
            rw [h2, show (97 : Int32) + nI (told + 1) = nI (97 + (told + 1)) from nI_add 97 _]
            exact pk_sub (a := 97 + (told + 1)) (b := 1) (by omega)
          rw [e97]
          by_cases cl : 97 ≤ c ∧ c < 97 + told
          · rw [if_pos cl]
            refine ⟨fun m' F' R' e => ?_, fun e => by cases e⟩
            cases e
            obtain ⟨g1, e1, a1, b1⟩ := sk_visited h4 (by omega) (p := c - 97) (by omega)
            obtain ⟨g2, e2, a2, b2', c2, d2⟩ := c_part120 (fsC_t h3 b1) (by omega) a1 (by rw [app_len]; omega)
            have dd := (frP.t b1).tr d2
            rw [if_neg (show ¬ (nI c < (97 : Int32)) from nI_nlt (b := 97) cl.1 (by omega)), if_neg (nI_ge cl.2 (by omega)), show nI c - (97 : Int32) = nI (c - 97) from pk_sub (a := c) (b := 97) cl.1, e1]
            simp only [ob_eq]
            have hl := stk_add_len F R (fun s => s.testBit (c - 97))
            exact ⟨g2, e2, ⟨c2, by rw [dd.2.2]; exact h2, a2, b2', by omega, by omega, okFs_c h7 rfl rfl, fun _ => rfl⟩, dd⟩
          · rw [if_neg cl]
            refine ⟨fun m' F' R' e => (by cases e), fun _ => ?_⟩
            by_cases q : c < 97
            · rw [if_pos (show nI c < (97 : Int32) from nI_lt (b := 97) q (by decide))]
            · rw [if_neg (show ¬ (nI c < (97 : Int32)) from nI_nlt (b := 97) (by omega) (by omega)), if_pos (nI_le (by omega) (by omega))]
theorem c_join_eq (h3 : fsC g F R) (hR : R.length ≤ 120) (h7 : F.1 ≤ 4) : f_X2_takesJoin (nI c) g = fs_X2_takesJoin_49 (nI c) (b2 (decide (0 < R.length) && decide (0 < F.1))) (b2 (decide (0 < R.length) && decide (F.1 = 0))) g := by
  have hd := h3.1
  have hk := h3.2.1.1
  unfold f_X2_takesJoin fs_X2_takesJoin_23 fs_X2_takesJoin_24 fs_X2_takesJoin_48
  rw [hd]
  by_cases hz : R.length = 0
  · rw [if_pos (show nI R.length ≤ (0 : Int32) from nI_le (b := 0) (by omega) (by decide)), if_pos (show nI R.length ≤ (0 : Int32) from nI_le (b := 0) (by omega) (by decide)), decide_eq_false (show ¬ 0 < R.length by omega)]; rfl
  · rw [if_neg (show ¬ (nI R.length ≤ (0 : Int32)) from nI_ge (a := 0) (by omega) (by omega)), if_pos (inb_nI (by omega) (by decide)), nI_clamp (by omega), hk, decide_eq_true (show 0 < R.length by omega)]
    by_cases hk0 : F.1 = 0
    · rw [if_pos (show nI F.1 ≤ (0 : Int32) from nI_le (b := 0) (by omega) (by decide)), if_neg (show ¬ (nI R.length ≤ (0 : Int32)) from nI_ge (a := 0) (by omega) (by omega)), if_pos (inb_nI (by omega) (by decide)), if_pos ((nI_z (by omega)).mpr hk0), decide_eq_true hk0, decide_eq_false (show ¬ 0 < F.1 by omega)]; rfl
    · rw [if_neg (show ¬ (nI F.1 ≤ (0 : Int32)) from nI_ge (a := 0) (by omega) (by omega)), if_neg (show ¬ (nI R.length ≤ (0 : Int32)) from nI_ge (a := 0) (by omega) (by omega)), if_pos (inb_nI (by omega) (by decide)), if_neg (fun e => hk0 ((nI_z (by omega)).mp e)), decide_eq_false hk0, decide_eq_true (show 0 < F.1 by omega)]; rfl
/-- the frame on top is closed: its truth is a part of the one below -/
theorem c_pop {F1 : aF} {R1 : List aF} {t : Tr} (h3 : fsC g F (F1 :: R1)) (hR : R1.length < 120) (hs : skC g (stk (F1 :: R1) ++ [t])) (hl : (stk (F1 :: R1) ++ [t]).length ≤ 120) : ∃ g', f_X2_endPart (gI1 g 3 9 ((g.1 3 9) - (1 : Int32))) = some ((), g') ∧ fsC g' (addP F1 t) R1 ∧ skC g' (stk (addP F1 t :: R1)) ∧ g'.1 3 11 = 6 ∧ frP g g' := by
  obtain ⟨h1, h2, ⟨h5, h6⟩⟩ := h3
  have e1 : (g.1 3 9) - (1 : Int32) = nI R1.length := by
    rw [h1]
    exact pk_sub (a := R1.length + 1) (b := 1) (by omega)
  rw [e1]
  have q : ∀ j, j ≠ 3 → (gI1 g 3 9 (nI R1.length)).1 j = g.1 j := fun j hj => by rw [gI1_1, if_neg hj]
  have hF : fsC (gI1 g 3 9 (nI R1.length)) F1 R1 := by
    obtain ⟨q1, q2, q3, q4, q5⟩ := h5
    exact ⟨by rw [r_self, if_pos rfl], ⟨by rw [q 9 (by decide)]; exact q1, by rw [q 10 (by decide)]; exact q2, by rw [q 11 (by decide)]; exact q3, by rw [q 12 (by decide)]; exact q4, by rw [q 13 (by decide)]; exact q5⟩, frsC_eq R1 (fun j a b i hi => by rw [q j (by omega)]) h6⟩
  obtain ⟨g', e, a, b, c', d⟩ := c_endPart hF (by omega) (skC_i hs (q 4 (by decide)) rfl) hl
  exact ⟨g', e, a, b, c', (frP.e (by decide)).tr d⟩
theorem setE (h : fsC g F R) {l : List Tr} (hs : skC g l) (v : Int32) : fsC (gI1 g 3 11 v) F R ∧ skC (gI1 g 3 11 v) l ∧ (gI1 g 3 11 v).1 3 11 = v ∧ (gI1 g 3 11 v).1 3 10 = g.1 3 10 ∧ frP g (gI1 g 3 11 v) := by
  obtain ⟨h1, ⟨q1, q2, q3, q4, q5⟩, h3⟩ := h
  have q : ∀ j, j ≠ 3 → (gI1 g 3 11 v).1 j = g.1 j := fun j hj => by rw [gI1_1, if_neg hj]
  exact ⟨⟨by rw [r_self, if_neg (by decide)]; exact h1, ⟨by rw [q 9 (by decide)]; exact q1, by rw [q 10 (by decide)]; exact q2, by rw [q 11 (by decide)]; exact q3, by rw [q 12 (by decide)]; exact q4, by rw [q 13 (by decide)]; exact q5⟩, frsC_eq R (fun j a b i hi => by rw [q j (by omega)]) h3⟩, skC_i hs (q 4 (by decide)) rfl, by rw [r_self, if_pos rfl], by rw [r_self, if_neg (by decide)], frP.e (by decide)⟩
theorem c_takesJoin (h : clS g told 6 F R i) (ht : told ≤ 9) (hi : i ≤ 119) (hc : c < 256) : (∀ m' F' R', cst told 6 F R c = some (m', F', R') → ∃ g', f_X2_takesJoin (nI c) g = some (1, g') ∧ clS g' told m' F' R' (i + 1) ∧ frP g g') ∧ (cst told 6 F R c = none → ¬ (R = [] ∧ c = 47) → ∃ g', f_X2_takesJoin (nI c) g = some (0, g') ∧ frP g g') := by
  obtain ⟨h1, h2, h3, h4, h5, h6, h7, h8⟩ := h
  have hp := h8 rfl
  have hk := okFs_k h7
  have eqn : ∀ k : Nat, k < 256 → (nI c = nI k ↔ c = k) := fun k hk => nI_eq (by omega) (by omega)
  rw [c_join_eq h3 (by omega) hk.2]
  have ec : cst told 6 F R c = (if c = 46 then some (4, F, R) else if c = 43 then some (4, endG F, R) else (match R with
    | [] => none
    | F1 :: R1 => if c = 44 ∧ 0 < F.1 then some (4, endC F, F1 :: R1) else if c = 93 ∧ 0 < F.1 then some (6, addP F1 (atl F.1 (F.2.1 ++ [cT F])), R1) else if c = 41 ∧ F.1 = 0 then some (6, addP F1 (cT F), R1) else none)) := rfl
  rw [ec]
  unfold fs_X2_takesJoin_49
  by_cases c46 : c = 46
  · rw [if_pos c46]
    refine ⟨fun m' F' R' e => ?_, fun e => by cases e⟩
    cases e
    obtain ⟨z1, z2, z3, z4, z5⟩ := setE h3 h4 4
    rw [if_pos (show nI c = (46 : Int32) from (eqn 46 (by decide)).mpr c46)]
    simp only [gl_eq]
    exact ⟨_, rfl, ⟨z3, by rw [z4]; exact h2, z1, z2, by omega, Nat.le_succ_of_le h6, h7, fun e => by cases e⟩, z5⟩
  · rw [if_neg c46, if_neg (show ¬ (nI c = (46 : Int32)) from fun e => c46 ((eqn 46 (by decide)).mp e))]
    by_cases c43 : c = 43
    · rw [if_pos c43]
      refine ⟨fun m' F' R' e => ?_, fun e => by cases e⟩
      cases e
      obtain ⟨g1, e1, a1, b1, c1, d1⟩ := c_endGroup h3 (by omega) h4 (by omega) hp
      obtain ⟨z1, z2, z3, z4, z5⟩ := setE a1 b1 4
      have hl := stk_endG_len R hp
      rw [if_pos (show nI c = (43 : Int32) from (eqn 43 (by decide)).mpr c43), e1]
      simp only [ob_eq, gl_eq]
      exact ⟨_, rfl, ⟨z3, by rw [z4, c1]; exact h2, z1, z2, by omega, by omega, okFs_c h7 rfl rfl, fun e => by cases e⟩, d1.tr z5⟩
    · rw [if_neg c43, if_neg (show ¬ (nI c = (43 : Int32)) from fun e => c43 ((eqn 43 (by decide)).mp e))]
      cases R with
      | nil =>
        refine ⟨fun m' F' R' e => (by cases e), fun _ hne => ⟨g, ?_, frP.rf⟩⟩
        have c47 : ¬ c = 47 := fun e => hne ⟨rfl, e⟩
        have z1 : b2 (decide (0 < ([] : List aF).length) && decide (0 < F.1)) = 0 := rfl
        have z2 : b2 (decide (0 < ([] : List aF).length) && decide (F.1 = 0)) = 0 := rfl
        rw [z1, z2]
        unfold fs_X2_takesJoin_101 fs_X2_takesJoin_156 fs_X2_takesJoin_186
        rw [if_pos zero0, if_neg (show ¬ (nI c = (47 : Int32)) from fun e => c47 ((eqn 47 (by decide)).mp e))]
        by_cases c44 : nI c = (44 : Int32)
        · rw [if_pos c44]
          rw [if_neg (show ¬ (nI c = (93 : Int32)) from fun e => by rw [c44] at e; exact absurd e (by decide)), if_neg (show ¬ (nI c = (41 : Int32)) from fun e => by rw [c44] at e; exact absurd e (by decide))]
        · rw [if_neg c44]
          by_cases c93 : nI c = (93 : Int32)
          · rw [if_pos c93, if_neg (show ¬ (nI c = (41 : Int32)) from fun e => by rw [c93] at e; exact absurd e (by decide)), if_pos zero0]
          · rw [if_neg c93]
            by_cases c41 : nI c = (41 : Int32)
            · rw [if_pos c41, if_pos zero0]
            · rw [if_neg c41]
      | cons F1 R1 =>
        have z0 : decide (0 < (F1 :: R1).length) = true := rfl
        have hlR : (F1 :: R1).length = R1.length + 1 := rfl
        rw [z0, Bool.true_and, Bool.true_and]
        obtain ⟨h7a, h7b⟩ := h7
        have h6s : (stk (F1 :: R1)).length + 1 ≤ i := by
          have := stk_len F (F1 :: R1)
          rw [some_len hp] at this
          omega
        have e186 : ∀ (hc47 : True), ∃ g', fs_X2_takesJoin_186 (nI c) g = some (0, g') ∧ frP g g' := by
          intro _
          refine ⟨g, ?_, frP.rf⟩
          unfold fs_X2_takesJoin_186
          by_cases c47 : nI c = (47 : Int32)
          · rw [if_pos c47, h3.1, if_neg (fun e => by have := (nI_z (by omega)).mp e; omega)]
          · rw [if_neg c47]
        by_cases hk0 : F.1 = 0
        · have zk : decide (0 < F.1) = false := decide_eq_false (by omega)
          have zk2 : decide (F.1 = 0) = true := decide_eq_true hk0
          rw [zk, zk2, b2_f, b2_t, if_pos zero0]
          have n44 : ¬ (c = 44 ∧ 0 < F.1) := fun e => by omega
          have n93 : ¬ (c = 93 ∧ 0 < F.1) := fun e => by omega
          rw [show (match (F1 :: R1 : List aF) with
            | [] => (none : Option (Nat × aF × List aF))
            | F1 :: R1 => if c = 44 ∧ 0 < F.1 then some (4, endC F, F1 :: R1) else if c = 93 ∧ 0 < F.1 then some (6, addP F1 (atl F.1 (F.2.1 ++ [cT F])), R1) else if c = 41 ∧ F.1 = 0 then some (6, addP F1 (cT F), R1) else none) = (if c = 44 ∧ 0 < F.1 then some (4, endC F, F1 :: R1) else if c = 93 ∧ 0 < F.1 then some (6, addP F1 (atl F.1 (F.2.1 ++ [cT F])), R1) else if c = 41 ∧ F.1 = 0 then some (6, addP F1 (cT F), R1) else none) from rfl, if_neg n44, if_neg n93]
          have e156 : (if nI c = (44 : Int32) then (fs_X2_takesJoin_101 (nI c) (0 : Int32) (1 : Int32) g) else (fs_X2_takesJoin_101 (nI c) (0 : Int32) (1 : Int32) g)) = fs_X2_takesJoin_156 (nI c) (1 : Int32) g := by
            have e101 : fs_X2_takesJoin_101 (nI c) (0 : Int32) (1 : Int32) g = fs_X2_takesJoin_156 (nI c) (1 : Int32) g := by
              unfold fs_X2_takesJoin_101
              rw [if_pos zero0]
              by_cases c93 : nI c = (93 : Int32)
              · rw [if_pos c93]
              · rw [if_neg c93]
            rw [e101]
            by_cases c44 : nI c = (44 : Int32)
            · rw [if_pos c44]
            · rw [if_neg c44]
          rw [e156]
          unfold fs_X2_takesJoin_156
          by_cases c41 : c = 41
          · rw [if_pos ⟨c41, hk0⟩]
            refine ⟨fun m' F' R' e => ?_, fun e => by cases e⟩
            cases e
            obtain ⟨g1, e1, a1, b1, c1, d1⟩ := c_endCond h3 (by omega) h4 (by omega) hp
            rw [stk_endC, hk.1 hk0, List.append_nil] at b1
            obtain ⟨g2, e2, a2, b2', c2, d2⟩ := c_pop (F := endC F) a1 (by omega) b1 (by rw [app_len]; omega)
            rw [if_pos (show nI c = (41 : Int32) from (eqn 41 (by decide)).mpr c41), if_neg one0, e1]
            simp only [ob_eq, gl_eq]
            rw [e2]
            simp only [ob_eq]
            have hl := stk_add_len F1 R1 (cT F)
            exact ⟨g2, rfl, ⟨c2, by rw [d2.2.2, d1.2.2]; exact h2, a2, b2', by omega, by omega, okFs_c h7b rfl rfl, fun _ => rfl⟩, d1.tr d2⟩
          · rw [if_neg (fun e => c41 e.1), if_neg (show ¬ (nI c = (41 : Int32)) from fun e => c41 ((eqn 41 (by decide)).mp e))]
            exact ⟨fun m' F' R' e => (by cases e), fun _ _ => e186 trivial⟩
        · have zk : decide (0 < F.1) = true := decide_eq_true (by omega)
          have zk2 : decide (F.1 = 0) = false := decide_eq_false hk0
          rw [zk, zk2, b2_f, b2_t]
          rw [show (match (F1 :: R1 : List aF) with
            | [] => (none : Option (Nat × aF × List aF))
            | F1 :: R1 => if c = 44 ∧ 0 < F.1 then some (4, endC F, F1 :: R1) else if c = 93 ∧ 0 < F.1 then some (6, addP F1 (atl F.1 (F.2.1 ++ [cT F])), R1) else if c = 41 ∧ F.1 = 0 then some (6, addP F1 (cT F), R1) else none) = (if c = 44 ∧ 0 < F.1 then some (4, endC F, F1 :: R1) else if c = 93 ∧ 0 < F.1 then some (6, addP F1 (atl F.1 (F.2.1 ++ [cT F])), R1) else if c = 41 ∧ F.1 = 0 then some (6, addP F1 (cT F), R1) else none) from rfl]
          obtain ⟨g1, e1, a1, b1, c1, d1⟩ := c_endCond h3 (by omega) h4 (by omega) hp
          by_cases c44 : c = 44
          · rw [if_pos ⟨c44, by omega⟩]
            refine ⟨fun m' F' R' e => ?_, fun e => by cases e⟩
            cases e
            obtain ⟨z1, z2, z3, z4, z5⟩ := setE a1 b1 4
            have hl := stk_endC_len (F1 :: R1) hp
            rw [if_pos (show nI c = (44 : Int32) from (eqn 44 (by decide)).mpr c44), if_neg one0, e1]
            simp only [ob_eq, gl_eq]
            exact ⟨_, rfl, ⟨z3, by rw [z4, c1]; exact h2, z1, z2, by omega, by omega, ⟨⟨fun e => absurd e hk0, h7a.2⟩, h7b⟩, fun e => by cases e⟩, d1.tr z5⟩
          · rw [if_neg (fun e => c44 e.1), if_neg (show ¬ (nI c = (44 : Int32)) from fun e => c44 ((eqn 44 (by decide)).mp e))]
            unfold fs_X2_takesJoin_101
            by_cases c93 : c = 93
            · rw [if_pos ⟨c93, by omega⟩]
              refine ⟨fun m' F' R' e => ?_, fun e => by cases e⟩
              cases e
              have hlen0 := stk_len F (F1 :: R1)
              rw [some_len hp] at hlen0
              have b1' : skC g1 (stk (F1 :: R1) ++ (F.2.1 ++ [cT F])) := by rw [← List.append_assoc, ← stk_endC]; exact b1
              obtain ⟨g2, e2, a2, b2'⟩ := sk_count (n := F.1) b1' (by rw [app_len]; omega) (by omega) h7a.2 (by rw [app_len]; omega)
              obtain ⟨g3, e3, a3, b3, c3, d3⟩ := c_pop (F := endC F) (fsC_t a1 b2') (by omega) a2 (by rw [app_len]; omega)
              rw [if_pos (show nI c = (93 : Int32) from (eqn 93 (by decide)).mpr c93), if_neg one0, e1]
              simp only [ob_eq]
              have hd1 : g1.1 3 9 = nI (R1.length + 1) := a1.1
              rw [hd1, if_pos (inb_nI (by omega) (by decide)), if_pos (inb_nI (by omega) (by decide)), nI_clamp (by omega), show g1.1 9 (R1.length + 1) = nI F.1 from a1.2.1.1, show g1.1 10 (R1.length + 1) = nI (F.2.1 ++ [cT F]).length from a1.2.1.2.1, e2]
              simp only [ob_eq, gl_eq]
              rw [e3]
              simp only [ob_eq]
              have hl := stk_add_len F1 R1 (atl F.1 (F.2.1 ++ [cT F]))
              have dd := (d1.tr (frP.t b2')).tr d3
              exact ⟨g3, rfl, ⟨c3, by rw [dd.2.2]; exact h2, a3, b3, by omega, by omega, okFs_c h7b rfl rfl, fun _ => rfl⟩, dd⟩
            · rw [if_neg (fun e => c93 e.1), if_neg (show ¬ (nI c = (93 : Int32)) from fun e => c93 ((eqn 93 (by decide)).mp e)), if_neg (fun e => hk0 e.2)]
              refine ⟨fun m' F' R' e => (by cases e), fun _ _ => ?_⟩
              unfold fs_X2_takesJoin_156
              by_cases c41 : nI c = (41 : Int32)
              · rw [if_pos c41, if_pos zero0]; exact e186 trivial
              · rw [if_neg c41]; exact e186 trivial
theorem c_takes (h : clS g told mode F R i) (hm : mode = 4 ∨ mode = 5 ∨ mode = 6) (ht : told ≤ 9) (hi : i ≤ 119) (hc : c < 256) : (∀ m' F' R', cst told mode F R c = some (m', F', R') → ∃ g', f_X2_takes (nI c) g = some (1, g') ∧ clS g' told m' F' R' (i + 1) ∧ frP g g') ∧ (cst told mode F R c = none → ¬ (mode = 6 ∧ R = [] ∧ c = 47) → ∃ g', f_X2_takes (nI c) g = some (0, g') ∧ frP g g') := by
  have h1 := h.1
  rcases hm with rfl | rfl | rfl
  · have e : f_X2_takes (nI c) g = (f_X2_takesPart (nI c) g).bind (fun u11 => if gZb u11.1 = true then some (u11.1, u11.2) else none) := by
      unfold f_X2_takes
      rw [h1, if_neg (by decide), if_neg (by decide), if_neg (by decide), if_neg (by decide), if_pos (show nI 4 = (4 : Int32) from rfl)]
    obtain ⟨q1, q2⟩ := c_takesPart h ht hi hc
    rw [e]
    refine ⟨fun m' F' R' e1 => ?_, fun e1 _ => ⟨g, ?_, frP.rf⟩⟩
    · obtain ⟨g', e2, z⟩ := q1 m' F' R' e1
      refine ⟨g', ?_, z⟩
      rw [e2]
      simp only [ob_eq]
      rw [if_pos (show gZb 1 = true by decide)]
    · rw [q2 e1]
      simp only [ob_eq]
      rw [if_pos (show gZb 0 = true by decide)]
  · have ec : cst told 5 F R c = if c = 91 then some (4, F, R) else none := rfl
    obtain ⟨h1, h2, h3, h4, h5, h6, h7, h8⟩ := h
    obtain ⟨z1, z2, z3, z4, z5⟩ := setE h3 h4 4
    have e : f_X2_takes (nI c) g = if nI c = (91 : Int32) then some (1, gI1 g 3 11 4) else some (0, gI1 g 3 11 4) := by
      unfold f_X2_takes
      rw [h1, if_neg (by decide), if_neg (by decide), if_neg (by decide), if_neg (by decide), if_neg (by decide), if_pos (show nI 5 = (5 : Int32) from rfl)]
      simp only [gl_eq]
    rw [e, ec]
    by_cases c91 : c = 91
    · rw [if_pos c91, if_pos (show nI c = (91 : Int32) by rw [c91]; rfl)]
      refine ⟨fun m' F' R' e1 => ?_, fun e1 => by cases e1⟩
      cases e1
      exact ⟨_, rfl, ⟨z3, by rw [z4]; exact h2, z1, z2, by omega, Nat.le_succ_of_le h6, h7, fun e => by cases e⟩, z5⟩
    · rw [if_neg c91, if_neg (show ¬ (nI c = (91 : Int32)) from fun e => c91 ((nI_eq (b := 91) (by omega) (by decide)).mp e))]
      exact ⟨fun m' F' R' e1 => (by cases e1), fun _ _ => ⟨_, rfl, z5⟩⟩
  · have e : f_X2_takes (nI c) g = (f_X2_takesJoin (nI c) g).bind (fun u15 => if gZb u15.1 = true then some (u15.1, u15.2) else none) := by
      unfold f_X2_takes
      rw [h1, if_neg (by decide), if_neg (by decide), if_neg (by decide), if_neg (by decide), if_neg (by decide), if_neg (by decide)]
    obtain ⟨q1, q2⟩ := c_takesJoin h ht hi hc
    rw [e]
    refine ⟨fun m' F' R' e1 => ?_, fun e1 hne => ?_⟩
    · obtain ⟨g', e2, z⟩ := q1 m' F' R' e1
      refine ⟨g', ?_, z⟩
      rw [e2]
      simp only [ob_eq]
      rw [if_pos (show gZb 1 = true by decide)]
    · obtain ⟨g', e2, z⟩ := q2 e1 (fun e9 => hne ⟨rfl, e9.1, e9.2⟩)
      refine ⟨g', ?_, z⟩
      rw [e2]
      simp only [ob_eq]
      rw [if_pos (show gZb 0 = true by decide)]
end ST
