/-! PURE: the class's truths: rows of long words. -/
def btL (x : Int64) (i : Nat) : Bool := x.toBitVec.getLsbD i
theorem btL_and (x y : Int64) (i : Nat) : btL (x &&& y) i = (btL x i && btL y i) := by unfold btL; rw [Int64.toBitVec_and, BitVec.getLsbD_and]
theorem btL_or (x y : Int64) (i : Nat) : btL (x ||| y) i = (btL x i || btL y i) := by unfold btL; rw [Int64.toBitVec_or, BitVec.getLsbD_or]
theorem btL_m1 {i : Nat} (h : i < 64) : btL (-1) i = true := (by decide +kernel : ∀ i, i < 64 → btL (-1) i = true) i h
theorem btL_0 (i : Nat) : btL 0 i = false := BitVec.getLsbD_zero
theorem btL_not (x : Int64) {i : Nat} (h : i < 64) : btL (x ^^^ (-1)) i = !btL x i := by
  have e : btL (x ^^^ (-1)) i = (btL x i ^^ btL (-1) i) := by unfold btL; rw [Int64.toBitVec_xor, BitVec.getLsbD_xor]
  rw [e, btL_m1 h]; cases btL x i <;> rfl
theorem gVis_bit : ∀ p, p < 6 → ∀ b, b < 64 → btL (gVis p) b = b.testBit p := by decide +kernel
/-- only row k of the longs has changed, at a + i .. a + 7 -/
def lw (g g' : gG) (k a i : Nat) (v : Nat → Int64) : Prop := g'.1 = g.1 ∧ (∀ j, j ≠ k → g'.2 j = g.2 j) ∧ (∀ w, i ≤ w → w < 8 → g'.2 k (a + w) = v w) ∧ ∀ j, (j < a + i ∨ a + 8 ≤ j) → g'.2 k j = g.2 k j
theorem gL1_s (g : gG) (k i : Nat) (v : Int64) (j : Nat) : (gL1 g k i v).2 k j = if j = i then v else g.2 k j := by
  unfold gL1 va_up vp_updL
  simp
theorem gL1_n {g : gG} {k i : Nat} {v : Int64} {j : Nat} (h : j ≠ k) : (gL1 g k i v).2 j = g.2 j := by
  unfold gL1 va_up
  simp [h]
theorem lw_0 (g : gG) (k a : Nat) (v : Nat → Int64) : lw g g k a 8 v := ⟨rfl, fun _ _ => rfl, fun w h1 h2 => by omega, fun _ _ => rfl⟩
theorem lw_s {g g' : gG} {k a i : Nat} {v : Nat → Int64} (hi : i < 8) (h : lw (gL1 g k (a + i) (v i)) g' k a (i + 1) v) : lw g g' k a i v := by
  obtain ⟨h1, h2, h3, h4⟩ := h
  refine ⟨h1.trans (gL1_1 _ _ _ _), fun j hj => (h2 j hj).trans (gL1_n hj), fun w h5 h6 => ?_, fun j hj => ?_⟩
  · by_cases e : w = i
    · subst e
      rw [h4 _ (by omega), gL1_s, if_pos rfl]
    · exact h3 w (by omega) h6
  · rw [h4 j (by omega), gL1_s, if_neg (by omega)]
theorem idx8 (h l : Nat) : (nI h * (8 : Int32)) + nI l = nI (8 * h + l) := by
  show nI h * nI 8 + nI l = _
  rw [pk_mul, nI_add, Nat.mul_comm]
theorem c_pushA_l {h : Nat} (hh : h < 120) (d : Nat) : ∀ (g : gG) i fu, i + d = 8 → d < fu → g.1 4 1 = nI h → ∃ g', fb_X7_pushAlways_12 fu (nI i) g = some ((), gI1 g' 4 1 (nI (h + 1))) ∧ lw g g' 5 (8 * h) i (fun _ => -1) := by
  induction d with
  | zero =>
    intro g i fu hi hf e1
    obtain ⟨fu, rfl⟩ : ∃ f', fu = f' + 1 := ⟨fu - 1, by omega⟩
    have e : i = 8 := by omega
    subst e
    refine ⟨g, ?_, lw_0 _ _ _ _⟩
    unfold fb_X7_pushAlways_12 fs_X7_pushAlways_12
    rw [if_pos (by decide), e1, nI_1]
    simp only [gl_eq]
  | succ d ih =>
    intro g i fu hi hf e1
    obtain ⟨fu, rfl⟩ : ∃ f', fu = f' + 1 := ⟨fu - 1, by omega⟩
    obtain ⟨g', e, l⟩ := ih (gL1 g 5 (8 * h + i) (-1)) (i + 1) fu (by omega) (by omega) e1
    refine ⟨g', ?_, lw_s (by omega) l⟩
    unfold fb_X7_pushAlways_12 fs_X7_pushAlways_12
    rw [if_neg (show ¬ ((8 : Int32) ≤ nI i) from nI_ge (b := 8) (by omega) (by decide)), e1, idx8, if_pos (inb_nI (by omega) (by decide)), nI_clamp (by omega)]
    simp only [gl_eq, nI_1]
    exact e
theorem c_pushA {g : gG} {h : Nat} (hh : h < 120) (e1 : g.1 4 1 = nI h) : ∃ g', f_X7_pushAlways g = some ((), gI1 g' 4 1 (nI (h + 1))) ∧ lw g g' 5 (8 * h) 0 (fun _ => -1) := by
  unfold f_X7_pushAlways
  rw [e1, if_pos (show nI h < (120 : Int32) from nI_lt (b := 120) hh (by decide))]
  exact c_pushA_l hh 8 g 0 gFuel (by omega) (by unfold gFuel; omega) e1
def visW (p w : Nat) : Int64 := if p < 6 then gVis p else if w.testBit (p - 6) = true then -1 else 0
theorem c_vis {p w : Nat} (hp : p < 9) (hw : w < 8) (g : gG) : f_X7_visitedIn (nI p) (nI w) g = some (visW p w, g) := by
  unfold f_X7_visitedIn visW
  by_cases h : p < 6
  · rw [if_neg (show ¬ ((6 : Int32) ≤ nI p) from nI_ge (b := 6) h (by decide)), if_pos (inb_nI h (by decide)), nI_clamp (by omega), if_pos h]
  · rw [if_pos (show (6 : Int32) ≤ nI p from nI_le (a := 6) (by omega) (by omega)), show nI p - (6 : Int32) = nI (p - 6) from pk_sub (a := p) (b := 6) (by omega), c_isIn (by omega) (by omega), if_neg h]
    simp only [ob_eq]
    cases w.testBit (p - 6) with
    | true => rw [b2_t, if_neg one0, if_pos rfl]
    | false => rw [b2_f, if_pos zero0, if_neg (by decide)]
theorem visW_bit {p w b : Nat} (hp : p < 9) (hw : w < 8) (hb : b < 64) : btL (visW p w) b = (64 * w + b).testBit p := by
  unfold visW
  by_cases h : p < 6
  · rw [if_pos h, gVis_bit p h b hb]
    have e : (64 * w + b).testBit p = b.testBit p := by
      rw [show 64 * w + b = 2 ^ 6 * w + b by omega, Nat.testBit_two_pow_mul_add _ hb, if_pos h]
    rw [e]
  · rw [if_neg h]
    have e : (64 * w + b).testBit p = w.testBit (p - 6) := by
      rw [show 64 * w + b = 2 ^ 6 * w + b by omega, Nat.testBit_two_pow_mul_add _ hb, if_neg h]
    rw [e]
    cases w.testBit (p - 6) with
    | true => rw [if_pos rfl, btL_m1 hb]
    | false => rw [if_neg (by decide), btL_0]
theorem c_pushV_l {h p : Nat} (hh : h < 120) (hp : p < 9) (d : Nat) : ∀ (g : gG) i fu, i + d = 8 → d < fu → g.1 4 1 = nI h → ∃ g', fb_X7_pushVisited_16 fu (nI p) (nI i) g = some ((), gI1 g' 4 1 (nI (h + 1))) ∧ lw g g' 5 (8 * h) i (visW p) := by
  induction d with
  | zero =>
    intro g i fu hi hf e1
    obtain ⟨fu, rfl⟩ : ∃ f', fu = f' + 1 := ⟨fu - 1, by omega⟩
    have e : i = 8 := by omega
    subst e
    refine ⟨g, ?_, lw_0 _ _ _ _⟩
    unfold fb_X7_pushVisited_16 fs_X7_pushVisited_16
    rw [if_pos (by decide), e1, nI_1]
    simp only [gl_eq]
  | succ d ih =>
    intro g i fu hi hf e1
    obtain ⟨fu, rfl⟩ : ∃ f', fu = f' + 1 := ⟨fu - 1, by omega⟩
    obtain ⟨g', e, l⟩ := ih (gL1 g 5 (8 * h + i) (visW p i)) (i + 1) fu (by omega) (by omega) e1
    refine ⟨g', ?_, lw_s (by omega) l⟩
    unfold fb_X7_pushVisited_16 fs_X7_pushVisited_16
    rw [if_neg (show ¬ ((8 : Int32) ≤ nI i) from nI_ge (b := 8) (by omega) (by decide)), c_vis hp (by omega)]
    simp only [ob_eq]
    rw [e1, idx8, if_pos (inb_nI (by omega) (by decide)), nI_clamp (by omega)]
    simp only [gl_eq, nI_1]
    exact e
theorem c_pushV {g : gG} {h p : Nat} (hh : h < 120) (hp : p < 9) (e1 : g.1 4 1 = nI h) : ∃ g', f_X7_pushVisited (nI p) g = some ((), gI1 g' 4 1 (nI (h + 1))) ∧ lw g g' 5 (8 * h) 0 (visW p) := by
  unfold f_X7_pushVisited
  rw [e1, if_neg (show ¬ ((120 : Int32) ≤ nI h) from nI_ge (b := 120) hh (by decide)), if_pos (nI_pos' (by omega))]
  exact c_pushV_l hh hp 8 g 0 gFuel (by omega) (by unfold gFuel; omega) e1
theorem c_neg_l {a : Nat} (ha : a + 8 ≤ 960) (v : Nat → Int64) (d : Nat) : ∀ (g : gG) i fu, i + d = 8 → d < fu → (∀ w, i ≤ w → w < 8 → g.2 5 (a + w) ^^^ (-1) = v w) → ∃ g', fb_X7_negate_21 fu (nI a) (nI i) g = some ((), g') ∧ lw g g' 5 a i v := by
  induction d with
  | zero =>
    intro g i fu hi hf hv
    obtain ⟨fu, rfl⟩ : ∃ f', fu = f' + 1 := ⟨fu - 1, by omega⟩
    have e : i = 8 := by omega
    subst e
    refine ⟨g, ?_, lw_0 _ _ _ _⟩
    unfold fb_X7_negate_21 fs_X7_negate_21
    rw [if_pos (by decide)]
  | succ d ih =>
    intro g i fu hi hf hv
    obtain ⟨fu, rfl⟩ : ∃ f', fu = f' + 1 := ⟨fu - 1, by omega⟩
    obtain ⟨g', e, l⟩ := ih (gL1 g 5 (a + i) (v i)) (i + 1) fu (by omega) (by omega) (fun w h1 h2 => by rw [gL1_s, if_neg (by omega)]; exact hv w (by omega) h2)
    refine ⟨g', ?_, lw_s (by omega) l⟩
    unfold fb_X7_negate_21 fs_X7_negate_21
    rw [if_neg (show ¬ ((8 : Int32) ≤ nI i) from nI_ge (b := 8) (by omega) (by decide)), nI_add, if_pos (inb_nI (by omega) (by decide)), if_pos (inb_nI (by omega) (by decide)), nI_clamp (by omega), hv i (Nat.le_refl _) (by omega)]
    simp only [gl_eq, nI_1]
    exact e
theorem c_negate {g : gG} {h : Nat} (h1 : 1 ≤ h) (hh : h ≤ 120) (e1 : g.1 4 1 = nI h) : ∃ g', f_X7_negate g = some ((), g') ∧ lw g g' 5 (8 * (h - 1)) 0 (fun w => g.2 5 (8 * (h - 1) + w) ^^^ (-1)) := by
  unfold f_X7_negate
  rw [e1, if_pos (show (1 : Int32) ≤ nI h from nI_le (a := 1) h1 (by omega))]
  simp only [gl_eq]
  rw [show (nI h - (1 : Int32)) * (8 : Int32) = nI (8 * (h - 1)) by
    rw [show nI h - (1 : Int32) = nI (h - 1) from pk_sub (a := h) (b := 1) h1]
    show nI (h - 1) * nI 8 = _
    rw [pk_mul, Nat.mul_comm]]
  exact c_neg_l (by omega) _ 8 g 0 gFuel (by omega) (by unfold gFuel; omega) (fun w _ _ => rfl)
theorem idx8' {h : Nat} (h1 : 1 ≤ h) (l : Nat) : ((nI h - (1 : Int32)) * (8 : Int32)) + nI l = nI (8 * (h - 1) + l) := by
  rw [show nI h - (1 : Int32) = nI (h - 1) from pk_sub (a := h) (b := 1) h1, idx8]
theorem c_and_l {h : Nat} (h1 : 1 ≤ h) (hh : h < 120) (v : Nat → Int64) (d : Nat) : ∀ (g : gG) i fu, i + d = 8 → d < fu → g.1 4 1 = nI h → (∀ w, i ≤ w → w < 8 → g.2 5 (8 * (h - 1) + w) &&& g.2 5 (8 * h + w) = v w) → ∃ g', fb_X7_joinByAnd_21 fu (nI i) g = some ((), g') ∧ lw g g' 5 (8 * (h - 1)) i v := by
  induction d with
  | zero =>
    intro g i fu hi hf e1 hv
    obtain ⟨fu, rfl⟩ : ∃ f', fu = f' + 1 := ⟨fu - 1, by omega⟩
    have e : i = 8 := by omega
    subst e
    refine ⟨g, ?_, lw_0 _ _ _ _⟩
    unfold fb_X7_joinByAnd_21 fs_X7_joinByAnd_21
    rw [if_pos (by decide)]
  | succ d ih =>
    intro g i fu hi hf e1 hv
    obtain ⟨fu, rfl⟩ : ∃ f', fu = f' + 1 := ⟨fu - 1, by omega⟩
    obtain ⟨g', e, l⟩ := ih (gL1 g 5 (8 * (h - 1) + i) (v i)) (i + 1) fu (by omega) (by omega) e1 (fun w h3 h2 => by rw [gL1_s, gL1_s, if_neg (by omega), if_neg (by omega)]; exact hv w (by omega) h2)
    refine ⟨g', ?_, lw_s (by omega) l⟩
    unfold fb_X7_joinByAnd_21 fs_X7_joinByAnd_21
    rw [if_neg (show ¬ ((8 : Int32) ≤ nI i) from nI_ge (b := 8) (by omega) (by decide)), e1, idx8' h1, idx8, if_pos (inb_nI (by omega) (by decide)), if_pos (inb_nI (by omega) (by decide)), if_pos (inb_nI (by omega) (by decide)), nI_clamp (by omega), nI_clamp (by omega), hv i (Nat.le_refl _) (by omega)]
    simp only [gl_eq, nI_1]
    exact e
theorem c_joinAnd {g : gG} {h : Nat} (h2 : 2 ≤ h) (hh : h ≤ 120) (e1 : g.1 4 1 = nI h) : ∃ g', f_X7_joinByAnd g = some ((), g') ∧ lw (gI1 g 4 1 (nI (h - 1))) g' 5 (8 * (h - 2)) 0 (fun w => g.2 5 (8 * (h - 2) + w) &&& g.2 5 (8 * (h - 1) + w)) := by
  unfold f_X7_joinByAnd
  rw [e1, if_pos (show (2 : Int32) ≤ nI h from nI_le (a := 2) h2 (by omega)), show nI h - (1 : Int32) = nI (h - 1) from pk_sub (a := h) (b := 1) (by omega)]
  simp only [gl_eq]
  have h9 := c_and_l (h := h - 1) (by omega) (by omega) (fun w => g.2 5 (8 * (h - 2) + w) &&& g.2 5 (8 * (h - 1) + w)) 8 (gI1 g 4 1 (nI (h - 1))) 0 gFuel (by omega) (by unfold gFuel; omega) (by rw [r_self, if_pos rfl]) (fun w _ _ => by rw [show h - 1 - 1 = h - 2 by omega]; rfl)
  rw [show h - 1 - 1 = h - 2 by omega] at h9
  exact h9
theorem c_or_l {h : Nat} (h1 : 1 ≤ h) (hh : h < 120) (v : Nat → Int64) (d : Nat) : ∀ (g : gG) i fu, i + d = 8 → d < fu → g.1 4 1 = nI h → (∀ w, i ≤ w → w < 8 → g.2 5 (8 * (h - 1) + w) ||| g.2 5 (8 * h + w) = v w) → ∃ g', fb_X7_joinByOr_21 fu (nI i) g = some ((), g') ∧ lw g g' 5 (8 * (h - 1)) i v := by
  induction d with
  | zero =>
    intro g i fu hi hf e1 hv
    obtain ⟨fu, rfl⟩ : ∃ f', fu = f' + 1 := ⟨fu - 1, by omega⟩
    have e : i = 8 := by omega
    subst e
    refine ⟨g, ?_, lw_0 _ _ _ _⟩
    unfold fb_X7_joinByOr_21 fs_X7_joinByOr_21
    rw [if_pos (by decide)]
  | succ d ih =>
    intro g i fu hi hf e1 hv
    obtain ⟨fu, rfl⟩ : ∃ f', fu = f' + 1 := ⟨fu - 1, by omega⟩
    obtain ⟨g', e, l⟩ := ih (gL1 g 5 (8 * (h - 1) + i) (v i)) (i + 1) fu (by omega) (by omega) e1 (fun w h3 h2 => by rw [gL1_s, gL1_s, if_neg (by omega), if_neg (by omega)]; exact hv w (by omega) h2)
    refine ⟨g', ?_, lw_s (by omega) l⟩
    unfold fb_X7_joinByOr_21 fs_X7_joinByOr_21
    rw [if_neg (show ¬ ((8 : Int32) ≤ nI i) from nI_ge (b := 8) (by omega) (by decide)), e1, idx8' h1, idx8, if_pos (inb_nI (by omega) (by decide)), if_pos (inb_nI (by omega) (by decide)), if_pos (inb_nI (by omega) (by decide)), nI_clamp (by omega), nI_clamp (by omega), hv i (Nat.le_refl _) (by omega)]
    simp only [gl_eq, nI_1]
    exact e
theorem c_joinOr {g : gG} {h : Nat} (h2 : 2 ≤ h) (hh : h ≤ 120) (e1 : g.1 4 1 = nI h) : ∃ g', f_X7_joinByOr g = some ((), g') ∧ lw (gI1 g 4 1 (nI (h - 1))) g' 5 (8 * (h - 2)) 0 (fun w => g.2 5 (8 * (h - 2) + w) ||| g.2 5 (8 * (h - 1) + w)) := by
  unfold f_X7_joinByOr
  rw [e1, if_pos (show (2 : Int32) ≤ nI h from nI_le (a := 2) h2 (by omega)), show nI h - (1 : Int32) = nI (h - 1) from pk_sub (a := h) (b := 1) (by omega)]
  simp only [gl_eq]
  have h9 := c_or_l (h := h - 1) (by omega) (by omega) (fun w => g.2 5 (8 * (h - 2) + w) ||| g.2 5 (8 * (h - 1) + w)) 8 (gI1 g 4 1 (nI (h - 1))) 0 gFuel (by omega) (by unfold gFuel; omega) (by rw [r_self, if_pos rfl]) (fun w _ _ => by rw [show h - 1 - 1 = h - 2 by omega]; rfl)
  rw [show h - 1 - 1 = h - 2 by omega] at h9
  exact h9
/-- four counters -/
def fcI (x : Int64) (j b : Nat) (c : Nat) : Prop := btL x b = decide (j ≤ c)
theorem c_atl_l {n h w : Nat} (hh : h ≤ 120) (hw : w < 8) (h1 : 1 ≤ n) (h4 : n ≤ 4) {g : gG} (e1 : g.1 4 1 = nI h) (base : Nat) (d : Nat) : ∀ i (x1 x2 x3 x4 : Int64) fu, base + i + d = h → d < fu → (∀ b, b < 64 → fcI x1 1 b (cnt (fun r => btL (g.2 5 (8 * (base + r) + w)) b) i) ∧ fcI x2 2 b (cnt (fun r => btL (g.2 5 (8 * (base + r) + w)) b) i) ∧ fcI x3 3 b (cnt (fun r => btL (g.2 5 (8 * (base + r) + w)) b) i) ∧ fcI x4 4 b (cnt (fun r => btL (g.2 5 (8 * (base + r) + w)) b) i)) → ∃ x, fb_X7_atLeast_15 fu (nI n) (nI w) x1 x2 x3 x4 (nI (base + i)) g = some (x, g) ∧ ∀ b, b < 64 → fcI x n b (cnt (fun r => btL (g.2 5 (8 * (base + r) + w)) b) (h - base)) := by
  induction d with
  | zero =>
    intro i x1 x2 x3 x4 fu hi hf hI
    obtain ⟨fu, rfl⟩ : ∃ f', fu = f' + 1 := ⟨fu - 1, by omega⟩
    have e : i = h - base := by omega
    subst e
    unfold fb_X7_atLeast_15 fs_X7_atLeast_15
    rw [e1, if_pos (nI_le (by omega) (by omega))]
    have hn : n = 1 ∨ n = 2 ∨ n = 3 ∨ n = 4 := by omega
    rcases hn with rfl | rfl | rfl | rfl
    · exact ⟨x1, by rw [if_neg (by decide)], fun b hb => (hI b hb).1⟩
    · exact ⟨x2, by rw [if_pos (by decide), if_pos (show nI 2 = (2 : Int32) from rfl)], fun b hb => (hI b hb).2.1⟩
    · exact ⟨x3, by rw [if_pos (by decide), if_neg (by decide), if_pos (show nI 3 = (3 : Int32) from rfl)], fun b hb => (hI b hb).2.2.1⟩
    · exact ⟨x4, by rw [if_pos (by decide), if_neg (by decide), if_neg (by decide)], fun b hb => (hI b hb).2.2.2⟩
  | succ d ih =>
    intro i x1 x2 x3 x4 fu hi hf hI
    obtain ⟨fu, rfl⟩ : ∃ f', fu = f' + 1 := ⟨fu - 1, by omega⟩
    obtain ⟨x, e, hx⟩ := ih (i + 1) (x1 ||| g.2 5 (8 * (base + i) + w)) (x2 ||| (x1 &&& g.2 5 (8 * (base + i) + w))) (x3 ||| (x2 &&& g.2 5 (8 * (base + i) + w))) (x4 ||| (x3 &&& g.2 5 (8 * (base + i) + w))) fu (by omega) (by omega) (by
      intro b hb
      obtain ⟨q1, q2, q3, q4⟩ := hI b hb
      unfold fcI at q1 q2 q3 q4 ⊢
      rw [btL_or, btL_or, btL_and, btL_or, btL_and, btL_or, btL_and, q1, q2, q3, q4, cnt]
      cases btL (g.2 5 (8 * (base + i) + w)) b with
      | true =>
        rw [if_pos rfl]
        simp only [Bool.and_true, ← Bool.decide_or, decide_true, Bool.or_true]
        refine ⟨?_, ?_, ?_, ?_⟩
        · exact (decide_eq_true (by omega)).symm
        · exact decide_eq_decide.mpr (by omega)
        · exact decide_eq_decide.mpr (by omega)
        · exact decide_eq_decide.mpr (by omega)
      | false =>
        rw [if_neg (by decide)]
        simp)
    refine ⟨x, ?_, hx⟩
    unfold fb_X7_atLeast_15 fs_X7_atLeast_15
    rw [e1, if_neg (nI_ge (by omega) (by omega)), idx8, if_pos (inb_nI (by omega) (by decide)), nI_clamp (by omega)]
    simp only [gl_eq, nI_1]
    rw [show base + i + 1 = base + (i + 1) by omega]
    exact e
theorem c_atl {n h w : Nat} (hh : h ≤ 120) (hw : w < 8) (h1 : 1 ≤ n) (h4 : n ≤ 4) {g : gG} (e1 : g.1 4 1 = nI h) {base : Nat} (hb : base ≤ h) : ∃ x, f_X7_atLeast (nI n) (nI base) (nI w) g = some (x, g) ∧ ∀ b, b < 64 → btL x b = decide (n ≤ cnt (fun r => btL (g.2 5 (8 * (base + r) + w)) b) (h - base)) := by
  unfold f_X7_atLeast
  refine c_atl_l hh hw h1 h4 e1 base (h - base) 0 0 0 0 0 gFuel (by omega) (by unfold gFuel; omega) ?_
  intro b hb9
  unfold fcI
  rw [btL_0]
  exact ⟨rfl, rfl, rfl, rfl⟩
theorem c_count_l {n h base : Nat} (hh : h ≤ 120) (h1 : 1 ≤ n) (h4 : n ≤ 4) (hb : base < h) (d : Nat) : ∀ (g : gG) i fu, i + d = 8 → d < fu → g.1 4 1 = nI h → ∃ g', fb_X7_joinByCount_24 fu (nI n) (nI base) (nI i) g = some ((), gI1 g' 4 1 (nI (base + 1))) ∧ g'.1 = g.1 ∧ (∀ j, j ≠ 5 → g'.2 j = g.2 j) ∧ (∀ w, i ≤ w → w < 8 → ∀ b, b < 64 → btL (g'.2 5 (8 * base + w)) b = decide (n ≤ cnt (fun r => btL (g.2 5 (8 * (base + r) + w)) b) (h - base))) ∧ ∀ j, (j < 8 * base + i ∨ 8 * base + 8 ≤ j) → g'.2 5 j = g.2 5 j := by
  induction d with
  | zero =>
    intro g i fu hi hf e1
    obtain ⟨fu, rfl⟩ : ∃ f', fu = f' + 1 := ⟨fu - 1, by omega⟩
    have e : i = 8 := by omega
    subst e
    refine ⟨g, ?_, rfl, fun _ _ => rfl, fun w q1 q2 => by omega, fun _ _ => rfl⟩
    unfold fb_X7_joinByCount_24 fs_X7_joinByCount_24
    rw [if_pos (by decide), nI_1]
    simp only [gl_eq]
  | succ d ih =>
    intro g i fu hi hf e1
    obtain ⟨fu, rfl⟩ : ∃ f', fu = f' + 1 := ⟨fu - 1, by omega⟩
    obtain ⟨x, ex, hx⟩ := c_atl (n := n) (w := i) hh (by omega) h1 h4 e1 (base := base) (by omega)
    obtain ⟨g', e, a, b, c, d'⟩ := ih (gL1 g 5 (8 * base + i) x) (i + 1) fu (by omega) (by omega) e1
    refine ⟨g', ?_, a, fun j hj => (b j hj).trans (gL1_n hj), ?_, ?_⟩
    · unfold fb_X7_joinByCount_24 fs_X7_joinByCount_24
      rw [if_neg (show ¬ ((8 : Int32) ≤ nI i) from nI_ge (b := 8) (by omega) (by decide)), ex]
      simp only [ob_eq]
      rw [idx8, if_pos (inb_nI (by omega) (by decide)), nI_clamp (by omega)]
      simp only [gl_eq, nI_1]
      exact e
    · intro w q1 q2 b9 hb9
      by_cases e9 : w = i
      · subst e9
        rw [d' _ (by omega), gL1_s, if_pos rfl, hx b9 hb9]
      · rw [c w (by omega) q2 b9 hb9]
        have ec : (fun r => btL ((gL1 g 5 (8 * base + i) x).2 5 (8 * (base + r) + w)) b9) = (fun r => btL (g.2 5 (8 * (base + r) + w)) b9) := by
          funext r
          rw [gL1_s, if_neg (by omega)]
        rw [ec]
    · intro j hj
      rw [d' j (by omega), gL1_s, if_neg (by omega)]
theorem c_joinCount {g : gG} {n h m : Nat} (hh : h ≤ 120) (h1 : 1 ≤ n) (h4 : n ≤ 4) (hm1 : 1 ≤ m) (hm : m ≤ h) (e1 : g.1 4 1 = nI h) : ∃ g', f_X7_joinByCount (nI n) (nI m) g = some ((), gI1 g' 4 1 (nI (h - m + 1))) ∧ g'.1 = g.1 ∧ (∀ j, j ≠ 5 → g'.2 j = g.2 j) ∧ (∀ w, w < 8 → ∀ b, b < 64 → btL (g'.2 5 (8 * (h - m) + w)) b = decide (n ≤ cnt (fun r => btL (g.2 5 (8 * (h - m + r) + w)) b) m)) ∧ ∀ j, (j < 8 * (h - m) ∨ 8 * (h - m) + 8 ≤ j) → g'.2 5 j = g.2 5 j := by
  unfold f_X7_joinByCount
  rw [if_neg (show ¬ (nI m < (1 : Int32)) from nI_nlt (b := 1) hm1 (by omega)), e1, if_pos (nI_le hm (by omega)), pk_sub hm]
  simp only [gl_eq]
  obtain ⟨g', e, a, b, c, d⟩ := c_count_l (n := n) (base := h - m) hh h1 h4 (by omega) 8 g 0 gFuel (by omega) (by unfold gFuel; omega) e1
  refine ⟨g', e, a, b, fun w hw b9 hb9 => ?_, fun j hj => d j (by omega)⟩
  rw [c w (by omega) hw b9 hb9, show h - (h - m) = m by omega]
theorem c_keep_l {p : Nat} (hp : 1 ≤ p) (hp2 : p ≤ 10) (v : Nat → Int64) (d : Nat) : ∀ (g : gG) i fu, i + d = 8 → d < fu → g.1 3 10 = nI p → (∀ w, i ≤ w → w < 8 → g.2 5 w = v w) → ∃ g', fb_X2_keepCondition_2 fu (nI i) g = some ((), g') ∧ lw g g' 8 (8 * (p - 1)) i v := by
  induction d with
  | zero =>
    intro g i fu hi hf e1 hv
    obtain ⟨fu, rfl⟩ : ∃ f', fu = f' + 1 := ⟨fu - 1, by omega⟩
    have e : i = 8 := by omega
    subst e
    refine ⟨g, ?_, lw_0 _ _ _ _⟩
    unfold fb_X2_keepCondition_2 fs_X2_keepCondition_2
    rw [if_pos (by decide)]
  | succ d ih =>
    intro g i fu hi hf e1 hv
    obtain ⟨fu, rfl⟩ : ∃ f', fu = f' + 1 := ⟨fu - 1, by omega⟩
    obtain ⟨g', e, l⟩ := ih (gL1 g 8 (8 * (p - 1) + i) (v i)) (i + 1) fu (by omega) (by omega) e1 (fun w h3 h2 => by rw [gL1_n (by decide)]; exact hv w (by omega) h2)
    refine ⟨g', ?_, lw_s (by omega) l⟩
    unfold fb_X2_keepCondition_2 fs_X2_keepCondition_2 f_X7_result
    rw [if_neg (show ¬ ((8 : Int32) ≤ nI i) from nI_ge (b := 8) (by omega) (by decide)), if_neg (nI_pos (by omega)), if_neg (show ¬ ((8 : Int32) ≤ nI i) from nI_ge (b := 8) (by omega) (by decide)), if_pos (inb_nI (by omega) (by decide)), nI_clamp (by omega)]
    simp only [ob_eq]
    rw [e1, idx8' hp, if_pos (inb_nI (by omega) (by decide)), nI_clamp (by omega), hv i (Nat.le_refl _) (by omega)]
    simp only [gl_eq, nI_1]
    exact e
theorem c_keepCond {g : gG} {p : Nat} (hp : 1 ≤ p) (hp2 : p ≤ 10) (e1 : g.1 3 10 = nI p) : ∃ g', f_X2_keepCondition g = some ((), g') ∧ lw g g' 8 (8 * (p - 1)) 0 (fun w => g.2 5 w) := by
  unfold f_X2_keepCondition
  exact c_keep_l hp hp2 _ 8 g 0 gFuel (by omega) (by unfold gFuel; omega) e1 (fun w _ _ => rfl)
