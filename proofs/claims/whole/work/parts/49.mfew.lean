/-! PURE: the reference lays the fewest visits and the orders. -/
def FARv (o : Option Nat) : Nat := o.getD 99999999
def oLe (B : Nat) (o : Option Nat) : Prop := ∀ x, o = some x → x ≤ B
theorem oLe_omin {B : Nat} {a b : Option Nat} (ha : oLe B a) (hb : oLe B b) : oLe B (omin a b) := by
  intro x h
  cases a with
  | none => exact hb x h
  | some y =>
    cases b with
    | none => exact ha x h
    | some z =>
      have h : some (if z < y then z else y) = some x := h
      have h := Option.some.inj h
      have h1 := ha y rfl
      have h2 := hb z rfl
      split at h <;> omega
theorem oLe_min {B : Nat} {v : Nat → Option Nat} {k : Nat} (h : ∀ p, p < k → oLe B (v p)) : oLe B (minO v k) := by
  induction k with
  | zero => intro x hx; cases hx
  | succ k ih => exact oLe_omin (ih (fun p hp => h p (by omega))) (h k (by omega))
theorem FARv_lt {B : Nat} {o : Option Nat} (h : oLe B o) (hB : B < 99999999) : FARv o ≤ 99999999 := by
  cases o with
  | none => exact Nat.le_refl _
  | some x =>
    have := h x rfl
    show x ≤ _
    omega
theorem FARv_far {B : Nat} {o : Option Nat} (h : oLe B o) (hB : B < 99999999) : 99999999 ≤ FARv o ↔ o = none := by
  cases o with
  | none => exact ⟨fun _ => rfl, fun _ => Nat.le_refl _⟩
  | some x =>
    have h1 := h x rfl
    constructor
    · intro h2
      have h2 : 99999999 ≤ x := h2
      omega
    · intro h2; cases h2
theorem far_step {A : Option Nat} {y : Nat} (hy : y < 99999999) : (if FARv A ≤ y then FARv A else y) = FARv (omin A (some y)) := by
  cases A with
  | none =>
    show (if 99999999 ≤ y then 99999999 else y) = y
    rw [if_neg (by omega)]
  | some x =>
    show (if x ≤ y then x else y) = (if y < x then y else x)
    split <;> split <;> omega
section MFW
variable {r n : Nat} {H : Nat → Nat → Bool}
def fwI (n : Nat) (H : Nat → Nat → Bool) (s i : Nat) : Option Nat := omin (if H (n - 1) s = true then some 1 else none) (minO (fewC n H s) i)
def orI (n : Nat) (H : Nat → Nat → Bool) (s i : Nat) : Nat := (if H (n - 1) s = true then 1 else 0) + sumN (fun p => if canV n H s p = true then (wOf n H (s ||| 2 ^ p)).2.1 else 0) i
theorem fwI_le (h2 : 2 ≤ n) (hn : n ≤ 10) {s i : Nat} (hs : s < 2 ^ n) (hi : i ≤ n) : oLe 11 (fwI n H s i) := by
  refine oLe_omin ?_ (oLe_min (fun p hp x hx => fewC_le h2 hn hs (by omega) hx))
  intro x hx
  split at hx
  · cases hx; omega
  · cases hx
theorem fwI_end (h2 : 2 ≤ n) {s : Nat} (hs : s < 2 ^ n) (hc : s.testBit (n - 1) = false) : fwI n H s (n - 1) = fewO n H s := by
  have e : fewO n H s = omin (minO (fewC n H s) (n - 1)) (fewC n H s (n - 1)) := by
    unfold fewO
    obtain ⟨m, rfl⟩ : ∃ m, n = m + 1 := ⟨n - 1, by omega⟩
    rfl
  rw [e, omin_comm, fewC_chest h2 hs hc]
  rfl
theorem orI_end (h2 : 2 ≤ n) (hn : n ≤ 10) {s : Nat} (hs : s < 2 ^ n) (hc : s.testBit (n - 1) = false) : orI n H s (n - 1) = (wOf n H s).2.1 := by
  rw [wOf_ord hn hs hc]
  obtain ⟨m, rfl⟩ : ∃ m, n = m + 1 := ⟨n - 1, by omega⟩
  show orI (m + 1) H s m = sumN _ m + _
  have e1 := canV_chest (n := m + 1) (H := H) hc
  have e2 := chest_end (n := m + 1) (H := H) hs h2
  rw [show m + 1 - 1 = m from rfl] at e1 e2
  unfold orI
  dsimp only
  rw [e1, e2]
  show (if H m s = true then 1 else 0) + _ = _
  exact Nat.add_comm _ _
theorem orI_lt (h2 : 2 ≤ n) (hn : n ≤ 10) {s i : Nat} (hs : s < 2 ^ n) (hc : s.testBit (n - 1) = false) (hi : i ≤ n - 1) : orI n H s i < 2 ^ 30 := by
  have h := orI_end (H := H) h2 hn hs hc
  have h3 := (wOf_small H h2 hn hs).2.1
  have h4 := sumN_mono (v := fun p => if canV n H s p = true then (wOf n H (s ||| 2 ^ p)).2.1 else 0) hi
  unfold orI at h ⊢
  omega
theorem chest_of {n s : Nat} (hs : s < 2 ^ (n - 1)) : s.testBit (n - 1) = false := Nat.testBit_lt_two_pow hs
theorem two_n {n : Nat} (h2 : 2 ≤ n) : 2 ^ n = 2 * 2 ^ (n - 1) := by
  obtain ⟨m, rfl⟩ : ∃ m, n = m + 1 := ⟨n - 1, by omega⟩
  rw [Nat.pow_succ, Nat.add_sub_cancel, Nat.mul_comm]
/-- what the rows hold of a set -/
def fwR (n : Nat) (H : Nat → Nat → Bool) (g : gG) (s : Nat) : Prop := g.1 190 s = nI (FARv (fewO n H s)) ∧ g.1 191 s = nI (wOf n H s).2.1
theorem m_few_in (h2 : 2 ≤ n) (hn : n ≤ 10) (hr : r < 190 ∨ 192 ≤ r) {s : Nat} (hs : s < 2 ^ (n - 1)) (F11 : Int32 → Int32 → gG → Option (Unit × gG)) (d : Nat) : ∀ (g : gG) i fu, i + d = n - 1 → d < fu → mH (g.1 r) n H → (∀ s', s < s' → s' < 2 ^ (n - 1) → fwR n H g s') → g.1 190 s = nI (FARv (fwI n H s i)) → g.1 191 s = nI (orI n H s i) → ∃ g', fb_X10_layFewest_59 r 394 F11 fu (nI (n - 1)) (nI s) (nI i) g = F11 (nI (n - 1)) (nI s + (-1 : Int32)) g' ∧ fwR n H g' s ∧ (∀ s', s' ≠ s → g'.1 190 s' = g.1 190 s' ∧ g'.1 191 s' = g.1 191 s') ∧ frm 190 192 g g' := by
  have h512 : 2 ^ (n - 1) ≤ 512 := Nat.pow_le_pow_right (n := 2) (j := 9) (by decide) (by omega)
  have hn2 := two_n h2
  have hsn : s < 2 ^ n := by omega
  have hc := chest_of hs
  induction d with
  | zero =>
    intro g i fu hi hf hH hG e1 e2
    obtain ⟨fu, rfl⟩ : ∃ f', fu = f' + 1 := ⟨fu - 1, by omega⟩
    have e : i = n - 1 := by omega
    subst e
    rw [fwI_end h2 hsn hc] at e1
    rw [orI_end h2 hn hsn hc] at e2
    refine ⟨g, ?_, ⟨e1, e2⟩, fun s' _ => ⟨rfl, rfl⟩, frm.rf⟩
    unfold fb_X10_layFewest_59 fs_X10_layFewest_59
    rw [if_pos (nI_le (Nat.le_refl _) (by omega))]
    simp only [gl_eq]
  | succ d ih =>
    intro g i fu hi hf hH hG e1 e2
    obtain ⟨fu, rfl⟩ : ∃ f', fu = f' + 1 := ⟨fu - 1, by omega⟩
    unfold fb_X10_layFewest_59 fs_X10_layFewest_59
    rw [if_neg (nI_ge (by omega) (by omega)), m_canVisit hH h2 hn (by omega) (by omega)]
    simp only [ob_eq]
    have eo : orI n H s (i + 1) = orI n H s i + (if canV n H s i = true then (wOf n H (s ||| 2 ^ i)).2.1 else 0) := by
      unfold orI
      rw [sumN]; omega
    have ef : fwI n H s (i + 1) = omin (fwI n H s i) (fewC n H s i) := by
      unfold fwI
      rw [minO, omin_assoc]
    cases hv : canV n H s i with
    | false =>
      have ec : fewC n H s i = none := by unfold fewC; rw [hv]; simp
      rw [hv] at eo
      rw [ec, omin_r] at ef
      obtain ⟨g', a, b, c, d'⟩ := ih g (i + 1) fu (by omega) (by omega) hH hG (by rw [ef]; exact e1) (by rw [eo]; exact e2)
      refine ⟨g', ?_, b, c, d'⟩
      rw [b2_f, if_pos rfl]
      simp only [gl_eq, nI_1]
      exact a
    | true =>
      have hlt : s ||| 2 ^ i < 2 ^ (n - 1) := or_lt hs (by omega)
      have hgt := or_gt (canV_bit hv)
      obtain ⟨f1, f2⟩ := hG _ hgt hlt
      have hO := fewC_map h2 hn hsn hc (by omega) hv
      have hOl : oLe 10 (fewO n H (s ||| 2 ^ i)) := by
        intro x hx
        have h3 := fewC_le h2 hn hsn (p := i) (x := x + 1) (by omega) (by rw [hO, hx]; rfl)
        omega
      have hA := fwI_le (H := H) h2 hn (s := s) (i := i) hsn (by omega)
      have hAl := FARv_lt hA (by decide)
      have hBl := FARv_lt hOl (by decide)
      have hz := orI_lt (H := H) h2 hn hsn hc (show i + 1 ≤ n - 1 by omega)
      rw [hv, if_pos rfl] at eo
      have key : ∀ v : Nat, v = FARv (fwI n H s (i + 1)) → fs_X10_layFewest_136 r 394 F11 (fb_X10_layFewest_59 r 394 F11 fu) (nI (n - 1)) (nI s) (nI i) (nI (s ||| 2 ^ i)) (nI s) (nI v) g = fb_X10_layFewest_59 r 394 F11 fu (nI (n - 1)) (nI s) (nI (i + 1)) (gI1 (gI1 g 190 s (nI v)) 191 s (nI (orI n H s (i + 1)))) := by
        intro v hv2
        unfold fs_X10_layFewest_136
        rw [inb_nI (show s < 512 by omega) (by decide), inb_nI (show s ||| 2 ^ i < 512 by omega) (by decide)]
        simp only [if_true, gl_eq, nI_clamp (n := s) (by omega), nI_clamp (n := s ||| 2 ^ i) (by omega), nI_1]
        have q1 : (gI1 g 190 s (nI v)).1 191 = g.1 191 := by rw [gI1_1, if_neg (by decide)]
        rw [q1, e2, f2, nI_add, eo]
      have fin : ∀ v : Nat, v = FARv (fwI n H s (i + 1)) → ∃ g', fs_X10_layFewest_136 r 394 F11 (fb_X10_layFewest_59 r 394 F11 fu) (nI (n - 1)) (nI s) (nI i) (nI (s ||| 2 ^ i)) (nI s) (nI v) g = F11 (nI (n - 1)) (nI s + (-1 : Int32)) g' ∧ fwR n H g' s ∧ (∀ s', s' ≠ s → g'.1 190 s' = g.1 190 s' ∧ g'.1 191 s' = g.1 191 s') ∧ frm 190 192 g g' := by
        intro v hv2
        rw [key v hv2]
        have fr1 : frm 190 192 g (gI1 (gI1 g 190 s (nI v)) 191 s (nI (orI n H s (i + 1)))) := (frm.rf.i1 (by omega) (by omega)).i1 (by omega) (by omega)
        have o1 : ∀ s', s' ≠ s → (gI1 (gI1 g 190 s (nI v)) 191 s (nI (orI n H s (i + 1)))).1 190 s' = g.1 190 s' ∧ (gI1 (gI1 g 190 s (nI v)) 191 s (nI (orI n H s (i + 1)))).1 191 s' = g.1 191 s' := by
          intro s' hne
          refine ⟨?_, ?_⟩
          · rw [gI1_1, if_neg (by decide), gI1_1, if_pos rfl]; unfold upd; rw [if_neg hne]
          · rw [gI1_1, if_pos rfl]; unfold upd; rw [if_neg hne, gI1_1, if_neg (by decide)]
        obtain ⟨g', a, b, c, d'⟩ := ih (gI1 (gI1 g 190 s (nI v)) 191 s (nI (orI n H s (i + 1)))) (i + 1) fu (by omega) (by omega) (by rw [fr1.1 r (by omega)]; exact hH) (by
          intro s' h3 h4
          have h5 := o1 s' (by omega)
          have h6 := hG s' h3 h4
          exact ⟨h5.1.trans h6.1, h5.2.trans h6.2⟩) (by
          rw [gI1_1, if_neg (by decide), gI1_1, if_pos rfl]; unfold upd; rw [if_pos rfl, hv2]) (by
          rw [gI1_1, if_pos rfl]; unfold upd; rw [if_pos rfl])
        exact ⟨g', a, b, fun s' hne => ⟨(c s' hne).1.trans (o1 s' hne).1, (c s' hne).2.trans (o1 s' hne).2⟩, fr1.tr d'⟩
      have same : ∀ h : FARv (fwI n H s i) = FARv (fwI n H s (i + 1)), ∃ g', fs_X10_layFewest_130 r 394 F11 (fb_X10_layFewest_59 r 394 F11 fu) (nI (n - 1)) (nI s) (nI i) (nI (s ||| 2 ^ i)) (nI s) g = F11 (nI (n - 1)) (nI s + (-1 : Int32)) g' ∧ fwR n H g' s ∧ (∀ s', s' ≠ s → g'.1 190 s' = g.1 190 s' ∧ g'.1 191 s' = g.1 191 s') ∧ frm 190 192 g g' := by
        intro h
        unfold fs_X10_layFewest_130
        rw [if_pos (inb_nI (show s < 512 by omega) (by decide)), nI_clamp (by omega), e1]
        exact fin _ h
      rw [b2_t, if_neg (by decide), show (1 : Int32) <<< (nI i &&& 31) = nI (2 ^ i) from nI_shl1 (by omega), fa_or]
      simp only [gl_eq]
      rw [inb_nI (show s ||| 2 ^ i < 512 by omega) (by decide), inb_nI (show s < 512 by omega) (by decide)]
      simp only [if_true, nI_clamp (n := s) (by omega), nI_clamp (n := s ||| 2 ^ i) (by omega)]
      rw [f1, e1]
      cases ex : fewO n H (s ||| 2 ^ i) with
      | none =>
        rw [show FARv none = 99999999 from rfl, if_pos (show (99999999 : Int32) ≤ nI 99999999 from nI_le (Nat.le_refl _) (by decide))]
        refine same ?_
        rw [ef, hO, ex]
        show _ = FARv (omin _ none)
        rw [omin_r]
      | some y =>
        have hy := hOl y ex
        rw [show FARv (some y) = y from rfl, if_neg (show ¬ ((99999999 : Int32) ≤ nI y) from nI_ge (b := 99999999) (by omega) (by decide)), nI_1]
        have est := far_step (A := fwI n H s i) (y := y + 1) (by omega)
        have e5 : fwI n H s (i + 1) = omin (fwI n H s i) (some (y + 1)) := by rw [ef, hO, ex]; rfl
        rw [← e5] at est
        by_cases hle : FARv (fwI n H s i) ≤ y + 1
        · rw [if_pos (nI_le hle (by omega))]
          rw [if_pos hle] at est
          exact same est
        · rw [if_neg (nI_ge (by omega) (by omega))]
          rw [if_neg hle] at est
          exact fin _ est
theorem m_few_out (h2 : 2 ≤ n) (hn : n ≤ 10) (hr : r < 190 ∨ 192 ≤ r) (m : Nat) : ∀ (g : gG) fu, mH (g.1 r) n H → m ≤ 2 ^ (n - 1) → m < fu → (∀ s', m ≤ s' → s' < 2 ^ (n - 1) → fwR n H g s') → ∃ g', fb_X10_layFewest_11 r 394 fu (nI (n - 1)) (dn m) g = some ((), g') ∧ (∀ s', s' < 2 ^ (n - 1) → fwR n H g' s') ∧ frm 190 192 g g' := by
  have h512 : 2 ^ (n - 1) ≤ 512 := Nat.pow_le_pow_right (n := 2) (j := 9) (by decide) (by omega)
  induction m with
  | zero =>
    intro g fu hH hm hf hG
    obtain ⟨fu, rfl⟩ : ∃ f', fu = f' + 1 := ⟨fu - 1, by omega⟩
    refine ⟨g, ?_, fun s' hs => hG s' (by omega) hs, frm.rf⟩
    unfold fb_X10_layFewest_11 fs_X10_layFewest_11
    rw [if_pos (show dn 0 < (0 : Int32) by decide)]
  | succ m ih =>
    intro g fu hH hm hf hG
    obtain ⟨fu, rfl⟩ : ∃ f', fu = f' + 1 := ⟨fu - 1, by omega⟩
    unfold fb_X10_layFewest_11 fs_X10_layFewest_11
    rw [dn_s, if_neg (nI_pos (by omega)), m_isHeld hH hn (by omega) (by omega)]
    simp only [ob_eq, gl_eq]
    have go : ∀ a b : Nat, a = FARv (fwI n H m 0) → b = orI n H m 0 → ∃ g', fb_X10_layFewest_59 r 394 (fb_X10_layFewest_11 r 394 fu) gFuel (nI (n - 1)) (nI m) (nI 0) (gI1 (gI1 g 190 m (nI a)) 191 m (nI b)) = some ((), g') ∧ (∀ s', s' < 2 ^ (n - 1) → fwR n H g' s') ∧ frm 190 192 g g' := by
      intro a b ha hb
      have fr1 : frm 190 192 g (gI1 (gI1 g 190 m (nI a)) 191 m (nI b)) := (frm.rf.i1 (by omega) (by omega)).i1 (by omega) (by omega)
      have o1 : ∀ s', s' ≠ m → (gI1 (gI1 g 190 m (nI a)) 191 m (nI b)).1 190 s' = g.1 190 s' ∧ (gI1 (gI1 g 190 m (nI a)) 191 m (nI b)).1 191 s' = g.1 191 s' := by
        intro s' hne
        refine ⟨?_, ?_⟩
        · rw [gI1_1, if_neg (by decide), gI1_1, if_pos rfl]; unfold upd; rw [if_neg hne]
        · rw [gI1_1, if_pos rfl]; unfold upd; rw [if_neg hne, gI1_1, if_neg (by decide)]
      obtain ⟨g1, a1, b1, c1, d1⟩ := m_few_in (r := r) (H := H) h2 hn hr (s := m) (by omega) (fb_X10_layFewest_11 r 394 fu) (n - 1) (gI1 (gI1 g 190 m (nI a)) 191 m (nI b)) 0 gFuel (by omega) (by unfold gFuel; omega) (by rw [fr1.1 r (by omega)]; exact hH) (by
        intro s' h3 h4
        have h5 := o1 s' (by omega)
        have h6 := hG s' (by omega) h4
        exact ⟨h5.1.trans h6.1, h5.2.trans h6.2⟩) (by
        rw [gI1_1, if_neg (by decide), gI1_1, if_pos rfl]; unfold upd; rw [if_pos rfl, ha]) (by
        rw [gI1_1, if_pos rfl]; unfold upd; rw [if_pos rfl, hb])
      have fr2 := fr1.tr d1
      obtain ⟨g2, a2, b2', c2⟩ := ih g1 fu (by rw [fr2.1 r (by omega)]; exact hH) (by omega) (by omega) (by
        intro s' h3 h4
        by_cases e9 : s' = m
        · rw [e9]; exact b1
        · have h5 := o1 s' e9
          have h7 := c1 s' e9
          have h6 := hG s' (by omega) h4
          exact ⟨h7.1.trans (h5.1.trans h6.1), h7.2.trans (h5.2.trans h6.2)⟩)
      refine ⟨g2, ?_, b2', fr2.tr c2⟩
      rw [a1, dn_m]
      exact a2
    cases eH : H (n - 1) m with
    | false =>
      rw [b2_f, if_pos rfl]
      unfold fs_X10_layFewest_39 fs_X10_layFewest_55
      rw [inb_nI (show m < 512 by omega) (by decide)]
      simp only [if_true, gl_eq, nI_clamp (n := m) (by omega)]
      refine go 99999999 0 ?_ ?_
      · unfold fwI; rw [eH]; rfl
      · unfold orI; rw [eH]; rfl
    | true =>
      rw [b2_t, if_neg (by decide)]
      unfold fs_X10_layFewest_39 fs_X10_layFewest_55
      rw [inb_nI (show m < 512 by omega) (by decide)]
      simp only [if_true, gl_eq, nI_clamp (n := m) (by omega)]
      rw [if_neg (show ¬ ((1 : Int32) = 0) by decide)]
      refine go 1 1 ?_ ?_
      · unfold fwI; rw [eH]; rfl
      · unfold orI; rw [eH]; rfl
theorem m_layFewest {g : gG} (h2 : 2 ≤ n) (hn : n ≤ 10) (hr : r < 190 ∨ 192 ≤ r) (hH : mH (g.1 r) n H) : ∃ g', f_X10_layFewest r 394 g = some ((), g') ∧ (∀ s', s' < 2 ^ (n - 1) → fwR n H g' s') ∧ frm 190 192 g g' := by
  have h512 : 2 ^ (n - 1) ≤ 512 := Nat.pow_le_pow_right (n := 2) (j := 9) (by decide) (by omega)
  obtain ⟨g', e, a, c⟩ := m_few_out (r := r) (H := H) h2 hn hr (2 ^ (n - 1)) g gFuel hH (Nat.le_refl _) (by unfold gFuel; omega) (fun s' h3 h4 => by omega)
  refine ⟨g', ?_, a, c⟩
  unfold f_X10_layFewest
  rw [m_chest hH h2]
  simp only [ob_eq, gl_eq]
  rw [show (1 : Int32) <<< (nI (n - 1) &&& 31) = nI (2 ^ (n - 1)) from nI_shl1 (by omega)]
  exact e
end MFW
