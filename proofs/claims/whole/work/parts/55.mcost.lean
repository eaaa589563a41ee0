/-! PURE: the reference lays costs. -/
section MC
variable {r n : Nat} {hm : Nat → Nat} {S : aS}
def frO (n q : Nat) : Option Nat := if q < n - 1 then some q else none
def coR (n : Nat) (H : Nat → Nat → Bool) (S : aS) (g : gG) (s : Nat) : Prop := ∀ q, q ≤ 10 → g.1 192 (11 * s + q) = nI (FARv (qOf n H S s (frO n q)))
/-- what stands at a row: places and the hunt -/
theorem m_costBy {g : gG} (h2 : 2 ≤ n) (hn : n ≤ 10) (h : mS (g.1 r) n hm S) (ok : okS n S) {s : Nat} (hs : s < 2 ^ (n - 1)) {fr : Option Nat} (hfr : ∀ q, fr = some q → q < n) {p : Nat} (hp : p < n) (hv : canV n (effH hm S.2.2.1) s p = true) (hG : ∀ s', s < s' → s' < 2 ^ (n - 1) → coR n (effH hm S.2.2.1) S g s') : f_X10_costBy r 394 (nI s) (frI fr) (nI p) g = some (nI (FARv (qV n (effH hm S.2.2.1) S s fr p)), g) := by
  have h512 : 2 ^ (n - 1) ≤ 512 := Nat.pow_le_pow_right (n := 2) (j := 9) (by decide) (by omega)
  have hfr10 : ∀ q, fr = some q → q < 10 := fun q hq => by have := hfr q hq; omega
  have hmi := m_minutes (r := r) (g := g) h ok hn hp hfr
  have hml := mns_le (S := S) ok.2.2.1 (fr := fr) (p := p) (by omega) hfr10
  have e30 : ∀ o : Option Nat, oLe 190 o → fs_X10_costBy_30 r 394 (frI fr) (nI p) (nI (FARv o)) g = some (nI (FARv (o.map (· + mns S fr p))), g) := by
    intro o ho
    unfold fs_X10_costBy_30
    cases o with
    | none =>
      rw [if_neg (show ¬ (nI (FARv none) < (99999999 : Int32)) from nI_nlt (b := 99999999) (Nat.le_refl _) (by decide))]
      rfl
    | some x =>
      have hx := ho x rfl
      rw [show FARv (some x) = x from rfl, if_pos (show nI x < (99999999 : Int32) from nI_lt (b := 99999999) (by omega) (by decide)), hmi]
      simp only [ob_eq]
      rw [nI_add]
      rfl
  have eV : qV n (effH hm S.2.2.1) S s fr p = (if p = n - 1 then some 0 else qOf n (effH hm S.2.2.1) S (s ||| 2 ^ p) (some p)).map (· + mns S fr p) := by
    unfold qV qC
    rw [if_pos hv]
  unfold f_X10_costBy
  rw [m_chest h.1 h2]
  simp only [ob_eq]
  by_cases e9 : p = n - 1
  · rw [if_pos (by rw [e9]), eV, if_pos e9]
    exact e30 (some 0) (fun x hx => by cases hx; omega)
  · have hlt : s ||| 2 ^ p < 2 ^ (n - 1) := or_lt hs (by omega)
    have e5 : (11 : Int32) * (nI s ||| nI (2 ^ p)) + nI p = nI (11 * (s ||| 2 ^ p) + p) := by
      show nI 11 * _ + _ = _
      rw [fa_or, pk_mul, nI_add]
    have e6 := hG _ (or_gt (canV_bit hv)) hlt p (by omega)
    have e7 : frO n p = some p := by unfold frO; rw [if_pos (by omega)]
    rw [e7] at e6
    rw [if_neg (fun e8 => e9 ((nI_eq (by omega) (by omega)).mp e8)), show (1 : Int32) <<< (nI p &&& 31) = nI (2 ^ p) from nI_shl1 (by omega), e5, if_pos (inb_nI (by omega) (by decide)), nI_clamp (by omega), e6, eV, if_neg e9]
    exact e30 _ (qOf_190 h2 hn ok.2.2.1 hlt (fun q hq => by cases hq; omega))
theorem m_costF_l {g : gG} (h2 : 2 ≤ n) (hn : n ≤ 10) (h : mS (g.1 r) n hm S) (ok : okS n S) {s : Nat} (hs : s < 2 ^ (n - 1)) {fr : Option Nat} (hfr : ∀ q, fr = some q → q < n) (hG : ∀ s', s < s' → s' < 2 ^ (n - 1) → coR n (effH hm S.2.2.1) S g s') (d : Nat) : ∀ i fu, i + d = n → d < fu → fb_X10_costFrom_7 r 394 fu (nI s) (frI fr) (nI (FARv (minO (qV n (effH hm S.2.2.1) S s fr) i))) (nI i) g = some (nI (FARv (qOf n (effH hm S.2.2.1) S s fr)), g) := by
  have h512 : 2 ^ (n - 1) ≤ 512 := Nat.pow_le_pow_right (n := 2) (j := 9) (by decide) (by omega)
  have hfr10 : ∀ q, fr = some q → q < 10 := fun q hq => by have := hfr q hq; omega
  have hle : ∀ i, i ≤ n → oLe 190 (minO (qV n (effH hm S.2.2.1) S s fr) i) := fun i hi => oLe_min (fun p hp => qV_190 h2 hn ok.2.2.1 hs hfr10 (by omega))
  induction d with
  | zero =>
    intro i fu hi hf
    obtain ⟨fu, rfl⟩ : ∃ f', fu = f' + 1 := ⟨fu - 1, by omega⟩
    have e : i = n := by omega
    subst e
    unfold fb_X10_costFrom_7 fs_X10_costFrom_7
    rw [if_pos (inb0 (by decide) (by decide)), clamp0, h.1.1, if_pos (nI_le (Nat.le_refl _) (by omega)), qOf_eq _ _ _ hs]
  | succ d ih =>
    intro i fu hi hf
    obtain ⟨fu, rfl⟩ : ∃ f', fu = f' + 1 := ⟨fu - 1, by omega⟩
    have hgo := ih (i + 1) fu (by omega) (by omega)
    rw [minO] at hgo
    have hA := hle i (by omega)
    have hAl := FARv_lt hA (by decide)
    have fin : ∀ o : Option Nat, oLe 190 o → o = qV n (effH hm S.2.2.1) S s fr i → fs_X10_costFrom_39 r 394 (fb_X10_costFrom_7 r 394 fu) (nI s) (frI fr) (nI (FARv (minO (qV n (effH hm S.2.2.1) S s fr) i))) (nI i) (nI (FARv o)) g = some (nI (FARv (qOf n (effH hm S.2.2.1) S s fr)), g) := by
      intro o ho he
      have hol := FARv_lt ho (by decide)
      rw [← he] at hgo
      unfold fs_X10_costFrom_39 fs_X10_costFrom_55
      simp only [gl_eq, nI_1]
      cases o with
      | none =>
        rw [omin_r] at hgo
        rw [if_pos (nI_le (show FARv _ ≤ FARv none from hAl) (by omega))]
        exact hgo
      | some y =>
        have hy := ho y rfl
        have est := far_step (A := minO (qV n (effH hm S.2.2.1) S s fr) i) (y := y) (by omega)
        rw [← est] at hgo
        by_cases hc : FARv (minO (qV n (effH hm S.2.2.1) S s fr) i) ≤ y
        · rw [if_pos (nI_le (show _ ≤ FARv (some y) from hc) (by omega))]
          rw [if_pos hc] at hgo
          exact hgo
        · rw [if_neg (nI_ge (show FARv (some y) < _ from Nat.lt_of_not_le hc) (by omega))]
          rw [if_neg hc] at hgo
          exact hgo
    unfold fb_X10_costFrom_7 fs_X10_costFrom_7
    rw [if_pos (inb0 (by decide) (by decide)), clamp0, h.1.1, if_neg (nI_ge (by omega) (by omega)), m_canVisit h.1 h2 hn (by omega) (by omega)]
    simp only [ob_eq]
    cases hv : canV n (effH hm S.2.2.1) s i with
    | false =>
      rw [b2_f, if_pos rfl]
      exact fin none (fun x hx => by cases hx) (by unfold qV qC; rw [hv]; rfl)
    | true =>
      rw [b2_t, if_neg (by decide), m_costBy h2 hn h ok hs hfr (by omega) hv hG]
      simp only [ob_eq]
      exact fin _ (qV_190 h2 hn ok.2.2.1 hs hfr10 (by omega)) rfl
theorem m_costFrom {g : gG} (h2 : 2 ≤ n) (hn : n ≤ 10) (h : mS (g.1 r) n hm S) (ok : okS n S) {s : Nat} (hs : s < 2 ^ (n - 1)) {fr : Option Nat} (hfr : ∀ q, fr = some q → q < n) (hG : ∀ s', s < s' → s' < 2 ^ (n - 1) → coR n (effH hm S.2.2.1) S g s') : f_X10_costFrom r 394 (nI s) (frI fr) g = some (nI (FARv (qOf n (effH hm S.2.2.1) S s fr)), g) := by
  unfold f_X10_costFrom
  exact m_costF_l h2 hn h ok hs hfr hG n 0 gFuel (by omega) (by unfold gFuel; omega)
theorem m_layC_in (h2 : 2 ≤ n) (hn : n ≤ 10) (hr : r ≠ 192) (ok : okS n S) {s : Nat} (hs : s < 2 ^ (n - 1)) (F11 : Int32 → Int32 → gG → Option (Unit × gG)) (d : Nat) : ∀ (g : gG) i fu, i + d = 11 → d < fu → mS (g.1 r) n hm S → (∀ s', s < s' → s' < 2 ^ (n - 1) → coR n (effH hm S.2.2.1) S g s') → (∀ q, q < i → g.1 192 (11 * s + q) = nI (FARv (qOf n (effH hm S.2.2.1) S s (frO n q)))) → ∃ g', fb_X10_layCost_18 r 394 F11 fu (nI (n - 1)) (nI s) (nI i) g = F11 (nI (n - 1)) (nI s + (-1 : Int32)) g' ∧ (∀ s', s ≤ s' → s' < 2 ^ (n - 1) → coR n (effH hm S.2.2.1) S g' s') ∧ frm 192 193 g g' := by
  have h512 : 2 ^ (n - 1) ≤ 512 := Nat.pow_le_pow_right (n := 2) (j := 9) (by decide) (by omega)
  induction d with
  | zero =>
    intro g i fu hi hf h hG hI
    obtain ⟨fu, rfl⟩ : ∃ f', fu = f' + 1 := ⟨fu - 1, by omega⟩
    have e : i = 11 := by omega
    subst e
    refine ⟨g, ?_, ?_, frm.rf⟩
    · unfold fb_X10_layCost_18 fs_X10_layCost_18
      rw [if_pos (show (10 : Int32) < nI 11 by decide)]
      simp only [gl_eq]
    · intro s' h1 h3
      by_cases e9 : s' = s
      · rw [e9]; exact fun q hq => hI q (by omega)
      · exact hG s' (by omega) h3
  | succ d ih =>
    intro g i fu hi hf h hG hI
    obtain ⟨fu, rfl⟩ : ∃ f', fu = f' + 1 := ⟨fu - 1, by omega⟩
    have e1 := m_costFrom (r := r) (g := g) h2 hn h ok hs (fr := frO n i) (fun q hq => by
      unfold frO at hq
      split at hq
      · cases hq; omega
      · cases hq) hG
    have fr1 : frm 192 193 g (gI1 g 192 (11 * s + i) (nI (FARv (qOf n (effH hm S.2.2.1) S s (frO n i))))) := frm.rf.i1 (by omega) (by omega)
    obtain ⟨g', a, b, c⟩ := ih (gI1 g 192 (11 * s + i) (nI (FARv (qOf n (effH hm S.2.2.1) S s (frO n i))))) (i + 1) fu (by omega) (by omega) (by rw [fr1.1 r (by omega)]; exact h) (by
      intro s' h1 h3 q hq
      rw [r_self, if_neg (by omega)]; exact hG s' h1 h3 q hq) (by
      intro q hq
      rw [r_self]
      by_cases e9 : q = i
      · rw [e9, if_pos rfl]
      · rw [if_neg (by omega)]; exact hI q (by omega))
    refine ⟨g', ?_, b, fr1.tr c⟩
    have e5 : (11 : Int32) * nI s + nI i = nI (11 * s + i) := by
      show nI 11 * _ + _ = _
      rw [pk_mul, nI_add]
    have go : fs_X10_layCost_52 r 394 F11 (fb_X10_layCost_18 r 394 F11 fu) (nI (n - 1)) (nI s) (nI i) (nI (11 * s + i)) (nI s) (frI (frO n i)) g = F11 (nI (n - 1)) (nI s + (-1 : Int32)) g' := by
      unfold fs_X10_layCost_52
      rw [e1]
      simp only [ob_eq]
      rw [if_pos (inb_nI (by omega) (by decide)), nI_clamp (by omega)]
      simp only [gl_eq, nI_1]
      exact a
    unfold fb_X10_layCost_18 fs_X10_layCost_18
    rw [if_neg (show ¬ ((10 : Int32) < nI i) from nI_nlt (a := 10) (by omega) (by decide)), e5]
    by_cases hc : n - 1 ≤ i
    · rw [if_pos (nI_le hc (by omega))]
      have e9 : frO n i = none := by unfold frO; rw [if_neg (by omega)]
      rw [e9] at go
      exact go
    · rw [if_neg (nI_ge (by omega) (by omega))]
      have e9 : frO n i = some i := by unfold frO; rw [if_pos (by omega)]
      rw [e9] at go
      exact go
theorem m_layC_out (h2 : 2 ≤ n) (hn : n ≤ 10) (hr : r ≠ 192) (ok : okS n S) (m : Nat) : ∀ (g : gG) fu, mS (g.1 r) n hm S → m ≤ 2 ^ (n - 1) → m < fu → (∀ s', m ≤ s' → s' < 2 ^ (n - 1) → coR n (effH hm S.2.2.1) S g s') → ∃ g', fb_X10_layCost_11 r 394 fu (nI (n - 1)) (dn m) g = some ((), g') ∧ (∀ s', s' < 2 ^ (n - 1) → coR n (effH hm S.2.2.1) S g' s') ∧ frm 192 193 g g' := by
  have h512 : 2 ^ (n - 1) ≤ 512 := Nat.pow_le_pow_right (n := 2) (j := 9) (by decide) (by omega)
  induction m with
  | zero =>
    intro g fu h hm9 hf hG
    obtain ⟨fu, rfl⟩ : ∃ f', fu = f' + 1 := ⟨fu - 1, by omega⟩
    refine ⟨g, ?_, fun s' hs => hG s' (by omega) hs, frm.rf⟩
    unfold fb_X10_layCost_11 fs_X10_layCost_11
    rw [if_pos (show dn 0 < (0 : Int32) by decide)]
  | succ m ih =>
    intro g fu h hm9 hf hG
    obtain ⟨fu, rfl⟩ : ∃ f', fu = f' + 1 := ⟨fu - 1, by omega⟩
    obtain ⟨g1, a1, b1, c1⟩ := m_layC_in (r := r) (hm := hm) h2 hn hr ok (s := m) (by omega) (fb_X10_layCost_11 r 394 fu) 11 g 0 gFuel (by omega) (by unfold gFuel; omega) h (fun s' h1 h3 => hG s' (by omega) h3) (fun q hq => by omega)
    obtain ⟨g2, a2, b2', c2⟩ := ih g1 fu (by rw [c1.1 r (by omega)]; exact h) (by omega) (by omega) (fun s' h1 h3 => b1 s' h1 h3)
    refine ⟨g2, ?_, b2', c1.tr c2⟩
    unfold fb_X10_layCost_11 fs_X10_layCost_11
    rw [dn_s, if_neg (nI_pos (by omega)), show (0 : Int32) = nI 0 from rfl, a1, dn_m]
    exact a2
theorem m_layCost {g : gG} (h2 : 2 ≤ n) (hn : n ≤ 10) (hr : r ≠ 192) (h : mS (g.1 r) n hm S) (ok : okS n S) : ∃ g', f_X10_layCost r 394 g = some ((), g') ∧ (∀ s', s' < 2 ^ (n - 1) → coR n (effH hm S.2.2.1) S g' s') ∧ frm 192 193 g g' := by
  have h512 : 2 ^ (n - 1) ≤ 512 := Nat.pow_le_pow_right (n := 2) (j := 9) (by decide) (by omega)
  obtain ⟨g', e, a, c⟩ := m_layC_out (r := r) (hm := hm) h2 hn hr ok (2 ^ (n - 1)) g gFuel h (Nat.le_refl _) (by unfold gFuel; omega) (fun s' h3 h4 => by omega)
  refine ⟨g', ?_, a, c⟩
  unfold f_X10_layCost
  rw [m_chest h.1 h2]
  simp only [ob_eq, gl_eq]
  rw [show (1 : Int32) <<< (nI (n - 1) &&& 31) = nI (2 ^ (n - 1)) from nI_shl1 (by omega)]
  exact e
/-- the first place of a quickest way -/
theorem m_quick_l {g : gG} (h2 : 2 ≤ n) (hn : n ≤ 10) (h : mS (g.1 183) n hm S) (ok : okS n S) {s : Nat} (hs : s < 2 ^ (n - 1)) {fr : Option Nat} (hfr : ∀ q, fr = some q → q < n) (hG : ∀ s', s < s' → s' < 2 ^ (n - 1) → coR n (effH hm S.2.2.1) S g s') {m : Nat} (hm190 : m ≤ 190) (d : Nat) : ∀ i fu, i + d = n → d < fu → (∃ p, i ≤ p ∧ p < n ∧ qV n (effH hm S.2.2.1) S s fr p = some m) → fb_X10_quickest_127 fu (nI s) (frI fr) (nI m) (nI i) g = some (fFirst (fun p => decide (qV n (effH hm S.2.2.1) S s fr p = some m)) d i, g) := by
  have h512 : 2 ^ (n - 1) ≤ 512 := Nat.pow_le_pow_right (n := 2) (j := 9) (by decide) (by omega)
  have hfr10 : ∀ q, fr = some q → q < 10 := fun q hq => by have := hfr q hq; omega
  induction d with
  | zero =>
    intro i fu hi hf hx
    obtain ⟨p, h1, h3, _⟩ := hx
    omega
  | succ d ih =>
    intro i fu hi hf hx
    obtain ⟨fu, rfl⟩ : ∃ f', fu = f' + 1 := ⟨fu - 1, by omega⟩
    have nx : qV n (effH hm S.2.2.1) S s fr i ≠ some m → fb_X10_quickest_127 fu (nI s) (frI fr) (nI m) (nI (i + 1)) g = some (fFirst (fun p => decide (qV n (effH hm S.2.2.1) S s fr p = some m)) d (i + 1), g) := by
      intro hne
      refine ih (i + 1) fu (by omega) (by omega) ?_
      obtain ⟨p, h1, h3, h4⟩ := hx
      refine ⟨p, ?_, h3, h4⟩
      by_cases e9 : p = i
      · rw [e9] at h4; exact absurd h4 hne
      · omega
    unfold fb_X10_quickest_127 fs_X10_quickest_127 fFirst
    rw [m_canVisit h.1 h2 hn (by omega) (by omega)]
    simp only [ob_eq, gl_eq, nI_1]
    cases hv : canV n (effH hm S.2.2.1) s i with
    | false =>
      have e1 : qV n (effH hm S.2.2.1) S s fr i = none := by unfold qV qC; rw [hv]; rfl
      have hne : qV n (effH hm S.2.2.1) S s fr i ≠ some m := by rw [e1]; simp
      rw [b2_f, if_pos rfl, decide_eq_false hne, if_neg (by decide)]
      exact nx hne
    | true =>
      have hol := qV_190 (H := effH hm S.2.2.1) h2 hn ok.2.2.1 hs hfr10 (p := i) (by omega)
      have hlt := FARv_lt hol (by decide)
      rw [b2_t, if_neg (by decide), m_costBy h2 hn h ok hs hfr (by omega) hv hG]
      simp only [ob_eq]
      by_cases hE : qV n (effH hm S.2.2.1) S s fr i = some m
      · rw [hE, show FARv (some m) = m from rfl, if_pos rfl, decide_eq_true rfl, if_pos rfl]
      · rw [if_neg (fun e9 => hE (by
          have e8 := (nI_eq (by omega) (by omega)).mp e9
          cases e7 : qV n (effH hm S.2.2.1) S s fr i with
          | none => rw [e7] at e8; have e8 : 99999999 = m := e8; omega
          | some x => rw [e7] at e8; have e8 : x = m := e8; rw [e8])), decide_eq_false hE, if_neg (by decide)]
        exact nx hE
end MC
