/-! PURE: the quickest way. -/
def qC (n : Nat) (H : Nat → Nat → Bool) (S : aS) (s : Nat) (fr : Option Nat) (f : Nat → Option Nat → Option Nat) (p : Nat) : Option Nat := if canV n H s p = true then (if p = n - 1 then some 0 else f (s ||| 2 ^ p) (some p)).map (· + mns S fr p) else none
def qst (n : Nat) (H : Nat → Nat → Bool) (S : aS) (s : Nat) (f : Nat → Option Nat → Option Nat) : Option Nat → Option Nat := fun fr => minO (qC n H S s fr f) n
theorem qst_loc (n : Nat) (H : Nat → Nat → Bool) (S : aS) : loc (qst n H S) (2 ^ (n - 1)) := by
  intro s f f' hs h
  funext fr
  unfold qst
  refine minO_cong (fun p hp => ?_)
  unfold qC
  cases e : canV n H s p with
  | false => rfl
  | true =>
    rw [if_pos rfl, if_pos rfl]
    by_cases e9 : p = n - 1
    · rw [if_pos e9, if_pos e9]
    · rw [if_neg e9, if_neg e9, h _ (or_gt (canV_bit e)) (or_lt hs (by omega))]
def qOf (n : Nat) (H : Nat → Nat → Bool) (S : aS) (s : Nat) : Option Nat → Option Nat := Rr (fun _ => none) (qst n H S) (2 ^ (n - 1)) s
def qV (n : Nat) (H : Nat → Nat → Bool) (S : aS) (s : Nat) (fr : Option Nat) : Nat → Option Nat := qC n H S s fr (qOf n H S)
theorem qOf_eq (n : Nat) (H : Nat → Nat → Bool) (S : aS) {s : Nat} (hs : s < 2 ^ (n - 1)) (fr : Option Nat) : qOf n H S s fr = minO (qV n H S s fr) n := congrFun (Rr_eq (qst_loc n H S) hs) fr
def okX (S : aS) : Prop := ∀ p, p < 10 → S.1 p ≤ 9 ∧ S.2.1 p ≤ 9
theorem mns_le {S : aS} (ok : okX S) {fr : Option Nat} {p : Nat} (hp : p < 10) (hf : ∀ q, fr = some q → q < 10) : mns S fr p ≤ 19 := by
  have h1 := ok p hp
  unfold mns
  cases fr with
  | none =>
    show 1 + S.1 p + S.2.1 p ≤ 19
    omega
  | some q =>
    have h3 := ok q (hf q rfl)
    show 1 + adf (S.1 q) (S.1 p) + adf (S.2.1 q) (S.2.1 p) ≤ 19
    have e1 : adf (S.1 q) (S.1 p) ≤ 9 := by unfold adf; split <;> omega
    have e2 : adf (S.2.1 q) (S.2.1 p) ≤ 9 := by unfold adf; split <;> omega
    omega
theorem zrs_10 (n s : Nat) : zrs n s ≤ 10 := cnt_k _ 10
section QB
variable {n : Nat} {H : Nat → Nat → Bool} {S : aS}
theorem qOf_bnd (h2 : 2 ≤ n) (hn : n ≤ 10) (ok : okX S) (m : Nat) : ∀ s, s < 2 ^ (n - 1) → 2 ^ (n - 1) - s ≤ m → ∀ fr, (∀ q, fr = some q → q < 10) → oLe (19 * zrs n s) (qOf n H S s fr) ∧ ∀ p, p < n → oLe (19 * zrs n s) (qV n H S s fr p) := by
  have hn2 := two_n h2
  induction m with
  | zero => intro s hs hm; omega
  | succ m ih =>
    intro s hs hm fr hfr
    have hV : ∀ p, p < n → oLe (19 * zrs n s) (qV n H S s fr p) := by
      intro p hp x hx
      unfold qV qC at hx
      cases e : canV n H s p with
      | false => rw [e] at hx; cases hx
      | true =>
        have hb := canV_bit e
        have hz := zrs_or hn hp hb
        have hm9 := mns_le ok (fr := fr) (p := p) (by omega) hfr
        rw [e, if_pos rfl] at hx
        by_cases e9 : p = n - 1
        · rw [if_pos e9] at hx
          have hx : 0 + mns S fr p = x := Option.some.inj hx
          omega
        · rw [if_neg e9] at hx
          have hgt := or_gt hb
          have h3 := (ih (s ||| 2 ^ p) (or_lt hs (by omega)) (by omega) (some p) (fun q hq => by cases hq; omega)).1
          cases e8 : qOf n H S (s ||| 2 ^ p) (some p) with
          | none => rw [e8] at hx; cases hx
          | some y =>
            rw [e8] at hx
            have hx := Option.some.inj hx
            have := h3 y e8
            have hx : y + mns S fr p = x := hx
            omega
    refine ⟨?_, hV⟩
    rw [qOf_eq n H S hs]
    exact oLe_min hV
theorem qOf_190 (h2 : 2 ≤ n) (hn : n ≤ 10) (ok : okX S) {s : Nat} (hs : s < 2 ^ (n - 1)) {fr : Option Nat} (hfr : ∀ q, fr = some q → q < 10) : oLe 190 (qOf n H S s fr) := by
  intro x hx
  have := (qOf_bnd (H := H) h2 hn ok (2 ^ (n - 1)) s hs (by omega) fr hfr).1 x hx
  have := zrs_10 n s
  omega
theorem qV_190 (h2 : 2 ≤ n) (hn : n ≤ 10) (ok : okX S) {s : Nat} (hs : s < 2 ^ (n - 1)) {fr : Option Nat} (hfr : ∀ q, fr = some q → q < 10) {p : Nat} (hp : p < n) : oLe 190 (qV n H S s fr p) := by
  intro x hx
  have := (qOf_bnd (H := H) h2 hn ok (2 ^ (n - 1)) s hs (by omega) fr hfr).2 p hp x hx
  have := zrs_10 n s
  omega
theorem qOf_none (h2 : 2 ≤ n) (hn : n ≤ 10) (m : Nat) : ∀ s, s < 2 ^ (n - 1) → 2 ^ (n - 1) - s ≤ m → ∀ fr, (qOf n H S s fr = none ↔ fin n H none s = false) := by
  have hn2 := two_n h2
  induction m with
  | zero => intro s hs hm; omega
  | succ m ih =>
    intro s hs hm fr
    have hc := chest_of hs
    rw [qOf_eq n H S hs, minO_none]
    constructor
    · intro h
      cases e : fin n H none s with
      | false => rfl
      | true =>
        rcases (fin_iff h2 (by omega)).mp e with h1 | ⟨p, hp, h1, h3⟩
        · rw [hc] at h1; cases h1
        · have h5 := h p hp
          unfold qV qC at h5
          rw [if_pos h1] at h5
          by_cases e9 : p = n - 1
          · rw [if_pos e9] at h5; cases h5
          · rw [if_neg e9] at h5
            have hgt := or_gt (canV_bit h1)
            have h6 : qOf n H S (s ||| 2 ^ p) (some p) = none := by
              cases e8 : qOf n H S (s ||| 2 ^ p) (some p) with
              | none => rfl
              | some y => rw [e8] at h5; cases h5
            rw [(ih (s ||| 2 ^ p) (or_lt hs (by omega)) (by omega) (some p)).mp h6] at h3
            cases h3
    · intro h p hp
      unfold qV qC
      cases hv : canV n H s p with
      | false => rfl
      | true =>
        rw [if_pos rfl]
        have hno : ¬ fin n H none (s ||| 2 ^ p) = true := by
          intro h4
          rw [(fin_iff h2 (by omega)).mpr (Or.inr ⟨p, hp, hv, h4⟩)] at h
          cases h
        by_cases e9 : p = n - 1
        · refine absurd ?_ hno
          unfold fin
          rw [e9, Nat.testBit_or, Nat.testBit_two_pow_self]; simp
        · rw [if_neg e9]
          have hgt := or_gt (canV_bit hv)
          rw [(ih (s ||| 2 ^ p) (or_lt hs (by omega)) (by omega) (some p)).mpr (by
            cases e8 : fin n H none (s ||| 2 ^ p) with
            | false => rfl
            | true => exact absurd e8 hno)]
          rfl
/-- by a place that leads on there is a way, by others none -/
theorem qV_lead (h2 : 2 ≤ n) (hn : n ≤ 10) {s : Nat} (hs : s < 2 ^ (n - 1)) (fr : Option Nat) {p : Nat} (hp : p < n) : ((safe n H s).testBit p = true → qV n H S s fr p = some ((if p = n - 1 then 0 else (qOf n H S (s ||| 2 ^ p) (some p)).getD 0) + mns S fr p)) ∧ ((safe n H s).testBit p = false → qV n H S s fr p = none) := by
  have hn2 := two_n h2
  unfold safe
  rw [msk_bit]
  simp only [hp, decide_true, Bool.true_and]
  unfold qV qC
  cases hv : canV n H s p with
  | false => exact ⟨fun h => (by cases h), fun _ => rfl⟩
  | true =>
    rw [Bool.true_and, if_pos rfl]
    by_cases e9 : p = n - 1
    · rw [if_pos e9, if_pos e9]
      refine ⟨fun _ => rfl, fun h => ?_⟩
      unfold fin at h
      rw [e9, Nat.testBit_or, Nat.testBit_two_pow_self] at h
      simp at h
    · rw [if_neg e9, if_neg e9]
      have h3 := qOf_none (H := H) (S := S) h2 hn (2 ^ (n - 1)) (s ||| 2 ^ p) (or_lt hs (by omega)) (by omega) (some p)
      cases e8 : qOf n H S (s ||| 2 ^ p) (some p) with
      | none =>
        refine ⟨fun h => ?_, fun _ => rfl⟩
        rw [h3.mp e8] at h; cases h
      | some y =>
        refine ⟨fun _ => rfl, fun h => ?_⟩
        rw [h3.mpr h] at e8; cases e8
end QB
def fFirst (P : Nat → Bool) : Nat → Nat → Int32
  | 0, _ => -9
  | d + 1, i => if P i = true then nI i else fFirst P d (i + 1)
theorem fFirst_cong {P Q : Nat → Bool} : ∀ (d i : Nat), (∀ j, i ≤ j → j < i + d → P j = Q j) → fFirst P d i = fFirst Q d i
  | 0, _, _ => rfl
  | d + 1, i, h => by
    unfold fFirst
    rw [h i (by omega) (by omega), fFirst_cong d (i + 1) (fun j h1 h2 => h j (by omega) (by omega))]
def hO (h : Nat) : Option Nat := if h < 10 then some h else none
def hI (f : Option Nat) : Nat := match f with
  | some q => q
  | none => 10
theorem hO_I {f : Option Nat} (hf : ∀ q, f = some q → q < 10) : hO (hI f) = f := by
  cases f with
  | none => rfl
  | some q =>
    have := hf q rfl
    show (if q < 10 then some q else none) = _
    rw [if_pos this]
theorem hI_le {f : Option Nat} (hf : ∀ q, f = some q → q < 10) : hI f ≤ 10 := by
  cases f with
  | none => exact Nat.le_refl _
  | some q => exact Nat.le_of_lt (hf q rfl)
def stR (g : gG) (S : aS) : Prop := ∀ p, p < 10 → ∀ h, h ≤ 10 → g.1 163 (10 * h + p) = nI (mns S (hO h) p)
section CQ
variable {k n : Nat} {X Y : Nat → Nat} {E : Nat} {T : List aT}
theorem c_meas_in (ok : okS n (X, Y, E, T)) (hk : k + 8 ≤ 163 ∨ 164 ≤ k) (F2 : Int32 → gG → Option (Unit × gG)) {to : Nat} (ht : to < 10) (d : Nat) : ∀ (g : gG) i fu, i + d = 10 → d < fu → cS g k (X, Y, E, T) → (∀ h, h < i → g.1 163 (10 * h + to) = nI (mns (X, Y, E, T) (hO h) to)) → ∃ g', fb_X8_measure_10 k F2 fu (nI to) (nI i) g = F2 (nI (to + 1)) g' ∧ (∀ h, h ≤ 10 → g'.1 163 (10 * h + to) = nI (mns (X, Y, E, T) (hO h) to)) ∧ (∀ j, (∀ h, j ≠ 10 * h + to) → g'.1 163 j = g.1 163 j) ∧ frm 163 164 g g' := by
  induction d with
  | zero =>
    intro g i fu hi hf hS hd
    obtain ⟨fu, rfl⟩ : ∃ f', fu = f' + 1 := ⟨fu - 1, by omega⟩
    have e : i = 10 := by omega
    subst e
    have e1 := c_minutes (n := n) (f := none) (p := to) hS ok ht (fun q hq => by cases hq)
    have e1 : f_X5_minutesBetween k (-9 : Int32) (nI to) g = _ := e1
    refine ⟨gI1 g 163 (100 + to) (nI (mns (X, Y, E, T) none to)), ?_, ?_, ?_, frm.rf.i1 (by omega) (by omega)⟩
    · unfold fb_X8_measure_10 fs_X8_measure_10
      rw [if_pos (show (10 : Int32) ≤ nI 10 by decide), e1]
      simp only [ob_eq]
      rw [show (100 : Int32) + nI to = nI (100 + to) from nI_add 100 to, if_pos (inb_nI (by omega) (by decide)), nI_clamp (by omega)]
      simp only [gl_eq, nI_1]
    · intro h hh
      rw [r_self]
      by_cases e9 : h = 10
      · rw [e9, if_pos (by omega)]; rfl
      · rw [if_neg (by omega)]; exact hd h (by omega)
    · intro j hj
      rw [r_self, if_neg (by have := hj 10; omega)]
  | succ d ih =>
    intro g i fu hi hf hS hd
    obtain ⟨fu, rfl⟩ : ∃ f', fu = f' + 1 := ⟨fu - 1, by omega⟩
    have e1 := c_minutes (n := n) (f := some i) (p := to) hS ok ht (fun q hq => by cases hq; omega)
    have e1 : f_X5_minutesBetween k (nI i) (nI to) g = _ := e1
    have fr1 : frm 163 164 g (gI1 g 163 (10 * i + to) (nI (mns (X, Y, E, T) (some i) to))) := frm.rf.i1 (by omega) (by omega)
    obtain ⟨g', a, b, c, d'⟩ := ih (gI1 g 163 (10 * i + to) (nI (mns (X, Y, E, T) (some i) to))) (i + 1) fu (by omega) (by omega) (cS_fr hS fr1 (by omega)) (by
      intro h hh
      rw [r_self]
      by_cases e9 : h = i
      · rw [e9, if_pos rfl]
        unfold hO
        rw [if_pos (by omega)]
      · rw [if_neg (by omega)]; exact hd h (by omega))
    refine ⟨g', ?_, b, ?_, fr1.tr d'⟩
    · unfold fb_X8_measure_10 fs_X8_measure_10
      rw [if_neg (show ¬ ((10 : Int32) ≤ nI i) from nI_ge (b := 10) (by omega) (by decide)), e1]
      simp only [ob_eq]
      have e5 : (nI i * (10 : Int32)) + nI to = nI (10 * i + to) := by
        show (nI i * nI 10) + nI to = _
        rw [pk_mul, nI_add, Nat.mul_comm]
      rw [e5, if_pos (inb_nI (by omega) (by decide)), nI_clamp (by omega)]
      simp only [gl_eq, nI_1]
      exact a
    · intro j hj
      rw [c j hj, r_self, if_neg (hj i)]
theorem c_meas_l (ok : okS n (X, Y, E, T)) (hk : k + 8 ≤ 163 ∨ 164 ≤ k) (d : Nat) : ∀ (g : gG) i fu, i + d = 10 → d < fu → cS g k (X, Y, E, T) → (∀ p, p < i → ∀ h, h ≤ 10 → g.1 163 (10 * h + p) = nI (mns (X, Y, E, T) (hO h) p)) → ∃ g', fb_X8_measure_2 k fu (nI i) g = some ((), g') ∧ stR g' (X, Y, E, T) ∧ frm 163 164 g g' := by
  induction d with
  | zero =>
    intro g i fu hi hf hS hd
    obtain ⟨fu, rfl⟩ : ∃ f', fu = f' + 1 := ⟨fu - 1, by omega⟩
    have e : i = 10 := by omega
    subst e
    refine ⟨g, ?_, hd, frm.rf⟩
    unfold fb_X8_measure_2 fs_X8_measure_2
    rw [if_pos (by decide)]
  | succ d ih =>
    intro g i fu hi hf hS hd
    obtain ⟨fu, rfl⟩ : ∃ f', fu = f' + 1 := ⟨fu - 1, by omega⟩
    obtain ⟨g1, a1, b1, c1, d1⟩ := c_meas_in (k := k) ok hk (fb_X8_measure_2 k fu) (to := i) (by omega) 10 g 0 gFuel (by omega) (by unfold gFuel; omega) hS (fun h hh => by omega)
    obtain ⟨g2, a2, b2', c2⟩ := ih g1 (i + 1) fu (by omega) (by omega) (cS_fr hS d1 (by omega)) (by
      intro p hp h hh
      by_cases e9 : p = i
      · rw [e9]; exact b1 h hh
      · rw [c1 _ (fun h' => by omega)]; exact hd p (by omega) h hh)
    refine ⟨g2, ?_, b2', d1.tr c2⟩
    unfold fb_X8_measure_2 fs_X8_measure_2
    rw [if_neg (show ¬ ((10 : Int32) ≤ nI i) from nI_ge (b := 10) (by omega) (by decide))]
    exact a1.trans a2
theorem c_measure {g : gG} (ok : okS n (X, Y, E, T)) (hk : k + 8 ≤ 163 ∨ 164 ≤ k) (hS : cS g k (X, Y, E, T)) : ∃ g', f_X8_measure k g = some ((), g') ∧ stR g' (X, Y, E, T) ∧ frm 163 164 g g' := by
  unfold f_X8_measure
  exact c_meas_l ok hk 10 g 0 gFuel (by omega) (by unfold gFuel; omega) hS (fun p hp => by omega)
end CQ
section CQ2
variable {n : Nat} {hm : Nat → Nat} {E : Nat} {S : aS}
/-- what minutesFrom reads: leading places, minutes behind them -/
def mfR (n : Nat) (H : Nat → Nat → Bool) (S : aS) (g : gG) (s : Nat) : Prop := g.1 158 s = nI (safe n H s) ∧ ∀ p, p < n - 1 → (safe n H s).testBit p = true → g.1 162 (10 * (s ||| 2 ^ p) + p) = nI ((qOf n H S (s ||| 2 ^ p) (some p)).getD 0)
theorem c_minBy {g : gG} {H : Nat → Nat → Bool} (hH : cH g n hm) (h2 : 2 ≤ n) (hn : n ≤ 10) (hst : stR g S) {s : Nat} (hs : s < 2 ^ (n - 1)) (hR : mfR n H S g s) {fr : Option Nat} (hfr : ∀ q, fr = some q → q < 10) {p : Nat} (hp : p < n) (hl : (safe n H s).testBit p = true) : ∃ x, qV n H S s fr p = some x ∧ f_X8_minutesBy (nI s) (nI (hI fr)) (nI p) g = some (nI x, g) := by
  have h512 : 2 ^ (n - 1) ≤ 512 := Nat.pow_le_pow_right (n := 2) (j := 9) (by decide) (by omega)
  have hh := hI_le hfr
  refine ⟨_, (qV_lead (H := H) (S := S) h2 hn hs fr hp).1 hl, ?_⟩
  have est : ∀ y : Nat, fs_X8_minutesBy_35 (nI (hI fr)) (nI p) (nI y) g = some (nI (y + mns S fr p), g) := by
    intro y
    unfold fs_X8_minutesBy_35
    have e5 : (nI (hI fr) * (10 : Int32)) + nI p = nI (10 * hI fr + p) := by
      show (nI (hI fr) * nI 10) + nI p = _
      rw [pk_mul, nI_add, Nat.mul_comm]
    rw [e5, if_pos (inb_nI (by omega) (by decide)), nI_clamp (by omega), hst p (by omega) _ hh, hO_I hfr, nI_add, Nat.add_comm]
  have hbit : (s ||| 2 ^ p).testBit (n - 1) = decide (p = n - 1) := by
    rw [Nat.testBit_or, chest_of hs, Nat.testBit_two_pow, Bool.false_or]
  have hlt : s ||| 2 ^ p < 2 ^ 10 := or_lt (by omega) (by omega)
  unfold f_X8_minutesBy
  rw [show (1 : Int32) <<< (nI p &&& 31) = nI (2 ^ p) from nI_shl1 (by omega), fa_or]
  simp only [gl_eq]
  rw [c_hasChest hH h2 hn (by omega)]
  simp only [ob_eq]
  rw [hbit]
  by_cases e9 : p = n - 1
  · rw [decide_eq_true e9, b2_t, if_neg (by decide), if_pos e9]
    exact est 0
  · have hlt9 : s ||| 2 ^ p < 2 ^ (n - 1) := or_lt hs (by omega)
    rw [decide_eq_false e9, b2_f, if_pos rfl, if_neg e9]
    have e5 : (nI (s ||| 2 ^ p) * (10 : Int32)) + nI p = nI (10 * (s ||| 2 ^ p) + p) := by
      show (nI (s ||| 2 ^ p) * nI 10) + nI p = _
      rw [pk_mul, nI_add, Nat.mul_comm]
    rw [e5, if_pos (inb_nI (by omega) (by decide)), nI_clamp (by omega), hR.2 p (by omega) hl]
    exact est _
theorem c_minFrom_l {g : gG} {H : Nat → Nat → Bool} (hH : cH g n hm) (h2 : 2 ≤ n) (hn : n ≤ 10) (ok : okX S) (hst : stR g S) {s : Nat} (hs : s < 2 ^ (n - 1)) (hR : mfR n H S g s) {fr : Option Nat} (hfr : ∀ q, fr = some q → q < 10) (d : Nat) : ∀ i fu, i + d = 10 → d < fu → fb_X8_minutesFrom_16 fu (nI s) (nI (hI fr)) (nI (safe n H s)) (nI ((minO (fun p => if p < n then qV n H S s fr p else none) i).getD 0)) (b2 (minO (fun p => if p < n then qV n H S s fr p else none) i).isSome) (nI i) g = some (nI ((qOf n H S s fr).getD 0), g) := by
  have hsl : safe n H s < 2 ^ 10 := Nat.lt_of_lt_of_le (msk_lt _ _) (Nat.pow_le_pow_right (by decide) hn)
  have hle : ∀ i, oLe 190 (minO (fun p => if p < n then qV n H S s fr p else none) i) := fun i => oLe_min (fun p _ x hx => by
    by_cases h : p < n
    · rw [if_pos h] at hx; exact qV_190 h2 hn ok hs hfr h x hx
    · rw [if_neg h] at hx; cases hx)
  induction d with
  | zero =>
    intro i fu hi hf
    obtain ⟨fu, rfl⟩ : ∃ f', fu = f' + 1 := ⟨fu - 1, by omega⟩
    have e : i = 10 := by omega
    subst e
    unfold fb_X8_minutesFrom_16 fs_X8_minutesFrom_16
    rw [if_pos (by decide)]
    have h := minO_ext (v := fun p => if p < n then qV n H S s fr p else none) (n := n) (fun p hp => if_neg (by omega)) (10 - n)
    rw [show n + (10 - n) = 10 by omega] at h
    rw [h, qOf_eq n H S hs]
    have e2 : minO (fun p => if p < n then qV n H S s fr p else none) n = minO (qV n H S s fr) n := minO_cong (fun p hp => if_pos hp)
    rw [e2]
  | succ d ih =>
    intro i fu hi hf
    obtain ⟨fu, rfl⟩ : ∃ f', fu = f' + 1 := ⟨fu - 1, by omega⟩
    have hgo := ih (i + 1) fu (by omega) (by omega)
    rw [minO] at hgo
    unfold fb_X8_minutesFrom_16 fs_X8_minutesFrom_16
    rw [if_neg (show ¬ ((10 : Int32) ≤ nI i) from nI_ge (b := 10) (by omega) (by decide))]
    simp only [gl_eq, nI_1]
    cases eb : (safe n H s).testBit i with
    | false =>
      have e0 : (nI (safe n H s) >>> (nI i &&& 31)) &&& 1 = 0 := (nI_test0 (by omega) (by omega)).mpr eb
      rw [if_pos e0]
      have en : (if i < n then qV n H S s fr i else none) = none := by
        by_cases h : i < n
        · rw [if_pos h]; exact (qV_lead (H := H) (S := S) h2 hn hs fr h).2 eb
        · rw [if_neg h]
      rw [en, omin_r] at hgo
      exact hgo
    | true =>
      have e0 : ¬ ((nI (safe n H s) >>> (nI i &&& 31)) &&& 1 = 0) := by
        intro e9
        have := (nI_test0 (by omega) (by omega)).mp e9
        rw [eb] at this; cases this
      have hin : i < n := by
        by_cases h : i < n
        · exact h
        · have hsl' : safe n H s < 2 ^ n := msk_lt _ _
          rw [Nat.testBit_lt_two_pow (Nat.lt_of_lt_of_le hsl' (Nat.pow_le_pow_right (by decide) (by omega)))] at eb
          cases eb
      obtain ⟨x, ex, em⟩ := c_minBy (H := H) (s := s) (fr := fr) hH h2 hn hst hs hR hfr hin eb
      have hx := qV_190 h2 hn ok hs hfr hin x ex
      rw [if_pos hin, ex] at hgo
      rw [if_neg e0, em]
      simp only [ob_eq]
      unfold fs_X8_minutesFrom_59
      simp only [gl_eq, nI_1]
      cases eA : minO (fun p => if p < n then qV n H S s fr p else none) i with
      | none =>
        rw [eA] at hgo
        rw [show b2 (none : Option Nat).isSome = 0 from rfl, if_pos rfl]
        exact hgo
      | some z =>
        have hz := hle i z eA
        rw [eA] at hgo
        rw [show b2 (some z).isSome = 1 from rfl, if_neg (by decide), show (some z).getD 0 = z from rfl]
        by_cases hlt : x < z
        · rw [if_pos (nI_lt hlt (by omega))]
          have e3 : omin (some z) (some x) = some x := by show some _ = _; rw [if_pos hlt]
          rw [e3] at hgo
          exact hgo
        · rw [if_neg (nI_nlt (by omega) (by omega))]
          have e3 : omin (some z) (some x) = some z := by show some _ = _; rw [if_neg hlt]
          rw [e3] at hgo
          exact hgo
theorem c_minFrom {g : gG} {H : Nat → Nat → Bool} (hH : cH g n hm) (h2 : 2 ≤ n) (hn : n ≤ 10) (ok : okX S) (hst : stR g S) {s : Nat} (hs : s < 2 ^ (n - 1)) (hR : mfR n H S g s) {fr : Option Nat} (hfr : ∀ q, fr = some q → q < 10) : f_X8_minutesFrom (nI s) (nI (hI fr)) g = some (nI ((qOf n H S s fr).getD 0), g) := by
  have h512 : 2 ^ (n - 1) ≤ 512 := Nat.pow_le_pow_right (n := 2) (j := 9) (by decide) (by omega)
  unfold f_X8_minutesFrom
  rw [if_pos (inb_nI (show s < 1024 by omega) (by decide)), nI_clamp (by omega), hR.1]
  simp only [gl_eq]
  exact c_minFrom_l hH h2 hn ok hst hs hR hfr 10 0 gFuel (by omega) (by unfold gFuel; omega)
end CQ2
