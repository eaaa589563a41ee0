/-! PURE: dead ends on both sides. -/
noncomputable def rchB (n : Nat) (H : Nat → Nat → Bool) (s : Nat) : Bool := @decide (rch n H 0 s) (Classical.propDecidable _)
theorem rchB_t {n : Nat} {H : Nat → Nat → Bool} {s : Nat} : rchB n H s = true ↔ rch n H 0 s := by
  unfold rchB
  exact @decide_eq_true_iff _ (Classical.propDecidable _)
theorem rchB_f {n : Nat} {H : Nat → Nat → Bool} {s : Nat} : rchB n H s = false ↔ ¬ rch n H 0 s := by
  rw [← rchB_t]
  cases rchB n H s <;> simp
noncomputable def ded (n : Nat) (H : Nat → Nat → Bool) (s : Nat) : Bool := rchB n H s && !fin n H none s
noncomputable def dedN (n : Nat) (H : Nat → Nat → Bool) : Nat := cnt (ded n H) (2 ^ n)
theorem cnt_ext {P : Nat → Bool} {a : Nat} (d : Nat) (h : ∀ i, a ≤ i → i < a + d → P i = false) : cnt P (a + d) = cnt P a := by
  induction d with
  | zero => rfl
  | succ d ih =>
    show cnt P (a + d) + (if P (a + d) = true then 1 else 0) = _
    rw [ih (fun i h1 h3 => h i h1 (by omega)), h (a + d) (by omega) (by omega), if_neg (by decide)]; rfl
theorem ded_low {n : Nat} {H : Nat → Nat → Bool} (h2 : 2 ≤ n) : cnt (ded n H) (2 ^ (n - 1)) = dedN n H := by
  have hn2 := two_n h2
  unfold dedN
  rw [show 2 ^ n = 2 ^ (n - 1) + 2 ^ (n - 1) by omega]
  refine (cnt_ext _ ?_).symm
  intro i h1 h3
  have hb : i.testBit (n - 1) = true := by
    rw [Nat.testBit_eq_decide_div_mod_eq]
    have h4 : i / 2 ^ (n - 1) = 1 := by
      have hpos : 0 < 2 ^ (n - 1) := Nat.two_pow_pos _
      apply Nat.div_eq_of_lt_le <;> omega
    rw [h4]; rfl
  unfold ded fin
  rw [hb]; simp
section CDE
variable {n : Nat} {hm : Nat → Nat} {E : Nat}
theorem c_dead_l {g : gG} (h2 : 2 ≤ n) (hn : n ≤ 10) (a1 : ∀ s, s < 2 ^ n → (rch n (effH hm E) 0 s → g.1 157 s = nI (opn n (effH hm E) s)) ∧ (¬ rch n (effH hm E) 0 s → g.1 157 s = -1)) (a2 : ∀ s, s < 2 ^ n → rch n (effH hm E) 0 s → wR g s (wOf n (effH hm E) s)) (d : Nat) : ∀ i fu, i + d = 2 ^ n → d < fu → fb_X8_countDeadEnds_19 fu (nI (2 ^ n - 1)) (nI (cnt (ded n (effH hm E)) i)) (nI i) g = some (nI (dedN n (effH hm E)), g) := by
  have h1024 : 2 ^ n ≤ 1024 := Nat.pow_le_pow_right (n := 2) (j := 10) (by decide) hn
  have hpos : 0 < 2 ^ n := Nat.two_pow_pos n
  induction d with
  | zero =>
    intro i fu hi hf
    obtain ⟨fu, rfl⟩ : ∃ f', fu = f' + 1 := ⟨fu - 1, by omega⟩
    have e : i = 2 ^ n := by omega
    subst e
    unfold fb_X8_countDeadEnds_19 fs_X8_countDeadEnds_19
    rw [if_pos (nI_lt (by omega) (by omega))]
    rfl
  | succ d ih =>
    intro i fu hi hf
    obtain ⟨fu, rfl⟩ : ∃ f', fu = f' + 1 := ⟨fu - 1, by omega⟩
    have hgo := ih (i + 1) fu (by omega) (by omega)
    rw [cnt] at hgo
    have hO := opn_lt (n := n) (H := effH hm E) (s := i)
    unfold fb_X8_countDeadEnds_19 fs_X8_countDeadEnds_19
    rw [if_neg (nI_nlt (by omega) (by omega)), inb_nI (show i < 1024 by omega) (by decide)]
    simp only [if_true, gl_eq, nI_clamp (n := i) (by omega), nI_1]
    cases er : rchB n (effH hm E) i with
    | false =>
      rw [(a1 i (by omega)).2 (rchB_f.mp er), if_pos rfl]
      have : ded n (effH hm E) i = false := by unfold ded; rw [er]; rfl
      rw [this, if_neg (by decide)] at hgo
      exact hgo
    | true =>
      have hr := rchB_t.mp er
      rw [(a1 i (by omega)).1 hr, if_neg (nI_m1 (by omega)), (a2 i (by omega) hr).2.1]
      have hp := wOf_pos (H := effH hm E) h2 hn (2 ^ n) i (by omega) (by omega)
      have hb := wOf_small (effH hm E) h2 hn (s := i) (by omega)
      cases ef : fin n (effH hm E) none i with
      | true =>
        have h9 := hp.mpr ef
        rw [if_neg (fun e9 => by have := (nI_z (by omega)).mp e9; omega)]
        have : ded n (effH hm E) i = false := by unfold ded; rw [er, ef]; rfl
        rw [this, if_neg (by decide)] at hgo
        exact hgo
      | false =>
        have h9 : (wOf n (effH hm E) i).2.1 = 0 := by
          by_cases h8 : 0 < (wOf n (effH hm E) i).2.1
          · rw [hp.mp h8] at ef; cases ef
          · omega
        rw [h9, if_pos (show nI 0 = (0 : Int32) from rfl)]
        have : ded n (effH hm E) i = true := by unfold ded; rw [er, ef]; rfl
        rw [this, if_pos rfl] at hgo
        exact hgo
theorem c_dead {g : gG} (hH : cH g n hm) (h2 : 2 ≤ n) (hn : n ≤ 10) (hE : E < 2 ^ n) : ∃ g', f_X8_countDeadEnds (nI E) g = some (nI (dedN n (effH hm E)), g') ∧ frm 157 162 g g' := by
  have h1024 : 2 ^ n ≤ 1024 := Nat.pow_le_pow_right (n := 2) (j := 10) (by decide) hn
  obtain ⟨g', e, a, b, c⟩ := c_lookFrom hH h2 hn hE (Nat.two_pow_pos n)
  refine ⟨g', ?_, c⟩
  have e : f_X8_lookFrom (0 : Int32) (nI E) g = some ((), g') := e
  have e2 := c_allPlaces (cH_fr hH c (by omega)) hn
  have e3 := c_dead_l h2 hn a b (2 ^ n) 0 gFuel (by omega) (by unfold gFuel; omega)
  unfold f_X8_countDeadEnds
  rw [e]
  simp only [ob_eq]
  rw [e2]
  simp only [ob_eq, gl_eq]
  exact e3
end CDE
/-- a set without p -/
theorem and_not {s p : Nat} (hs : s < 512) (hp : p < 9) : nI s &&& (nI (2 ^ p) ^^^ (-1 : Int32)) = nI (s &&& (1023 ^^^ 2 ^ p)) := nI_not (s := 2 ^ p) (Nat.lt_of_le_of_lt (Nat.pow_le_pow_right (n := 2) (j := 8) (by decide) (by omega)) (by decide)) s (by omega)
theorem del_bit {s p : Nat} (hs : s < 512) (i : Nat) : (s &&& (1023 ^^^ 2 ^ p)).testBit i = (s.testBit i && !decide (p = i)) := by
  rw [Nat.testBit_and, Nat.testBit_xor, Nat.testBit_two_pow]
  by_cases h : i < 10
  · have : (1023 : Nat).testBit i = true := by
      have : ∀ i, i < 10 → (1023 : Nat).testBit i = true := by decide
      exact this i h
    rw [this]; simp
  · have : s.testBit i = false := Nat.testBit_lt_two_pow (Nat.lt_of_lt_of_le hs (Nat.pow_le_pow_right (n := 2) (i := 9) (by decide) (by omega)))
    rw [this]; rfl
theorem del_or {s p : Nat} (hs : s < 512) (h : s.testBit p = true) : (s &&& (1023 ^^^ 2 ^ p)) ||| 2 ^ p = s := by
  apply Nat.eq_of_testBit_eq
  intro i
  rw [Nat.testBit_or, del_bit hs, Nat.testBit_two_pow]
  by_cases e : p = i
  · subst e; rw [h]; simp
  · simp [e]
theorem or_del {s p : Nat} (hs : s ||| 2 ^ p < 512) (h : s.testBit p = false) : ((s ||| 2 ^ p) &&& (1023 ^^^ 2 ^ p)) = s := by
  apply Nat.eq_of_testBit_eq
  intro i
  rw [del_bit hs, Nat.testBit_or, Nat.testBit_two_pow]
  by_cases e : p = i
  · subst e; rw [h]; simp
  · simp [e]
theorem del_le {s p : Nat} : s &&& (1023 ^^^ 2 ^ p) ≤ s := Nat.and_le_left
/-- how the reference finds that a set can come -/
def cmP (n : Nat) (H : Nat → Nat → Bool) (R : Nat → Bool) (s p : Nat) : Bool := s.testBit p && (R (s &&& (1023 ^^^ 2 ^ p)) && canV n H (s &&& (1023 ^^^ 2 ^ p)) p)
theorem rch_cm {n : Nat} {H : Nat → Nat → Bool} (h2 : 2 ≤ n) (hn : n ≤ 10) {s : Nat} (hs : s < 2 ^ (n - 1)) : rchB n H s = (decide (s = 0) || anyP (cmP n H (rchB n H) s) (n - 1)) := by
  have h512 : 2 ^ (n - 1) ≤ 512 := Nat.pow_le_pow_right (n := 2) (j := 9) (by decide) (by omega)
  have main : rchB n H s = true ↔ (decide (s = 0) || anyP (cmP n H (rchB n H) s) (n - 1)) = true := by
    rw [rchB_t, rch_iff, Bool.or_eq_true, anyP_iff, decide_eq_true_iff]
    constructor
    · rintro (h | ⟨s', p, h1, h3, h4, h5⟩)
      · exact Or.inl h
      · refine Or.inr ⟨p, ?_, ?_⟩
        · by_cases e9 : p = n - 1
          · have h6 := chest_of hs
            rw [h5, e9, Nat.testBit_or, Nat.testBit_two_pow_self] at h6
            simp at h6
          · omega
        · have h6 : s &&& (1023 ^^^ 2 ^ p) = s' := by rw [h5]; exact or_del (by rw [← h5]; omega) (canV_bit h4)
          unfold cmP
          rw [h6, rchB_t.mpr h1, h4, h5, Nat.testBit_or, Nat.testBit_two_pow_self]
          simp
    · rintro (h | ⟨p, hp, h⟩)
      · exact Or.inl h
      · unfold cmP at h
        have h7 := Bool.and_eq_true_iff.mp h
        have h8 := Bool.and_eq_true_iff.mp h7.2
        exact Or.inr ⟨_, p, rchB_t.mp h8.1, by omega, h8.2, (del_or (by omega) h7.1).symm⟩
  cases e1 : rchB n H s with
  | true => exact (main.mp e1).symm
  | false =>
    cases e3 : (decide (s = 0) || anyP (cmP n H (rchB n H) s) (n - 1)) with
    | false => rfl
    | true => rw [main.mpr e3] at e1; cases e1
section MDE
variable {r n : Nat} {H : Nat → Nat → Bool}
end MDE
