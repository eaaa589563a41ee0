/-! PURE: the reference's row of numbers. n places, H p s: whether place p's condition holds for the set s. -/
def mH (f : Nat → Int32) (n : Nat) (H : Nat → Nat → Bool) : Prop := f 0 = nI n ∧ ∀ p s, p < n → s < 1024 → bt (f (22 + 32 * p + s / 32)) (s % 32) = H p s
def canV (n : Nat) (H : Nat → Nat → Bool) (s p : Nat) : Bool := !s.testBit p && (!s.testBit (n - 1) && H p s)
def msk (P : Nat → Bool) : Nat → Nat
  | 0 => 0
  | k + 1 => msk P k ||| (if P k = true then 2 ^ k else 0)
theorem msk_bit (P : Nat → Bool) : ∀ k i, (msk P k).testBit i = (decide (i < k) && P i)
  | 0, i => by simp [msk]
  | k + 1, i => by
    rw [msk, Nat.testBit_or, msk_bit P k i]
    by_cases e : i = k
    · subst e
      by_cases hp : P i = true <;> simp [hp]
    · have h2 : (if P k = true then 2 ^ k else 0).testBit i = false := by
        by_cases hp : P k = true
        · rw [if_pos hp, Nat.testBit_two_pow]; simp; omega
        · rw [if_neg hp]; simp
      rw [h2]
      have : (decide (i < k) : Bool) = decide (i < k + 1) := by
        by_cases h3 : i < k
        · simp [h3]; omega
        · simp [h3]; omega
      rw [this]; simp
theorem msk_lt (P : Nat → Bool) (k : Nat) : msk P k < 2 ^ k := by
  apply Nat.lt_pow_two_of_testBit
  intro i hi
  rw [msk_bit]
  simp; omega
theorem msk_cong {P Q : Nat → Bool} {k : Nat} (h : ∀ i, i < k → P i = Q i) : msk P k = msk Q k := by
  apply Nat.eq_of_testBit_eq
  intro i
  rw [msk_bit, msk_bit]
  by_cases hi : i < k
  · rw [h i hi]
  · simp [hi]
def opn (n : Nat) (H : Nat → Nat → Bool) (s : Nat) : Nat := msk (canV n H s) n
theorem m_hasX (x : Int32) {i : Nat} (h : i < 32) (g : gG) : f_X10_has x (nI i) g = some (b2 (bt x i), g) := by
  unfold f_X10_has
  have h1 := bt_test x h
  by_cases e : bt x i = true
  · rw [if_pos (h1.mpr e), e]; rfl
  · rw [if_neg (fun q => e (h1.mp q))]
    have e : bt x i = false := by simpa using e
    rw [e]; rfl
theorem m_has {s p : Nat} (h : p < 32) (g : gG) : f_X10_has (nI s) (nI p) g = some (b2 (s.testBit p), g) := by
  rw [m_hasX _ h, nI_bt h]
theorem inb0 {n : Nat} (h : 0 < n) (hn : n < 2 ^ 31) : inb 0 n = true := inb_nI h hn
theorem clamp0 : (0 : Int32).toNatClampNeg = 0 := rfl
theorem m_isHeld {g : gG} {r n : Nat} {H : Nat → Nat → Bool} (hm : mH (g.1 r) n H) (hn : n ≤ 10) {p s : Nat} (hp : p < n) (hs : s < 1024) : f_X10_isHeld r 394 (nI p) (nI s) g = some (b2 (H p s), g) := by
  unfold f_X10_isHeld
  have e1 : ((22 : Int32) + ((32 : Int32) * nI p)) + (nI s / (32 : Int32)) = nI (22 + 32 * p + s / 32) := by
    have h1 : nI s / (32 : Int32) = nI (s / 32) := pk_div (by omega) (by decide) (by decide)
    rw [h1]
    show (nI 22 + (nI 32 * nI p)) + nI (s / 32) = _
    rw [pk_mul, nI_add, nI_add]
  have e2 : nI s - nI s / (32 : Int32) * (32 : Int32) = nI (s % 32) := pk_rem (by omega) (by decide) (by decide)
  rw [e1, e2, if_pos (inb_nI (by omega) (by decide)), nI_clamp (by omega), m_hasX _ (by omega), hm.2 p s hp hs]
  simp only [Option.bind_some, b2_gZb, if_true]
theorem m_chest {g : gG} {r n : Nat} {H : Nat → Nat → Bool} (hm : mH (g.1 r) n H) (h2 : 2 ≤ n) : f_X10_chest r 394 g = some (nI (n - 1), g) := by
  unfold f_X10_chest
  rw [if_pos (inb0 (by decide) (by decide)), clamp0, hm.1]
  show some (nI n - nI 1, g) = _
  rw [pk_sub (by omega)]
theorem m_canVisit {g : gG} {r n : Nat} {H : Nat → Nat → Bool} (hm : mH (g.1 r) n H) (h2 : 2 ≤ n) (hn : n ≤ 10) {p s : Nat} (hp : p < n) (hs : s < 1024) : f_X10_canVisit r 394 (nI s) (nI p) g = some (b2 (canV n H s p), g) := by
  unfold f_X10_canVisit canV
  rw [m_has (by omega)]
  simp only [Option.bind_some]
  by_cases e1 : s.testBit p = true
  · rw [e1]; rfl
  · have e1 : s.testBit p = false := by simpa using e1
    rw [e1]
    simp only [b2_f, if_true, m_chest hm h2, Option.bind_some]
    rw [m_has (by omega)]
    simp only [Option.bind_some]
    by_cases e3 : s.testBit (n - 1) = true
    · rw [e3]; rfl
    · have e3 : s.testBit (n - 1) = false := by simpa using e3
      rw [e3]
      simp only [b2_f, if_true, m_isHeld hm hn hp hs, Option.bind_some]
      cases H p s <;> rfl
theorem m_openOf_loop {g : gG} {r n : Nat} {H : Nat → Nat → Bool} (hm : mH (g.1 r) n H) (h2 : 2 ≤ n) (hn : n ≤ 10) {s : Nat} (hs : s < 1024) : ∀ (d i fuel : Nat), i + d = n → d < fuel → fb_X10_openOf_4 r 394 fuel (nI s) (nI (msk (canV n H s) i)) (nI i) g = some (nI (opn n H s), g) := by
  intro d
  induction d with
  | zero =>
    intro i fuel hi hf
    obtain ⟨f, rfl⟩ : ∃ f, fuel = f + 1 := ⟨fuel - 1, by omega⟩
    have e : i = n := by omega
    subst e
    show fs_X10_openOf_4 r 394 _ _ _ _ _ = _
    unfold fs_X10_openOf_4
    rw [if_pos (inb0 (by decide) (by decide)), clamp0, hm.1, if_pos (nI_le (Nat.le_refl _) (by omega))]
    rfl
  | succ d ih =>
    intro i fuel hi hf
    obtain ⟨f, rfl⟩ : ∃ f, fuel = f + 1 := ⟨fuel - 1, by omega⟩
    show fs_X10_openOf_4 r 394 _ _ _ _ _ = _
    unfold fs_X10_openOf_4
    rw [if_pos (inb0 (by decide) (by decide)), clamp0, hm.1, if_neg (nI_ge (by omega) (by omega)), m_canVisit hm h2 hn (by omega) hs]
    simp only [Option.bind_some]
    have hgo : ∀ x : Int32, nI (msk (canV n H s) i) ||| x = nI (msk (canV n H s) (i + 1)) → fs_X10_openOf_28 r 394 (fb_X10_openOf_4 r 394 f) (nI s) (nI i) (nI (msk (canV n H s) i)) x g = some (nI (opn n H s), g) := by
      intro x hx
      unfold fs_X10_openOf_28 gLet
      rw [hx, nI_1]
      exact ih (i + 1) f (by omega) (by omega)
    cases e : canV n H s i with
    | true =>
      rw [b2_t, if_neg (by decide)]
      apply hgo
      have h3 : (1 : Int32) <<< (nI i &&& 31) = nI (2 ^ i) := nI_shl1 (by omega)
      rw [h3, fa_or, msk, e]; rfl
    | false =>
      rw [b2_f, if_pos rfl]
      apply hgo
      show nI _ ||| nI 0 = _
      rw [fa_or, msk, e]; rfl
theorem m_openOf {g : gG} {r n : Nat} {H : Nat → Nat → Bool} (hm : mH (g.1 r) n H) (h2 : 2 ≤ n) (hn : n ≤ 10) {s : Nat} (hs : s < 1024) : f_X10_openOf r 394 (nI s) g = some (nI (opn n H s), g) := by
  unfold f_X10_openOf
  exact m_openOf_loop hm h2 hn hs n 0 gFuel (by omega) (by unfold gFuel; omega)
