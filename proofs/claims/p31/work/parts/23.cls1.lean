/-! PURE: the class's hunt. n places; hm s: the mask of the places that hold for s (s < 512). -/
def cH (g : gG) (n : Nat) (hm : Nat → Nat) : Prop := g.1 14 1 = nI n ∧ ∀ s, s < 512 → g.1 15 s = nI (hm s) ∧ hm s < 2 ^ n
def effH (hm : Nat → Nat) (E : Nat) (p s : Nat) : Bool := (hm (s % 512) ||| E).testBit p
theorem lt1024 {n s : Nat} (h : s < 2 ^ n) (hn : n ≤ 10) : s < 1024 := Nat.lt_of_lt_of_le h (Nat.pow_le_pow_right (by decide) hn)
theorem c_isIn {s p : Nat} (hs : s < 2 ^ 31) (hp : p < 31) (g : gG) : f_X9_isIn (nI p) (nI s) g = some (b2 (s.testBit p), g) := by
  unfold f_X9_isIn
  by_cases e : s.testBit p = true
  · have h1 : ¬ ((nI s >>> (nI p &&& 31)) &&& 1 = 0) := by
      intro h9
      have := (nI_test0 hs hp).mp h9
      rw [e] at this; cases this
    rw [if_neg h1, e]; rfl
  · have e : s.testBit p = false := by simpa using e
    have h1 : (nI s >>> (nI p &&& 31)) &&& 1 = 0 := (nI_test0 hs hp).mpr e
    rw [if_pos h1, e]; rfl
theorem c_hasChest {g : gG} {n : Nat} {hm : Nat → Nat} (h : cH g n hm) (h2 : 2 ≤ n) (hn : n ≤ 10) {s : Nat} (hs : s < 1024) : f_X0_hasChest (nI s) g = some (b2 (s.testBit (n - 1)), g) := by
  unfold f_X0_hasChest
  have e1 : g.1 14 1 - (1 : Int32) = nI (n - 1) := by rw [h.1]; exact pk_sub (a := n) (b := 1) (by omega)
  rw [e1]
  by_cases e : s.testBit (n - 1) = true
  · have h1 : ¬ ((nI s >>> (nI (n - 1) &&& 31)) &&& 1 = 0) := by
      intro h9
      have := (nI_test0 (by omega) (by omega)).mp h9
      rw [e] at this; cases this
    rw [if_neg h1, e]; rfl
  · have e : s.testBit (n - 1) = false := by simpa using e
    have h1 : (nI s >>> (nI (n - 1) &&& 31)) &&& 1 = 0 := (nI_test0 (by omega) (by omega)).mpr e
    rw [if_pos h1, e]; rfl
theorem c_hasPlace {g : gG} {n : Nat} {hm : Nat → Nat} (h : cH g n hm) (hn : n ≤ 10) (x : Int32) : f_X0_hasPlace x g = some (b2 (decide (0 ≤ x.toInt ∧ x.toInt < n)), g) := by
  unfold f_X0_hasPlace
  have e1 : (0 : Int32).toInt = 0 := rfl
  have e2 : (nI n).toInt = n := nI_toInt (by omega)
  by_cases h1 : x < 0
  · rw [if_pos h1]
    have := Int32.lt_iff_toInt_lt.mp h1
    have : decide (0 ≤ x.toInt ∧ x.toInt < n) = false := by simp; omega
    rw [this]; rfl
  · rw [if_neg h1, h.1]
    have h3 := mt Int32.lt_iff_toInt_lt.mpr h1
    by_cases h4 : nI n ≤ x
    · rw [if_pos h4]
      have := Int32.le_iff_toInt_le.mp h4
      have : decide (0 ≤ x.toInt ∧ x.toInt < n) = false := by simp; omega
      rw [this]; rfl
    · rw [if_neg h4]
      have := mt Int32.le_iff_toInt_le.mpr h4
      have : decide (0 ≤ x.toInt ∧ x.toInt < n) = true := by simp; omega
      rw [this]; rfl
theorem c_allPlaces {g : gG} {n : Nat} {hm : Nat → Nat} (h : cH g n hm) (hn : n ≤ 10) : f_X0_allPlaces g = some (nI (2 ^ n - 1), g) := by
  unfold f_X0_allPlaces
  rw [h.1]
  have h3 : (1 : Int32) <<< (nI n &&& 31) = nI (2 ^ n) := nI_shl1 (by omega)
  rw [h3]
  show some (nI (2 ^ n) - nI 1, g) = _
  rw [pk_sub (Nat.one_le_two_pow)]
theorem and511 (s : Nat) : nI s &&& (511 : Int32) = nI (s % 512) := fa_mask s 9
theorem c_isHeld {g : gG} {n : Nat} {hm : Nat → Nat} (h : cH g n hm) (hn : n ≤ 10) {p s E : Nat} (hp : p < 31) (hE : E < 1024) : f_X0_isHeld (nI p) (nI s) (nI E) g = some (b2 (effH hm E p s), g) := by
  unfold f_X0_isHeld effH
  have hl : s % 512 < 512 := Nat.mod_lt _ (by decide)
  rw [and511, if_pos (inb_nI hl (by decide)), nI_clamp (by omega), (h.2 _ hl).1, fa_or]
  have h9 : hm (s % 512) ||| E < 2 ^ 10 := Nat.or_lt_two_pow (lt1024 (h.2 _ hl).2 hn) hE
  rw [c_isIn (by omega) hp]
  simp only [Option.bind_some, b2_gZb, if_true]
theorem nI_not {s : Nat} (hs : s < 1024) (m : Nat) (hm : m < 1024) : nI m &&& (nI s ^^^ (-1 : Int32)) = nI (m &&& (1023 ^^^ s)) := by
  apply b_ext
  intro i hi
  rw [b_and, b_xor, nI_bt hi, nI_bt hi, nI_bt hi, b_m1 i hi, Nat.testBit_and, Nat.testBit_xor]
  by_cases h10 : i < 10
  · have : (1023 : Nat).testBit i = true := by
      have : ∀ i, i < 10 → (1023 : Nat).testBit i = true := by decide
      exact this i h10
    rw [this]
    cases s.testBit i <;> rfl
  · have : m.testBit i = false := Nat.testBit_lt_two_pow (Nat.lt_of_lt_of_le hm (Nat.pow_le_pow_right (n := 2) (i := 10) (by decide) (by omega)))
    rw [this]; simp
theorem opn_eff {n : Nat} {hm : Nat → Nat} (hh : ∀ s, s < 512 → hm s < 2 ^ n) (h2 : 2 ≤ n) (hn : n ≤ 10) {E s : Nat} (hE : E < 2 ^ n) (hs : s < 1024) (hc : s.testBit (n - 1) = false) : (hm (s % 512) ||| E) &&& (1023 ^^^ s) = opn n (effH hm E) s := by
  apply Nat.eq_of_testBit_eq
  intro i
  unfold opn
  rw [msk_bit, Nat.testBit_and, Nat.testBit_xor]
  have hl : s % 512 < 512 := Nat.mod_lt _ (by decide)
  by_cases hi : i < n
  · have : (1023 : Nat).testBit i = true := by
      have : ∀ i, i < 10 → (1023 : Nat).testBit i = true := by decide
      exact this i (by omega)
    rw [this]
    unfold canV effH
    rw [hc]
    simp [hi, Bool.and_comm]
  · have : (hm (s % 512) ||| E).testBit i = false := Nat.testBit_lt_two_pow (Nat.lt_of_lt_of_le (Nat.or_lt_two_pow (hh _ hl) hE) (Nat.pow_le_pow_right (by decide) (by omega)))
    rw [this]; simp [hi]
theorem opn_end {n : Nat} {H : Nat → Nat → Bool} {s : Nat} (hc : s.testBit (n - 1) = true) : opn n H s = 0 := by
  apply Nat.eq_of_testBit_eq
  intro i
  unfold opn
  rw [msk_bit]
  unfold canV
  rw [hc]; simp
theorem c_openAfter {g : gG} {n : Nat} {hm : Nat → Nat} (h : cH g n hm) (h2 : 2 ≤ n) (hn : n ≤ 10) {E s : Nat} (hE : E < 2 ^ n) (hs : s < 1024) : f_X0_openAfter (nI s) (nI E) g = some (nI (opn n (effH hm E) s), g) := by
  unfold f_X0_openAfter
  have e1 : g.1 14 1 - (1 : Int32) = nI (n - 1) := by rw [h.1]; exact pk_sub (a := n) (b := 1) (by omega)
  rw [e1]
  by_cases e : s.testBit (n - 1) = true
  · have h1 : ¬ ((nI s >>> (nI (n - 1) &&& 31)) &&& 1 = 0) := by
      intro h9
      have := (nI_test0 (by omega) (by omega)).mp h9
      rw [e] at this; cases this
    rw [if_neg h1]
    unfold fs_X0_openAfter_18
    rw [if_neg (by decide), opn_end e]; rfl
  · have e : s.testBit (n - 1) = false := by simpa using e
    have h1 : (nI s >>> (nI (n - 1) &&& 31)) &&& 1 = 0 := (nI_test0 (by omega) (by omega)).mpr e
    rw [if_pos h1]
    unfold fs_X0_openAfter_18
    have hl : s % 512 < 512 := Nat.mod_lt _ (by decide)
    have h9 : hm (s % 512) ||| E < 2 ^ 10 := Nat.or_lt_two_pow (lt1024 (h.2 _ hl).2 hn) (lt1024 hE hn)
    rw [if_pos rfl, and511, if_pos (inb_nI hl (by decide)), nI_clamp (by omega), (h.2 _ hl).1, fa_or, nI_not hs _ h9, opn_eff (fun s hs => (h.2 s hs).2) h2 hn hE hs e]
theorem opn_lt {n : Nat} {H : Nat → Nat → Bool} {s : Nat} : opn n H s < 2 ^ n := msk_lt _ _
theorem opn_bit {n : Nat} {H : Nat → Nat → Bool} {s p : Nat} : (opn n H s).testBit p = (decide (p < n) && canV n H s p) := msk_bit _ _ _
