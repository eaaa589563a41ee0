/-! PURE: the first place of a shortest way. -/
def shP (n : Nat) (H : Nat → Nat → Bool) (s p : Nat) : Bool := (safe n H s).testBit p && decide ((wOf n H (s ||| 2 ^ p)).2.2.1 + 1 = (wOf n H s).2.2.1)
def shF (n : Nat) (H : Nat → Nat → Bool) (s : Nat) : Int32 := fFirst (shP n H s) n 0
section SH
variable {g : gG} {k n : Nat} {hm : Nat → Nat} {S : aS} {t : Nat} {tm : aT}
theorem safe_bit {H : Nat → Nat → Bool} {s p : Nat} (h : (safe n H s).testBit p = true) : p < n ∧ canV n H s p = true ∧ fin n H none (s ||| 2 ^ p) = true := by
  unfold safe at h
  rw [msk_bit] at h
  have h9 := Bool.and_eq_true_iff.mp h
  have h8 := Bool.and_eq_true_iff.mp h9.2
  exact ⟨of_decide_eq_true h9.1, h8.1, h8.2⟩
theorem safe_b {H : Nat → Nat → Bool} {s p : Nat} (hp : p < n) (hv : canV n H s p = true) : (safe n H s).testBit p = fin n H none (s ||| 2 ^ p) := by
  unfold safe
  rw [msk_bit, hv]
  simp [hp]
theorem c_short_l {E : Nat} (hH : cH g n hm) (h2 : 2 ≤ n) (hn : n ≤ 10) {s : Nat} (hs : s < 2 ^ n) (b : ∀ s', s' < 2 ^ n → rch n (effH hm E) s s' → wR g s' (wOf n (effH hm E) s')) (d : Nat) : ∀ i fu, i + d = n → d < fu → fb_X8_firstOfShortest_18 k fu (nI s) (nI i) g = some (fFirst (shP n (effH hm E) s) d i, g) := by
  have h10 := lt1024 hs hn
  have hsl : safe n (effH hm E) s < 2 ^ 10 := Nat.lt_of_lt_of_le (msk_lt _ _) (Nat.pow_le_pow_right (by decide) hn)
  have hr0 : rch n (effH hm E) s s := rch_iff.mpr (Or.inl rfl)
  obtain ⟨w1, w2, w3, w4⟩ := b s hs hr0
  rw [wOf_safe h2 hn hs] at w1
  have hb0 := wOf_small (effH hm E) h2 hn hs
  induction d with
  | zero =>
    intro i fu hi hf
    obtain ⟨fu, rfl⟩ : ∃ f', fu = f' + 1 := ⟨fu - 1, by omega⟩
    have e : i = n := by omega
    subst e
    unfold fb_X8_firstOfShortest_18 fs_X8_firstOfShortest_18 f_X0_count
    simp only [ob_eq]
    rw [hH.1, if_pos (nI_le (Nat.le_refl _) (by omega))]
    rfl
  | succ d ih =>
    intro i fu hi hf
    obtain ⟨fu, rfl⟩ : ∃ f', fu = f' + 1 := ⟨fu - 1, by omega⟩
    have hgo := ih (i + 1) fu (by omega) (by omega)
    unfold fb_X8_firstOfShortest_18 fs_X8_firstOfShortest_18 f_X0_count
    simp only [ob_eq]
    rw [hH.1, if_neg (nI_ge (by omega) (by omega)), if_pos (inb_nI h10 (by decide)), nI_clamp (by omega), w1, c_isIn (by omega) (by omega)]
    simp only [ob_eq, gl_eq, nI_1]
    unfold fFirst
    cases eb : (safe n (effH hm E) s).testBit i with
    | false =>
      have e1 : shP n (effH hm E) s i = false := by unfold shP; rw [eb]; rfl
      rw [b2_f, if_pos rfl, e1, if_neg (by decide)]
      exact hgo
    | true =>
      obtain ⟨q1, q2, q3⟩ := safe_bit eb
      have hlt : s ||| 2 ^ i < 2 ^ n := or_lt hs q1
      have hlt10 := lt1024 hlt hn
      have hb1 := wOf_small (effH hm E) h2 hn hlt
      obtain ⟨v1, v2, v3, v4⟩ := b _ hlt (rch_iff.mpr (Or.inr ⟨s, i, hr0, q1, q2, rfl⟩))
      have e1 : shP n (effH hm E) s i = decide ((wOf n (effH hm E) (s ||| 2 ^ i)).2.2.1 + 1 = (wOf n (effH hm E) s).2.2.1) := by unfold shP; rw [eb]; rfl
      rw [b2_t, if_neg (by decide), show (1 : Int32) <<< (nI i &&& 31) = nI (2 ^ i) from nI_shl1 (by omega), fa_or, if_pos (inb_nI hlt10 (by decide)), if_pos (inb_nI h10 (by decide)), nI_clamp (by omega), v3, w3, nI_1, e1]
      by_cases e9 : (wOf n (effH hm E) (s ||| 2 ^ i)).2.2.1 + 1 = (wOf n (effH hm E) s).2.2.1
      · rw [if_pos (by rw [e9]), decide_eq_true e9, if_pos rfl]
      · rw [if_neg (fun e8 => e9 ((nI_eq (by omega) (by omega)).mp e8)), decide_eq_false e9, if_neg (by decide)]
        exact hgo
theorem st_firstS {g g1 : gG} {a x E y : Int32} (e1 : f_X5_visitedBy k a g = some (x, g)) (e2 : f_X5_easedPlaces k g = some (E, g)) (e3 : f_X8_lookFrom x E g = some ((), g1)) (e7 : fb_X8_firstOfShortest_18 k gFuel x (0 : Int32) g1 = some (y, g1)) : f_X8_firstOfShortest k a g = some (y, g1) := by
  unfold f_X8_firstOfShortest
  simp only [e1, ob_eq, gl_eq, e2, e3, e7]
theorem c_firstS (hH : cH g n hm) (h2 : 2 ≤ n) (hn : n ≤ 10) (h : cS g k S) (ok : okS n S) (ht : S.2.2.2[t]? = some tm) : ∃ g', f_X8_firstOfShortest k (nI t) g = some (shF n (effH hm S.2.2.1) (setOf tm.1), g') ∧ frm 157 162 g g' := by
  have h1 := ok_get ok ht
  have hs := setOf_lt h1.1.2
  obtain ⟨g', e, a, b, c⟩ := c_lookT hH h2 hn ok ht
  refine ⟨g', ?_, c⟩
  refine st_firstS (k := k) (c_visitedBy h ok ht) (c_eased h) e ?_
  exact c_short_l (k := k) (E := S.2.2.1) (cH_fr hH c (by omega)) h2 hn hs b n 0 gFuel (by omega) (by unfold gFuel; omega)
theorem shP_no {H : Nat → Nat → Bool} {s : Nat} (h2 : 2 ≤ n) (hs : s < 2 ^ n) (h : s.testBit (n - 1) = true ∨ fin n H none s = false) : shF n H s = -9 := by
  unfold shF
  refine fFirst_no n 0 (fun j _ hj => ?_)
  unfold shP
  have e : (safe n H s).testBit j = false := by
    cases e : (safe n H s).testBit j with
    | false => rfl
    | true =>
      obtain ⟨q1, q2, q3⟩ := safe_bit e
      rcases h with h | h
      · rw [safe_end h] at e; cases e
      · rw [(fin_iff h2 hs).mpr (Or.inr ⟨j, q1, q2, q3⟩)] at h; cases h
  rw [e]; rfl
theorem shP_ex {H : Nat → Nat → Bool} (h2 : 2 ≤ n) (hn : n ≤ 10) {s m : Nat} (hs : s < 2 ^ n) (h : fewO n H s = some m) : ∃ p, 0 ≤ p ∧ p < n ∧ shP n H s p = true := by
  obtain ⟨⟨p, hp, hx⟩, _⟩ := minO_some h
  refine ⟨p, Nat.zero_le _, hp, ?_⟩
  have hw : (wOf n H s).2.2.1 = m := by rw [wOf_few hn hs, h]; rfl
  unfold fewC at hx
  by_cases e : canV n H s p = true ∧ 0 < (wOf n H (s ||| 2 ^ p)).2.1
  · rw [if_pos e] at hx
    have hx := Option.some.inj hx
    have h3 := (wOf_pos (H := H) h2 hn (2 ^ n) (s ||| 2 ^ p) (or_lt hs hp) (by omega)).mp e.2
    unfold shP
    rw [safe_b hp e.1, h3, hw, hx]
    simp
  · rw [if_neg e] at hx; cases hx
end SH
