/-! PURE: what the class answers of the ways on. -/
theorem gl_eq {α β : Type} (v : α) (F : α → β) : gLet v F = F v := by
  have h : gLet v F = F v := rfl
  exact h.trans (Eq.refl _)
theorem ob_eq {α β : Type} (z : α) (F : α → Option β) : (some z).bind F = F z := by
  have h : (some z).bind F = F z := rfl
  exact h.trans (Eq.refl _)
theorem st_safe {g g' : gG} {k : Nat} {a x E y : Int32} (e1 : f_X5_visitedBy k a g = some (x, g)) (e2 : f_X5_easedPlaces k g = some (E, g)) (e3 : f_X8_lookFrom x E g = some ((), g')) (hb : inb x 1024 = true) (w : g'.1 158 x.toNatClampNeg = y) : f_X8_safeFor k a g = some (y, g') := by
  unfold f_X8_safeFor
  simp only [e1, ob_eq, gl_eq, e2, e3, hb, if_true, w]
theorem st_orders {g g' : gG} {k : Nat} {a x E y : Int32} (e1 : f_X5_visitedBy k a g = some (x, g)) (e2 : f_X5_easedPlaces k g = some (E, g)) (e3 : f_X8_lookFrom x E g = some ((), g')) (hb : inb x 1024 = true) (w : g'.1 159 x.toNatClampNeg = y) : f_X8_ordersOf k a g = some (y, g') := by
  unfold f_X8_ordersOf
  simp only [e1, ob_eq, gl_eq, e2, e3, hb, if_true, w]
theorem st_fewest {g g' : gG} {k : Nat} {a x E y z : Int32} (e1 : f_X5_visitedBy k a g = some (x, g)) (e2 : f_X5_easedPlaces k g = some (E, g)) (e3 : f_X8_lookFrom x E g = some ((), g')) (hb : inb x 1024 = true) (w : g'.1 159 x.toNatClampNeg = y) (w2 : g'.1 160 x.toNatClampNeg = z) : f_X8_fewestVisits k a g = some (if y = 0 then -9 else z, g') := by
  unfold f_X8_fewestVisits
  simp only [e1, ob_eq, gl_eq, e2, e3, hb, if_true, w, w2]
  by_cases h : y = 0
  · rw [if_pos h, if_pos h]
  · rw [if_neg h, if_neg h]
theorem st_needed {g g' : gG} {k : Nat} {a x E y z : Int32} (e1 : f_X5_visitedBy k a g = some (x, g)) (e2 : f_X5_easedPlaces k g = some (E, g)) (e3 : f_X8_lookFrom x E g = some ((), g')) (hb : inb x 1024 = true) (w : g'.1 159 x.toNatClampNeg = y) (w2 : g'.1 161 x.toNatClampNeg = z) : f_X8_neededBy k a g = some (if y = 0 then -9 else z, g') := by
  unfold f_X8_neededBy
  simp only [e1, ob_eq, gl_eq, e2, e3, hb, if_true, w, w2]
  by_cases h : y = 0
  · rw [if_pos h, if_pos h]
  · rw [if_neg h, if_neg h]
theorem if_fin {c : Bool} {y z : Int32} (h : y = 0 ↔ c = false) : (if y = 0 then (-9 : Int32) else z) = (if c = true then z else -9) := by
  cases c with
  | true =>
    have h9 : ¬ y = 0 := fun e => by have := h.mp e; cases this
    rw [if_neg h9, if_pos rfl]
  | false => rw [if_pos (h.mpr rfl), if_neg (by decide)]
section CW
variable {g : gG} {k n : Nat} {S : aS} {hm : Nat → Nat} {t : Nat} {tm : aT}
theorem c_eased (h : cS g k S) : f_X5_easedPlaces k g = some (nI S.2.2.1, g) := by
  unfold f_X5_easedPlaces
  rw [show g.1 k 8 = _ from h.1]
theorem c_lookT (hH : cH g n hm) (h2 : 2 ≤ n) (hn : n ≤ 10) (ok : okS n S) (ht : S.2.2.2[t]? = some tm) : ∃ g', f_X8_lookFrom (nI (setOf tm.1)) (nI S.2.2.1) g = some ((), g') ∧ (∀ s, s < 2 ^ n → (rch n (effH hm S.2.2.1) (setOf tm.1) s → g'.1 157 s = nI (opn n (effH hm S.2.2.1) s)) ∧ (¬ rch n (effH hm S.2.2.1) (setOf tm.1) s → g'.1 157 s = -1)) ∧ (∀ s, s < 2 ^ n → rch n (effH hm S.2.2.1) (setOf tm.1) s → wR g' s (wOf n (effH hm S.2.2.1) s)) ∧ frm 157 162 g g' := by
  have h1 := ok_get ok ht
  exact c_lookFrom hH h2 hn ok.1 (setOf_lt h1.1.2)
theorem c_safeFor (hH : cH g n hm) (h2 : 2 ≤ n) (hn : n ≤ 10) (h : cS g k S) (ok : okS n S) (ht : S.2.2.2[t]? = some tm) : ∃ g', f_X8_safeFor k (nI t) g = some (nI (safe n (effH hm S.2.2.1) (setOf tm.1)), g') ∧ frm 157 162 g g' := by
  have h1 := ok_get ok ht
  have hs := setOf_lt h1.1.2
  have h3 := lt1024 hs hn
  obtain ⟨g', e, a, b, c⟩ := c_lookT hH h2 hn ok ht
  refine ⟨g', ?_, c⟩
  obtain ⟨w1, w2, w3, w4⟩ := b _ hs (rch_iff.mpr (Or.inl rfl))
  refine st_safe (c_visitedBy h ok ht) (c_eased h) e (inb_nI h3 (by decide)) ?_
  rw [nI_clamp (by omega), w1, wOf_safe h2 hn hs]
theorem c_ordersOf (hH : cH g n hm) (h2 : 2 ≤ n) (hn : n ≤ 10) (h : cS g k S) (ok : okS n S) (ht : S.2.2.2[t]? = some tm) : ∃ g', f_X8_ordersOf k (nI t) g = some (nI (wOf n (effH hm S.2.2.1) (setOf tm.1)).2.1, g') ∧ frm 157 162 g g' := by
  have h1 := ok_get ok ht
  have hs := setOf_lt h1.1.2
  have h3 := lt1024 hs hn
  obtain ⟨g', e, a, b, c⟩ := c_lookT hH h2 hn ok ht
  refine ⟨g', ?_, c⟩
  obtain ⟨w1, w2, w3, w4⟩ := b _ hs (rch_iff.mpr (Or.inl rfl))
  refine st_orders (c_visitedBy h ok ht) (c_eased h) e (inb_nI h3 (by decide)) ?_
  rw [nI_clamp (by omega), w2]
theorem c_fewest (hH : cH g n hm) (h2 : 2 ≤ n) (hn : n ≤ 10) (h : cS g k S) (ok : okS n S) (ht : S.2.2.2[t]? = some tm) : ∃ g', f_X8_fewestVisits k (nI t) g = some (if fin n (effH hm S.2.2.1) none (setOf tm.1) = true then nI (wOf n (effH hm S.2.2.1) (setOf tm.1)).2.2.1 else -9, g') ∧ frm 157 162 g g' := by
  have h1 := ok_get ok ht
  have hs := setOf_lt h1.1.2
  have h3 := lt1024 hs hn
  obtain ⟨g', e, a, b, c⟩ := c_lookT hH h2 hn ok ht
  refine ⟨g', ?_, c⟩
  obtain ⟨w1, w2, w3, w4⟩ := b _ hs (rch_iff.mpr (Or.inl rfl))
  have hp := wOf_pos (H := effH hm S.2.2.1) h2 hn (2 ^ n) _ hs (by omega)
  have hb := wOf_small (effH hm S.2.2.1) h2 hn hs
  have hz : nI (wOf n (effH hm S.2.2.1) (setOf tm.1)).2.1 = 0 ↔ fin n (effH hm S.2.2.1) none (setOf tm.1) = false := by
    rw [nI_z (by omega)]
    constructor
    · intro h9
      cases e9 : fin n (effH hm S.2.2.1) none (setOf tm.1) with
      | false => rfl
      | true => have := hp.mpr e9; omega
    · intro h9
      by_cases h8 : 0 < (wOf n (effH hm S.2.2.1) (setOf tm.1)).2.1
      · rw [hp.mp h8] at h9; cases h9
      · omega
  rw [← if_fin hz]
  exact st_fewest (c_visitedBy h ok ht) (c_eased h) e (inb_nI h3 (by decide)) (by rw [nI_clamp (by omega), w2]) (by rw [nI_clamp (by omega), w3])
theorem c_needed (hH : cH g n hm) (h2 : 2 ≤ n) (hn : n ≤ 10) (h : cS g k S) (ok : okS n S) (ht : S.2.2.2[t]? = some tm) : ∃ g', f_X8_neededBy k (nI t) g = some (if fin n (effH hm S.2.2.1) none (setOf tm.1) = true then nI (wOf n (effH hm S.2.2.1) (setOf tm.1)).2.2.2 else -9, g') ∧ frm 157 162 g g' := by
  have h1 := ok_get ok ht
  have hs := setOf_lt h1.1.2
  have h3 := lt1024 hs hn
  obtain ⟨g', e, a, b, c⟩ := c_lookT hH h2 hn ok ht
  refine ⟨g', ?_, c⟩
  obtain ⟨w1, w2, w3, w4⟩ := b _ hs (rch_iff.mpr (Or.inl rfl))
  have hp := wOf_pos (H := effH hm S.2.2.1) h2 hn (2 ^ n) _ hs (by omega)
  have hb := wOf_small (effH hm S.2.2.1) h2 hn hs
  have hz : nI (wOf n (effH hm S.2.2.1) (setOf tm.1)).2.1 = 0 ↔ fin n (effH hm S.2.2.1) none (setOf tm.1) = false := by
    rw [nI_z (by omega)]
    constructor
    · intro h9
      cases e9 : fin n (effH hm S.2.2.1) none (setOf tm.1) with
      | false => rfl
      | true => have := hp.mpr e9; omega
    · intro h9
      by_cases h8 : 0 < (wOf n (effH hm S.2.2.1) (setOf tm.1)).2.1
      · rw [hp.mp h8] at h9; cases h9
      · omega
  rw [← if_fin hz]
  exact st_needed (c_visitedBy h ok ht) (c_eased h) e (inb_nI h3 (by decide)) (by rw [nI_clamp (by omega), w2]) (by rw [nI_clamp (by omega), w4])
end CW
