/-! PURE: the reference's sets that are good, and what is safe. -/
def dn (m : Nat) : Int32 := nI m - 1
theorem dn_s (m : Nat) : dn (m + 1) = nI m := nI_pred m
theorem dn_m (m : Nat) : nI m + (-1 : Int32) = dn m := by
  unfold dn
  rw [Int32.sub_eq_add_neg]
theorem frI_ne {b : Option Nat} {p : Nat} (hb : ∀ q, b = some q → q < 2 ^ 31) (hp : p < 2 ^ 31) : (nI p = frI b) ↔ b = some p := by
  cases b with
  | none =>
    constructor
    · intro e
      have h1 : (nI p).toInt = (-9 : Int32).toInt := congrArg Int32.toInt e
      rw [nI_toInt hp] at h1
      have h2 : (-9 : Int32).toInt = -9 := by decide
      omega
    · intro e; cases e
  | some q =>
    have := hb q rfl
    show nI p = nI q ↔ _
    rw [nI_eq hp this]
    constructor
    · intro e; rw [e]
    · intro e; cases e; rfl
section MG
variable {r n : Nat} {H : Nat → Nat → Bool} {b : Option Nat}
theorem m_good_in {g : gG} (hH : mH (g.1 r) n H) (h2 : 2 ≤ n) (hn : n ≤ 10) (hb : ∀ q, b = some q → q < 2 ^ 31) {G : Nat → Bool} {s : Nat} (hs : s < 2 ^ (n - 1)) (hG : ∀ s', s < s' → s' < 2 ^ (n - 1) → g.1 188 s' = b2 (G s')) (F12 : Int32 → Int32 → Int32 → gG → Option (Unit × gG)) (B : Bool) (d : Nat) : ∀ i fu, i + d = n - 1 → d < fu → fb_X10_layGood_42 r 394 F12 fu (frI b) (nI (n - 1)) (nI s) (b2 (B || anyP (fun p => !decide (b = some p) && (canV n H s p && G (s ||| 2 ^ p))) i)) (nI i) g = fs_X10_layGood_98 r 394 F12 (frI b) (nI (n - 1)) (nI s) (b2 (B || anyP (fun p => !decide (b = some p) && (canV n H s p && G (s ||| 2 ^ p))) (n - 1))) g := by
  have h512 : 2 ^ (n - 1) ≤ 512 := Nat.pow_le_pow_right (n := 2) (j := 9) (by decide) (by omega)
  induction d with
  | zero =>
    intro i fu hi hf
    obtain ⟨fu, rfl⟩ : ∃ f', fu = f' + 1 := ⟨fu - 1, by omega⟩
    have e : i = n - 1 := by omega
    subst e
    unfold fb_X10_layGood_42 fs_X10_layGood_42
    rw [if_pos (nI_le (Nat.le_refl _) (by omega))]
  | succ d ih =>
    intro i fu hi hf
    obtain ⟨fu, rfl⟩ : ∃ f', fu = f' + 1 := ⟨fu - 1, by omega⟩
    have hgo := ih (i + 1) fu (by omega) (by omega)
    unfold fb_X10_layGood_42 fs_X10_layGood_42
    rw [if_neg (nI_ge (by omega) (by omega))]
    cases eA : (B || anyP (fun p => !decide (b = some p) && (canV n H s p && G (s ||| 2 ^ p))) i) with
    | true =>
      have eT : (B || anyP (fun p => !decide (b = some p) && (canV n H s p && G (s ||| 2 ^ p))) (n - 1)) = true := by
        cases hB : B with
        | true => rfl
        | false =>
          rw [hB, Bool.false_or] at eA
          rw [Bool.false_or]
          exact anyP_true eA (by omega)
      rw [b2_t, if_neg (by decide), eT]
      rfl
    | false =>
      rw [b2_f, if_pos rfl]
      have eN : (B || anyP (fun p => !decide (b = some p) && (canV n H s p && G (s ||| 2 ^ p))) (i + 1)) = (!decide (b = some i) && (canV n H s i && G (s ||| 2 ^ i))) := by
        rw [anyP, ← Bool.or_assoc, eA, Bool.false_or]
      rw [eN] at hgo
      by_cases eb : b = some i
      · rw [if_pos ((frI_ne hb (by omega)).mpr eb)]
        unfold fs_X10_layGood_89 fs_X10_layGood_90
        simp only [gLet, nI_1]
        rw [← hgo, eb]
        simp [b2]
      · rw [if_neg (fun e9 => eb ((frI_ne hb (by omega)).mp e9)), m_canVisit hH h2 hn (by omega) (by omega)]
        simp only [Option.bind_some]
        cases eC : canV n H s i with
        | false =>
          rw [b2_f, if_pos rfl]
          unfold fs_X10_layGood_89 fs_X10_layGood_90
          simp only [gLet, nI_1]
          rw [← hgo, eC]
          simp [b2]
        | true =>
          have hlt : s ||| 2 ^ i < 2 ^ (n - 1) := or_lt hs (by omega)
          rw [b2_t, if_neg (by decide), show (1 : Int32) <<< (nI i &&& 31) = nI (2 ^ i) from nI_shl1 (by omega), fa_or, if_pos (inb_nI (by omega) (by decide)), nI_clamp (by omega), hG _ (or_gt (canV_bit eC)) hlt]
          rw [eC] at hgo
          have eb' : decide (b = some i) = false := by simp [eb]
          rw [eb'] at hgo
          cases eG : G (s ||| 2 ^ i) with
          | false =>
            rw [b2_f, if_pos rfl]
            unfold fs_X10_layGood_89 fs_X10_layGood_90
            simp only [gLet, nI_1]
            rw [← hgo, eG]
            rfl
          | true =>
            rw [b2_t, if_neg (by decide)]
            unfold fs_X10_layGood_90
            simp only [gLet, nI_1]
            rw [← hgo, eG]
            rfl
theorem m_good_out (h2 : 2 ≤ n) (hn : n ≤ 10) (hb : ∀ q, b = some q → q < 2 ^ 31) (hr : r ≠ 188) (m : Nat) : ∀ (g : gG) fu, mH (g.1 r) n H → m ≤ 2 ^ (n - 1) → m < fu → (∀ s', m ≤ s' → s' < 2 ^ (n - 1) → g.1 188 s' = b2 (good n H b s')) → ∃ g', fb_X10_layGood_12 r 394 fu (frI b) (nI (n - 1)) (dn m) g = some ((), g') ∧ (∀ s', s' < 2 ^ (n - 1) → g'.1 188 s' = b2 (good n H b s')) ∧ frm 188 189 g g' := by
  have h512 : 2 ^ (n - 1) ≤ 512 := Nat.pow_le_pow_right (n := 2) (j := 9) (by decide) (by omega)
  induction m with
  | zero =>
    intro g fu hH hm hf hG
    obtain ⟨fu, rfl⟩ : ∃ f', fu = f' + 1 := ⟨fu - 1, by omega⟩
    refine ⟨g, ?_, fun s' hs => hG s' (by omega) hs, frm.rf⟩
    unfold fb_X10_layGood_12 fs_X10_layGood_12
    rw [if_pos (show dn 0 < (0 : Int32) by decide)]
  | succ m ih =>
    intro g fu hH hm hf hG
    obtain ⟨fu, rfl⟩ : ∃ f', fu = f' + 1 := ⟨fu - 1, by omega⟩
    have hr' : (gI1 g 188 m (b2 (good n H b m))).1 r = g.1 r := by rw [gI1_1, if_neg hr]
    obtain ⟨g', e, a, c⟩ := ih (gI1 g 188 m (b2 (good n H b m))) fu (by rw [hr']; exact hH) (by omega) (by omega) (by
      intro s' h3 h4
      by_cases e9 : s' = m
      · rw [e9, r_self, if_pos rfl]
      · rw [r_self, if_neg e9]; exact hG s' (by omega) h4)
    refine ⟨g', ?_, a, (frm.rf.i1 (by omega) (by omega)).tr c⟩
    have hgo : ∀ B : Bool, B = (!decide (b = some (n - 1)) && H (n - 1) m) → fs_X10_layGood_37 r 394 (fb_X10_layGood_12 r 394 fu) (frI b) (nI (n - 1)) (nI m) (b2 B) g = some ((), g') := by
      intro B hB
      unfold fs_X10_layGood_37
      have h9 := m_good_in hH h2 hn hb (G := good n H b) (s := m) (by omega) (fun s' q1 q2 => hG s' (by omega) q2) (fb_X10_layGood_12 r 394 fu) B (n - 1) 0 gFuel (by omega) (by unfold gFuel; omega)
      have e0 : (B || anyP (fun p => !decide (b = some p) && (canV n H m p && good n H b (m ||| 2 ^ p))) 0) = B := by simp [anyP]
      rw [e0] at h9
      have e1 : (B || anyP (fun p => !decide (b = some p) && (canV n H m p && good n H b (m ||| 2 ^ p))) (n - 1)) = good n H b m := by
        rw [good_eq n H b (by omega), hB]
        rfl
      rw [e1] at h9
      rw [show fb_X10_layGood_42 r 394 (fb_X10_layGood_12 r 394 fu) gFuel (frI b) (nI (n - 1)) (nI m) (b2 B) (0 : Int32) g = _ from h9]
      unfold fs_X10_layGood_98
      rw [if_pos (inb_nI (by omega) (by decide)), nI_clamp (by omega), nar_b2]
      simp only [gLet, dn_m]
      exact e
    unfold fb_X10_layGood_12 fs_X10_layGood_12
    rw [dn_s, if_neg (nI_pos (by omega))]
    by_cases eb : b = some (n - 1)
    · rw [if_pos ((frI_ne hb (by omega)).mpr eb).symm]
      unfold fs_X10_layGood_36
      exact hgo false (by rw [eb]; simp)
    · rw [if_neg (fun e9 => eb ((frI_ne hb (by omega)).mp e9.symm)), m_isHeld hH hn (by omega) (by omega)]
      simp only [Option.bind_some]
      have eb' : decide (b = some (n - 1)) = false := by simp [eb]
      cases eH : H (n - 1) m with
      | false =>
        rw [b2_f, if_pos rfl]
        unfold fs_X10_layGood_36
        exact hgo false (by rw [eH]; simp)
      | true =>
        rw [b2_t, if_neg (by decide)]
        exact hgo true (by rw [eH, eb']; rfl)
theorem m_layGood {g : gG} (h2 : 2 ≤ n) (hn : n ≤ 10) (hb : ∀ q, b = some q → q < 2 ^ 31) (hr : r ≠ 188) (hH : mH (g.1 r) n H) : ∃ g', f_X10_layGood r 394 (frI b) g = some ((), g') ∧ (∀ s', s' < 2 ^ (n - 1) → g'.1 188 s' = b2 (good n H b s')) ∧ frm 188 189 g g' := by
  have h512 : 2 ^ (n - 1) ≤ 512 := Nat.pow_le_pow_right (n := 2) (j := 9) (by decide) (by omega)
  obtain ⟨g', e, a, c⟩ := m_good_out (r := r) (H := H) h2 hn hb hr (2 ^ (n - 1)) g gFuel hH (Nat.le_refl _) (by unfold gFuel; omega) (fun s' h3 h4 => by omega)
  refine ⟨g', ?_, a, c⟩
  unfold f_X10_layGood
  rw [m_chest hH h2]
  simp only [Option.bind_some, gLet]
  rw [show (1 : Int32) <<< (nI (n - 1) &&& 31) = nI (2 ^ (n - 1)) from nI_shl1 (by omega)]
  exact e
end MG
