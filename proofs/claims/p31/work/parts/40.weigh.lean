/-! PURE: the class weighs a set. -/
def wR (g : gG) (s : Nat) (a : aW) : Prop := g.1 158 s = nI a.1 ∧ g.1 159 s = nI a.2.1 ∧ g.1 160 s = nI a.2.2.1 ∧ g.1 161 s = nI a.2.2.2
def wPut (g : gG) (s : Nat) (a : aW) : gG := gI1 (gI1 (gI1 (gI1 g 158 s (nI a.1)) 159 s (nI a.2.1)) 160 s (nI a.2.2.1)) 161 s (nI a.2.2.2)
theorem wPut_self (g : gG) (s : Nat) (a : aW) : wR (wPut g s a) s a := by
  refine ⟨?_, ?_, ?_, ?_⟩ <;> simp [wPut, gI1_1, upd]
theorem wPut_ne {g : gG} {s s' : Nat} {a a' : aW} (h : s' ≠ s) (hr : wR g s' a') : wR (wPut g s a) s' a' := by
  obtain ⟨h1, h2, h3, h4⟩ := hr
  refine ⟨?_, ?_, ?_, ?_⟩
  · simpa [wPut, gI1_1, upd, h] using h1
  · simpa [wPut, gI1_1, upd, h] using h2
  · simpa [wPut, gI1_1, upd, h] using h3
  · simpa [wPut, gI1_1, upd, h] using h4
theorem wPut_fr (g : gG) (s : Nat) (a : aW) : frm 158 162 g (wPut g s a) := (((frm.rf.i1 (by omega) (by omega)).i1 (by omega) (by omega)).i1 (by omega) (by omega)).i1 (by omega) (by omega)
theorem nI_z {a : Nat} (h : a < 2 ^ 31) : (nI a = (0 : Int32)) ↔ a = 0 := nI_eq (b := 0) h (by decide)
theorem c_weigh_l {g : gG} {s O : Nat} {W : Nat → aW} {a0 : aW} (hs : s < 1024) (hO : O < 1024) (hA : ∀ k, (wgo s W O a0 k).1 < 2 ^ 31 ∧ (wgo s W O a0 k).2.2.1 < 2 ^ 31) (hW : ∀ p, O.testBit p = true → wR g (s ||| 2 ^ p) (W (s ||| 2 ^ p)) ∧ (W (s ||| 2 ^ p)).2.1 < 2 ^ 31 ∧ (W (s ||| 2 ^ p)).2.2.1 + 1 < 2 ^ 31) (d : Nat) : ∀ k fu, k + d = 10 → d < fu → fb_X8_weigh_53 fu (nI s) (nI O) (nI (wgo s W O a0 k).1) (nI (wgo s W O a0 k).2.1) (nI (wgo s W O a0 k).2.2.1) (nI (wgo s W O a0 k).2.2.2) (nI k) g = some ((), wPut g s (wgo s W O a0 10)) := by
  induction d with
  | zero =>
    intro k fu hk hf
    obtain ⟨fu, rfl⟩ : ∃ f', fu = f' + 1 := ⟨fu - 1, by omega⟩
    have e : k = 10 := by omega
    subst e
    unfold fb_X8_weigh_53 fs_X8_weigh_53
    rw [if_pos (show (10 : Int32) ≤ nI 10 by decide), inb_nI hs (by decide)]
    simp only [if_true, gLet, nI_clamp (n := s) (by omega)]
    rfl
  | succ d ih =>
    intro k fu hk hf
    obtain ⟨fu, rfl⟩ : ∃ f', fu = f' + 1 := ⟨fu - 1, by omega⟩
    have hgo := ih (k + 1) fu (by omega) (by omega)
    rw [wgo] at hgo
    unfold wstep at hgo
    have h10 : s ||| 2 ^ k < 2 ^ 10 := or_lt hs (by omega)
    unfold fb_X8_weigh_53 fs_X8_weigh_53
    rw [if_neg (show ¬ ((10 : Int32) ≤ nI k) from nI_ge (b := 10) (by omega) (by decide)), show (1 : Int32) <<< (nI k &&& 31) = nI (2 ^ k) from nI_shl1 (by omega), fa_or]
    simp only [gLet, nI_1]
    cases eb : O.testBit k with
    | false =>
      have e0 : (nI O >>> (nI k &&& 31)) &&& 1 = 0 := (nI_test0 (by omega) (by omega)).mpr eb
      rw [if_pos e0]
      rw [eb, if_neg (by simp)] at hgo
      exact hgo
    | true =>
      have e0 : ¬ ((nI O >>> (nI k &&& 31)) &&& 1 = 0) := by
        intro e9
        have := (nI_test0 (by omega) (by omega)).mp e9
        rw [eb] at this; cases this
      obtain ⟨⟨w1, w2, w3, w4⟩, b1, b2⟩ := hW k eb
      rw [if_neg e0, if_pos (inb_nI (by omega) (by decide)), nI_clamp (by omega), w2]
      by_cases ez : 0 < (W (s ||| 2 ^ k)).2.1
      · rw [if_neg (show ¬ (nI (W (s ||| 2 ^ k)).2.1 ≤ (0 : Int32)) from nI_ge (a := 0) ez b1)]
        rw [eb, if_pos ⟨rfl, ez⟩] at hgo
        have hfin : ∀ F : Nat, F = (if (wgo s W O a0 k).1 = 0 then (W (s ||| 2 ^ k)).2.2.1 + 1 else if (W (s ||| 2 ^ k)).2.2.1 + 1 < (wgo s W O a0 k).2.2.1 then (W (s ||| 2 ^ k)).2.2.1 + 1 else (wgo s W O a0 k).2.2.1) → fs_X8_weigh_118 (fb_X8_weigh_53 fu) (nI s) (nI O) (nI (wgo s W O a0 k).1) (nI (wgo s W O a0 k).2.1) (nI (wgo s W O a0 k).2.2.2) (nI k) (nI (s ||| 2 ^ k)) (nI F) g = some ((), wPut g s (wgo s W O a0 10)) := by
          intro F hF
          unfold fs_X8_weigh_118
          rw [show (1 : Int32) <<< (nI k &&& 31) = nI (2 ^ k) from nI_shl1 (by omega), fa_or, inb_nI (show s ||| 2 ^ k < 1024 by omega) (by decide)]
          simp only [if_true, gLet, nI_1, nI_clamp (n := s ||| 2 ^ k) (by omega)]
          rw [w2, w4, nI_add, fa_or, fa_and, hF]
          exact hgo
        by_cases el : (wgo s W O a0 k).1 = 0
        · rw [if_pos ((nI_z (hA k).1).mpr el), if_pos (inb_nI (by omega) (by decide)), w3, nI_1]
          exact hfin _ (by rw [if_pos el])
        · rw [if_neg (fun e9 => el ((nI_z (hA k).1).mp e9)), if_pos (inb_nI (by omega) (by decide)), w3, nI_1]
          by_cases em : (W (s ||| 2 ^ k)).2.2.1 + 1 < (wgo s W O a0 k).2.2.1
          · rw [if_pos (nI_lt em (hA k).2)]
            exact hfin _ (by rw [if_neg el, if_pos em])
          · rw [if_neg (nI_nlt (by omega) b2)]
            exact hfin _ (by rw [if_neg el, if_neg em])
      · rw [if_pos (show nI (W (s ||| 2 ^ k)).2.1 ≤ (0 : Int32) from nI_le (b := 0) (by omega) (by decide))]
        rw [if_neg (fun h9 => ez h9.2)] at hgo
        exact hgo
