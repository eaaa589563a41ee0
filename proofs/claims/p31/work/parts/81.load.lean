/-! PURE: a text becomes a hunt. -/
theorem sh63 : ∀ s, s < 512 → (nI s &&& (63 : Int32)) = nI (s % 64) := by decide +kernel
theorem w8 : ∀ s, s < 512 → ((nI s / (64 : Int32)) - (nI s / (64 : Int32)) / (8 : Int32) * (8 : Int32)) = nI (s / 64) := by decide +kernel
theorem btL_test (x : Int64) {s : Nat} (hs : s < 512) : (lg_cmp ((x.toUInt64 >>> ((nI s &&& (63 : Int32)).toInt64.toUInt64 &&& Int64.toUInt64 63)).toInt64 &&& (1 : Int64)) (0 : Int64) = 0) ↔ btL x (s % 64) = false := by
  obtain ⟨m, hm, rfl⟩ := wb_of x
  rw [sh63 s hs, wb_bit hm (by omega), lg_cmp_eq]
  have e1 : btL (lN m) (s % 64) = m.testBit (s % 64) := by
    unfold btL
    rw [wb_tb, BitVec.getLsbD_ofNat]
    simp; omega
  rw [e1, Nat.testBit_eq_decide_div_mod_eq]
  have h2 : m / 2 ^ (s % 64) % 2 < 2 := Nat.mod_lt _ (by decide)
  generalize m / 2 ^ (s % 64) % 2 = q at *
  rcases (show q = 0 ∨ q = 1 by omega) with rfl | rfl
  · exact ⟨fun _ => rfl, fun _ => rfl⟩
  · exact ⟨fun h => absurd h (by decide), fun h => by cases h⟩
def tD (D : List aP) (s p : Nat) : Bool := match D[p]? with
  | some z => z.2.2 s
  | none => false
def hmD (D : List aP) (s : Nat) : Nat := msk (tD D s) D.length
theorem hmD_lt (D : List aP) (s : Nat) : hmD D s < 2 ^ D.length := msk_lt _ _
theorem tD_at {D : List aP} {p : Nat} {z : aP} (h : D[p]? = some z) (s : Nat) : tD D s p = z.2.2 s := by
  unfold tD
  rw [h]
section LD
variable {g : gG} {D : List aP}
theorem c_held_l {s : Nat} (hs : s < 512) (hn : D.length ≤ 10) (h10 : g.1 3 10 = nI D.length) (hr : rdD g D) (d : Nat) : ∀ k fu, k + d = D.length → d < fu → fb_X2_heldFor_13 fu (nI s) (nI (s / 64)) (nI (msk (tD D s) k)) (nI k) g = some (nI (hmD D s), g) := by
  induction d with
  | zero =>
    intro k fu hk hf
    obtain ⟨fu, rfl⟩ : ∃ f', fu = f' + 1 := ⟨fu - 1, by omega⟩
    have e : k = D.length := by omega
    subst e
    unfold fb_X2_heldFor_13 fs_X2_heldFor_13
    rw [h10, if_pos (nI_le (Nat.le_refl _) (by omega))]
    rfl
  | succ d ih =>
    intro k fu hk hf
    obtain ⟨fu, rfl⟩ : ∃ f', fu = f' + 1 := ⟨fu - 1, by omega⟩
    show fs_X2_heldFor_13 (fb_X2_heldFor_13 fu) (nI s) (nI (s / 64)) (nI (msk (tD D s) k)) (nI k) g = _
    unfold fs_X2_heldFor_13
    have hz : ∃ z, D[k]? = some z := ⟨_, List.getElem?_eq_getElem (show k < D.length by omega)⟩
    obtain ⟨z, hz⟩ := hz
    have hb := (hr k z hz).2.2 s hs
    rw [← tD_at hz s] at hb
    rw [h10, if_neg (nI_ge (by omega) (by omega)), idx8, if_pos (inb_nI (by omega) (by decide)), nI_clamp (by omega)]
    simp only [gl_eq]
    rw [nI_1]
    cases et : tD D s k with
    | false =>
      rw [et] at hb
      have e2 := (btL_test _ hs).mpr hb
      rw [if_pos e2]
      have e1 : msk (tD D s) (k + 1) = msk (tD D s) k := by rw [msk, et, if_neg (by decide), Nat.or_zero]
      rw [← e1]
      exact ih (k + 1) fu (by omega) (by omega)
    | true =>
      rw [et] at hb
      have e2 : ¬ _ := fun h => absurd ((btL_test _ hs).mp h) (by rw [hb]; decide)
      rw [if_neg e2, show (1 : Int32) <<< (nI k &&& 31) = nI (2 ^ k) from nI_shl1 (by omega), fa_or]
      have e1 : msk (tD D s) (k + 1) = msk (tD D s) k ||| 2 ^ k := by rw [msk, et, if_pos rfl]
      rw [← e1]
      exact ih (k + 1) fu (by omega) (by omega)
theorem c_heldFor {s : Nat} (hs : s < 512) (hn : D.length ≤ 10) (h10 : g.1 3 10 = nI D.length) (hr : rdD g D) : f_X2_heldFor (nI s) g = some (nI (hmD D s), g) := by
  have hg : gFuel = 6000 := rfl
  unfold f_X2_heldFor
  rw [w8 s hs, gl_eq]
  exact c_held_l hs hn h10 hr D.length 0 gFuel (by omega) (by omega)
theorem c_take_l (hn : D.length ≤ 10) (d : Nat) : ∀ k (g : gG) fu, k + d = 512 → d < fu → g.1 3 10 = nI D.length → rdD g D → (∀ s, s < k → g.1 15 s = nI (hmD D s)) → ∃ g', fb_X0_take_10 fu (nI k) g = some ((), g') ∧ (∀ s, s < 512 → g'.1 15 s = nI (hmD D s)) ∧ (∀ j, j ≠ 15 → g'.1 j = g.1 j) ∧ g'.2 = g.2 := by
  induction d with
  | zero =>
    intro k g fu hk hf h10 hr h0
    obtain ⟨fu, rfl⟩ : ∃ f', fu = f' + 1 := ⟨fu - 1, by omega⟩
    have e : k = 512 := by omega
    subst e
    refine ⟨g, ?_, h0, fun _ _ => rfl, rfl⟩
    unfold fb_X0_take_10 fs_X0_take_10
    rw [if_pos (show (512 : Int32) ≤ nI 512 by decide)]
  | succ d ih =>
    intro k g fu hk hf h10 hr h0
    obtain ⟨fu, rfl⟩ : ∃ f', fu = f' + 1 := ⟨fu - 1, by omega⟩
    have e6 : ∀ j, j ≠ 15 → (gI1 g 15 k (nI (hmD D k))).1 j = g.1 j := fun j hj => by rw [gI1_1, if_neg hj]
    obtain ⟨g', e, q0, q1, q2⟩ := ih (k + 1) (gI1 g 15 k (nI (hmD D k))) fu (by omega) (by omega) (by rw [e6 3 (by decide)]; exact h10) (rdD_eq hr (e6 6 (by decide)) (e6 7 (by decide)) rfl) (fun s hs => by
      rw [r_self]
      by_cases es : s = k
      · rw [if_pos es, es]
      · rw [if_neg es]; exact h0 s (by omega))
    refine ⟨g', ?_, q0, fun j hj => by rw [q1 j hj, e6 j hj], q2⟩
    rw [← e]
    show fs_X0_take_10 (fb_X0_take_10 fu) (nI k) g = _
    unfold fs_X0_take_10
    rw [if_neg (show ¬ ((512 : Int32) ≤ nI k) from nI_ge (b := 512) (by omega) (by decide)), c_heldFor (by omega) hn h10 hr, ob_eq, if_pos (inb_nI (by omega) (by decide)), nI_clamp (by omega)]
    simp only [gl_eq]
    rw [nI_1]
theorem c_take (hn : D.length ≤ 10) (h10 : g.1 3 10 = nI D.length) (hr : rdD g D) : ∃ g', f_X0_take g = some ((), g') ∧ cH g' D.length (hmD D) ∧ ∀ j, j ≠ 14 → j ≠ 15 → g'.1 j = g.1 j := by
  have hg : gFuel = 6000 := rfl
  have e6 : ∀ j, j ≠ 14 → (gI1 g 14 1 (nI D.length)).1 j = g.1 j := fun j hj => by rw [gI1_1, if_neg hj]
  obtain ⟨g', e, q0, q1, q2⟩ := c_take_l hn 512 0 (gI1 g 14 1 (nI D.length)) gFuel (by omega) (by omega) (by rw [e6 3 (by decide)]; exact h10) (rdD_eq hr (e6 6 (by decide)) (e6 7 (by decide)) rfl) (fun s hs => by omega)
  refine ⟨g', ?_, ⟨by rw [q1 14 (by decide), r_self, if_pos rfl], fun s hs => ⟨q0 s hs, hmD_lt D s⟩⟩, fun j h1 h2 => by rw [q1 j h2, e6 j h1]⟩
  unfold f_X0_take f_X2_count
  rw [ob_eq, gl_eq, h10]
  exact e
theorem c_begin_l {X Y : Nat → Nat} (d : Nat) : ∀ k (g : gG) fu, k + d = 10 → d < fu → (∀ p, p < 10 → g.1 6 p = nI (X p) ∧ g.1 7 p = nI (Y p)) → (∀ p, p < k → g.1 17 p = nI (X p) ∧ g.1 18 p = nI (Y p)) → ∃ g', fb_X5_begin_2 16 fu (nI k) g = some ((), g') ∧ cS g' 16 (X, Y, 0, []) ∧ ∀ j, j ≠ 16 → j ≠ 17 → j ≠ 18 → g'.1 j = g.1 j := by
  induction d with
  | zero =>
    intro k g fu hk hf h6 h0
    obtain ⟨fu, rfl⟩ : ∃ f', fu = f' + 1 := ⟨fu - 1, by omega⟩
    have e : k = 10 := by omega
    subst e
    refine ⟨gI1 (gI1 g 16 8 0) 16 9 0, ?_, ⟨?_, ?_, fun p hp => ?_, fun t tm ht => ?_⟩, fun j h1 h2 h3 => by rw [gI1_1, if_neg h1, gI1_1, if_neg h1]⟩
    · unfold fb_X5_begin_2 fs_X5_begin_2
      rw [if_pos (show (10 : Int32) ≤ nI 10 by decide)]
      simp only [gl_eq]
    · show (gI1 (gI1 g 16 8 0) 16 9 0).1 (16 + 0) 8 = nI 0
      rw [r_self, if_neg (by decide), r_self, if_pos rfl]; rfl
    · show (gI1 (gI1 g 16 8 0) 16 9 0).1 (16 + 0) 9 = nI 0
      rw [r_self, if_pos rfl]; rfl
    · show (gI1 (gI1 g 16 8 0) 16 9 0).1 17 p = nI (X p) ∧ (gI1 (gI1 g 16 8 0) 16 9 0).1 18 p = nI (Y p)
      rw [gI1_1, if_neg (by decide), gI1_1, if_neg (by decide), gI1_1, if_neg (by decide), gI1_1, if_neg (by decide)]
      exact h0 p hp
    · have ht : ([] : List aT)[t]? = some tm := ht
      simp at ht
  | succ d ih =>
    intro k g fu hk hf h6 h0
    obtain ⟨fu, rfl⟩ : ∃ f', fu = f' + 1 := ⟨fu - 1, by omega⟩
    obtain ⟨hx, hy⟩ := h6 k (by omega)
    have e6 : ∀ j, j ≠ 17 → j ≠ 18 → (gI1 (gI1 g 17 k (nI (X k))) 18 k (nI (Y k))).1 j = g.1 j := fun j h1 h2 => by rw [gI1_1, if_neg h2, gI1_1, if_neg h1]
    obtain ⟨g', e, q0, q1⟩ := ih (k + 1) (gI1 (gI1 g 17 k (nI (X k))) 18 k (nI (Y k))) fu (by omega) (by omega) (fun p hp => by rw [e6 6 (by decide) (by decide), e6 7 (by decide) (by decide)]; exact h6 p hp) (fun p hp => by
      have w17 : (gI1 (gI1 g 17 k (nI (X k))) 18 k (nI (Y k))).1 17 p = if p = k then nI (X k) else g.1 17 p := by rw [gI1_1, if_neg (by decide), r_self]
      have w18 : (gI1 (gI1 g 17 k (nI (X k))) 18 k (nI (Y k))).1 18 p = if p = k then nI (Y k) else g.1 18 p := by rw [r_self, show (gI1 g 17 k (nI (X k))).1 18 p = g.1 18 p by rw [gI1_1, if_neg (by decide)]]
      rw [w17, w18]
      by_cases es : p = k
      · rw [if_pos es, if_pos es, es]; exact ⟨rfl, rfl⟩
      · rw [if_neg es, if_neg es]; exact h0 p (by omega))
    refine ⟨g', ?_, q0, fun j h1 h2 h3 => by rw [q1 j h1 h2 h3, e6 j h2 h3]⟩
    rw [← e]
    show fs_X5_begin_2 16 (fb_X5_begin_2 16 fu) (nI k) g = _
    have ex : ∀ g0 : gG, g0.1 6 k = nI (X k) → f_X2_xOf (nI k) g0 = some (nI (X k), g0) := by
      intro g0 h
      unfold f_X2_xOf
      rw [if_neg (nI_pos (by omega)), if_neg (show ¬ ((10 : Int32) ≤ nI k) from nI_ge (b := 10) (by omega) (by decide)), if_pos (inb_nI (by omega) (by decide)), nI_clamp (by omega), h]
    have ey : ∀ g0 : gG, g0.1 7 k = nI (Y k) → f_X2_yOf (nI k) g0 = some (nI (Y k), g0) := by
      intro g0 h
      unfold f_X2_yOf
      rw [if_neg (nI_pos (by omega)), if_neg (show ¬ ((10 : Int32) ≤ nI k) from nI_ge (b := 10) (by omega) (by decide)), if_pos (inb_nI (by omega) (by decide)), nI_clamp (by omega), h]
    unfold fs_X5_begin_2
    rw [if_neg (show ¬ ((10 : Int32) ≤ nI k) from nI_ge (b := 10) (by omega) (by decide)), ex g hx, ob_eq, if_pos (inb_nI (by omega) (by decide)), nI_clamp (by omega), gl_eq, ey _ (by rw [gI1_1, if_neg (by decide)]; exact hy), ob_eq, gl_eq, gl_eq, nI_1, if_pos (inb_nI (by omega) (by decide))]
end LD
/-- the answer of a reading is a place of the text -/
theorem cR_le (tx : List Nat) (told : Nat) : ∀ d i mode F R, (cR tx told d i mode F R).1 ≤ i + d
  | 0, i, mode, F, R => Nat.le_refl _
  | d + 1, i, mode, F, R => by
    show (if mode = 6 ∧ isE R = true ∧ tx.getD i 0 = 47 then (i, some F) else _).1 ≤ _
    split
    · exact Nat.le_add_right _ _
    · split
      · exact Nat.le_add_right _ _
      · exact Nat.le_trans (cR_le tx told d (i + 1) _ _ _) (by omega)
theorem tR_le (tx : List Nat) : ∀ d i D, i ≤ tx.length → (tR tx d i D).1 ≤ tx.length
  | 0, i, D, h => h
  | d + 1, i, D, h => by
    rw [tR_pl]
    have hp : (pl1 tx D i).1 ≤ tx.length := by
      unfold pl1
      split
      · split
        · split
          · have := cR_le tx D.length (tx.length - (i + 1 + 2)) (i + 1 + 2) 4 (f0 0) []
            show (cR tx D.length (tx.length - (i + 1 + 2)) (i + 1 + 2) 4 (f0 0) []).1 ≤ _
            omega
          · show i + 1 + 1 ≤ _
            omega
        · show i + 1 ≤ _
          omega
      · exact h
    unfold pl2
    split
    · exact hp
    · split
      · exact hp
      · exact tR_le tx d _ _ hp
theorem pT_le (tx : List Nat) : (pT tx).1 ≤ tx.length := by
  unfold pT
  split
  · exact tR_le tx 11 1 [] (by omega)
  · exact Nat.zero_le _
