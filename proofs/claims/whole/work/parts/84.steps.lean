/-! PURE: one step of the law. -/
def gd (L : Nat) (l4 : Int32) : Prop := inb (l4 + (1 : Int32)) L = true ∧ inb (l4 + (2 : Int32)) L = true ∧ inb (l4 + (3 : Int32)) L = true
section ST
variable {L : Nat} {xs : Nat → Int32} {l4 : Int32} {g : gG}
theorem st_164 (hI : Inv g) (hg : gd L l4) (F : Int32 → gG → Option Unit) : ∃ g2, Inv g2 ∧ fs_L_law_164 L xs F l4 g = F (l4 + (4 : Int32)) g2 := by
  obtain ⟨tx, n, hm, S, M, K, ok, hC, hM, hr⟩ := hI
  obtain ⟨h1, h2, h3⟩ := hg
  have h := law_thr (op_append ok (xs (l4 + (1 : Int32)).toNatClampNeg)) hC hM hr l4 F
  unfold fs_L_law_164
  simp only [if_pos h1]
  exact h
theorem st_290 (hI : Inv g) (hg : gd L l4) (F : Int32 → gG → Option Unit) : ∃ g2, Inv g2 ∧ fs_L_law_290 L xs F l4 g = F (l4 + (4 : Int32)) g2 := by
  obtain ⟨tx, n, hm, S, M, K, ok, hC, hM, hr⟩ := hI
  obtain ⟨h1, h2, h3⟩ := hg
  have h := law_thr (op_about ok (xs (l4 + (1 : Int32)).toNatClampNeg)) hC hM hr l4 F
  unfold fs_L_law_290
  simp only [if_pos h1]
  exact h
theorem st_346 (hI : Inv g) (hg : gd L l4) (F : Int32 → gG → Option Unit) : ∃ g2, Inv g2 ∧ fs_L_law_346 L xs F l4 g = F (l4 + (4 : Int32)) g2 := by
  obtain ⟨tx, n, hm, S, M, K, ok, hC, hM, hr⟩ := hI
  obtain ⟨h1, h2, h3⟩ := hg
  have h := law_thr (op_place ok (xs (l4 + (1 : Int32)).toNatClampNeg) (xs (l4 + (2 : Int32)).toNatClampNeg)) hC hM hr l4 F
  unfold fs_L_law_346
  simp only [if_pos h1, if_pos h2]
  exact h
theorem st_489 (hI : Inv g) (hg : gd L l4) (F : Int32 → gG → Option Unit) : ∃ g2, Inv g2 ∧ fs_L_law_489 L xs F l4 g = F (l4 + (4 : Int32)) g2 := by
  obtain ⟨tx, n, hm, S, M, K, ok, hC, hM, hr⟩ := hI
  obtain ⟨h1, h2, h3⟩ := hg
  have h := law_thr (op_team ok (xs (l4 + (1 : Int32)).toNatClampNeg) (xs (l4 + (2 : Int32)).toNatClampNeg)) hC hM hr l4 F
  unfold fs_L_law_489
  simp only [if_pos h1, if_pos h2]
  exact h
theorem st_557 (hI : Inv g) (hg : gd L l4) (F : Int32 → gG → Option Unit) : ∃ g2, Inv g2 ∧ fs_L_law_557 L xs F l4 g = F (l4 + (4 : Int32)) g2 := by
  obtain ⟨tx, n, hm, S, M, K, ok, hC, hM, hr⟩ := hI
  obtain ⟨h1, h2, h3⟩ := hg
  have h := law_thr (op_trail ok (xs (l4 + (1 : Int32)).toNatClampNeg) (xs (l4 + (2 : Int32)).toNatClampNeg)) hC hM hr l4 F
  unfold fs_L_law_557
  simp only [if_pos h1, if_pos h2]
  exact h
theorem st_625 (hI : Inv g) (hg : gd L l4) (F : Int32 → gG → Option Unit) : ∃ g2, Inv g2 ∧ fs_L_law_625 L xs F l4 g = F (l4 + (4 : Int32)) g2 := by
  obtain ⟨tx, n, hm, S, M, K, ok, hC, hM, hr⟩ := hI
  obtain ⟨h1, h2, h3⟩ := hg
  have h := law_thr (op_open ok (xs (l4 + (1 : Int32)).toNatClampNeg)) hC hM hr l4 F
  unfold fs_L_law_625
  simp only [if_pos h1]
  exact h
theorem st_681 (hI : Inv g) (hg : gd L l4) (F : Int32 → gG → Option Unit) : ∃ g2, Inv g2 ∧ fs_L_law_681 L xs F l4 g = F (l4 + (4 : Int32)) g2 := by
  obtain ⟨tx, n, hm, S, M, K, ok, hC, hM, hr⟩ := hI
  obtain ⟨X, Y, E, T⟩ := S
  have h := law_thr (op_addTeam ok) hC hM hr l4 F
  unfold fs_L_law_681
  exact h
theorem st_725 (hI : Inv g) (hg : gd L l4) (F : Int32 → gG → Option Unit) : ∃ g2, Inv g2 ∧ fs_L_law_725 L xs F l4 g = F (l4 + (4 : Int32)) g2 := by
  obtain ⟨tx, n, hm, S, M, K, ok, hC, hM, hr⟩ := hI
  obtain ⟨X, Y, E, T⟩ := S
  obtain ⟨h1, h2, h3⟩ := hg
  have h := law_thr (op_go ok (xs (l4 + (1 : Int32)).toNatClampNeg) (xs (l4 + (2 : Int32)).toNatClampNeg)) hC hM hr l4 F
  unfold fs_L_law_725
  simp only [if_pos h1, if_pos h2]
  exact h
theorem st_793 (hI : Inv g) (hg : gd L l4) (F : Int32 → gG → Option Unit) : ∃ g2, Inv g2 ∧ fs_L_law_793 L xs F l4 g = F (l4 + (4 : Int32)) g2 := by
  obtain ⟨tx, n, hm, S, M, K, ok, hC, hM, hr⟩ := hI
  obtain ⟨X, Y, E, T⟩ := S
  obtain ⟨h1, h2, h3⟩ := hg
  have h := law_thr (op_hint ok (xs (l4 + (1 : Int32)).toNatClampNeg)) hC hM hr l4 F
  unfold fs_L_law_793
  simp only [if_pos h1]
  exact h
theorem st_849 (hI : Inv g) (hg : gd L l4) (F : Int32 → gG → Option Unit) : ∃ g2, Inv g2 ∧ fs_L_law_849 L xs F l4 g = F (l4 + (4 : Int32)) g2 := by
  obtain ⟨tx, n, hm, S, M, K, ok, hC, hM, hr⟩ := hI
  obtain ⟨X, Y, E, T⟩ := S
  obtain ⟨h1, h2, h3⟩ := hg
  have h := law_thr (op_giveUp ok (xs (l4 + (1 : Int32)).toNatClampNeg)) hC hM hr l4 F
  unfold fs_L_law_849
  simp only [if_pos h1]
  exact h
theorem st_905 (hI : Inv g) (hg : gd L l4) (F : Int32 → gG → Option Unit) : ∃ g2, Inv g2 ∧ fs_L_law_905 L xs F l4 g = F (l4 + (4 : Int32)) g2 := by
  obtain ⟨tx, n, hm, S, M, K, ok, hC, hM, hr⟩ := hI
  obtain ⟨X, Y, E, T⟩ := S
  obtain ⟨h1, h2, h3⟩ := hg
  have h := law_thr (op_move ok (xs (l4 + (1 : Int32)).toNatClampNeg) (xs (l4 + (2 : Int32)).toNatClampNeg) (xs (l4 + (3 : Int32)).toNatClampNeg)) hC hM hr l4 F
  unfold fs_L_law_905
  simp only [if_pos h1, if_pos h2, if_pos h3]
  exact h
theorem st_985 (hI : Inv g) (hg : gd L l4) (F : Int32 → gG → Option Unit) : ∃ g2, Inv g2 ∧ fs_L_law_985 L xs F l4 g = F (l4 + (4 : Int32)) g2 := by
  obtain ⟨tx, n, hm, S, M, K, ok, hC, hM, hr⟩ := hI
  obtain ⟨X, Y, E, T⟩ := S
  obtain ⟨h1, h2, h3⟩ := hg
  have h := law_thr (op_ease ok (xs (l4 + (1 : Int32)).toNatClampNeg)) hC hM hr l4 F
  unfold fs_L_law_985
  simp only [if_pos h1]
  exact h
theorem st_1041 (hI : Inv g) (hg : gd L l4) (F : Int32 → gG → Option Unit) : ∃ g2, Inv g2 ∧ fs_L_law_1041 L xs F l4 g = F (l4 + (4 : Int32)) g2 := by
  obtain ⟨tx, n, hm, S, M, K, ok, hC, hM, hr⟩ := hI
  have h := law_thr (op_undo ok) hC hM hr l4 F
  unfold fs_L_law_1041
  exact h
theorem st_1085 (hI : Inv g) (hg : gd L l4) (F : Int32 → gG → Option Unit) : ∃ g2, Inv g2 ∧ fs_L_law_1085 L xs F l4 g = F (l4 + (4 : Int32)) g2 := by
  obtain ⟨tx, n, hm, S, M, K, ok, hC, hM, hr⟩ := hI
  obtain ⟨h1, h2, h3⟩ := hg
  have h := law_thr (op_shortest ok (xs (l4 + (1 : Int32)).toNatClampNeg) (xs (l4 + (2 : Int32)).toNatClampNeg)) hC hM hr l4 F
  unfold fs_L_law_1085
  simp only [if_pos h1, if_pos h2]
  exact h
theorem st_1153 (hI : Inv g) (hg : gd L l4) (F : Int32 → gG → Option Unit) : ∃ g2, Inv g2 ∧ fs_L_law_1153 L xs F l4 g = F (l4 + (4 : Int32)) g2 := by
  obtain ⟨tx, n, hm, S, M, K, ok, hC, hM, hr⟩ := hI
  obtain ⟨h1, h2, h3⟩ := hg
  have h := law_thr (op_quickest ok (xs (l4 + (1 : Int32)).toNatClampNeg) (xs (l4 + (2 : Int32)).toNatClampNeg)) hC hM hr l4 F
  unfold fs_L_law_1153
  simp only [if_pos h1, if_pos h2]
  exact h
theorem st_1221 (hI : Inv g) (hg : gd L l4) (F : Int32 → gG → Option Unit) : ∃ g2, Inv g2 ∧ fs_L_law_1221 L xs F l4 g = F (l4 + (4 : Int32)) g2 := by
  obtain ⟨tx, n, hm, S, M, K, ok, hC, hM, hr⟩ := hI
  obtain ⟨h1, h2, h3⟩ := hg
  have h := law_thr (op_orders ok (xs (l4 + (1 : Int32)).toNatClampNeg)) hC hM hr l4 F
  unfold fs_L_law_1221
  simp only [if_pos h1]
  exact h
theorem st_1277 (hI : Inv g) (hg : gd L l4) (F : Int32 → gG → Option Unit) : ∃ g2, Inv g2 ∧ fs_L_law_1277 L xs F l4 g = F (l4 + (4 : Int32)) g2 := by
  obtain ⟨tx, n, hm, S, M, K, ok, hC, hM, hr⟩ := hI
  obtain ⟨h1, h2, h3⟩ := hg
  have h := law_thr (op_safe ok (xs (l4 + (1 : Int32)).toNatClampNeg)) hC hM hr l4 F
  unfold fs_L_law_1277
  simp only [if_pos h1]
  exact h
theorem st_1333 (hI : Inv g) (hg : gd L l4) (F : Int32 → gG → Option Unit) : ∃ g2, Inv g2 ∧ fs_L_law_1333 L xs F l4 g = F (l4 + (4 : Int32)) g2 := by
  obtain ⟨tx, n, hm, S, M, K, ok, hC, hM, hr⟩ := hI
  obtain ⟨h1, h2, h3⟩ := hg
  have h := law_thr (op_needed ok (xs (l4 + (1 : Int32)).toNatClampNeg)) hC hM hr l4 F
  unfold fs_L_law_1333
  simp only [if_pos h1]
  exact h
theorem st_1415 (hI : Inv g) (hg : gd L l4) (F : Int32 → gG → Option Unit) : ∃ g2, Inv g2 ∧ fs_L_law_1415 L xs F l4 g = F (l4 + (4 : Int32)) g2 := by
  obtain ⟨tx, n, hm, S, M, K, ok, hC, hM, hr⟩ := hI
  obtain ⟨h1, h2, h3⟩ := hg
  have h := law_thr (op_runScript ok (xs (l4 + (1 : Int32)).toNatClampNeg) (((xs (l4 + (2 : Int32)).toNatClampNeg).toInt64 <<< ((32 : Int32).toInt64 &&& 63)) ||| ((xs (l4 + (3 : Int32)).toNatClampNeg).toInt64 &&& (4294967295 : Int64)))) hC hM hr l4 F
  unfold fs_L_law_1415
  simp only [if_pos h1, if_pos h2, if_pos h3]
  exact h
theorem st_1515 (hI : Inv g) (hg : gd L l4) (F : Int32 → gG → Option Unit) : ∃ g2, Inv g2 ∧ fs_L_law_1515 L xs F l4 g = F (l4 + (4 : Int32)) g2 := by
  obtain ⟨tx, n, hm, S, M, K, ok, hC, hM, hr⟩ := hI
  obtain ⟨h1, h2, h3⟩ := hg
  have h := law_thr (op_simulate ok (((xs (l4 + (1 : Int32)).toNatClampNeg).toInt64 <<< ((32 : Int32).toInt64 &&& 63)) ||| ((xs (l4 + (2 : Int32)).toNatClampNeg).toInt64 &&& (4294967295 : Int64))) (xs (l4 + (3 : Int32)).toNatClampNeg)) hC hM hr l4 F
  unfold fs_L_law_1515
  simp only [if_pos h1, if_pos h2, if_pos h3]
  exact h
theorem st_1615 (hI : Inv g) (hg : gd L l4) (F : Int32 → gG → Option Unit) : ∃ g2, Inv g2 ∧ fs_L_law_1615 L xs F l4 g = F (l4 + (4 : Int32)) g2 := by
  obtain ⟨tx, n, hm, S, M, K, ok, hC, hM, hr⟩ := hI
  obtain ⟨h1, h2, h3⟩ := hg
  have h := law_thr (op_save ok (xs (l4 + (1 : Int32)).toNatClampNeg)) hC hM hr l4 F
  unfold fs_L_law_1615
  simp only [if_pos h1]
  exact h
theorem st_1671 (hI : Inv g) (hg : gd L l4) (F : Int32 → gG → Option Unit) : ∃ g2, Inv g2 ∧ fs_L_law_1671 L xs F l4 g = F (l4 + (4 : Int32)) g2 := by
  obtain ⟨tx, n, hm, S, M, K, ok, hC, hM, hr⟩ := hI
  obtain ⟨h1, h2, h3⟩ := hg
  have h := law_thr (op_restore ok (xs (l4 + (1 : Int32)).toNatClampNeg)) hC hM hr l4 F
  unfold fs_L_law_1671
  simp only [if_pos h1]
  exact h
theorem st_220 (hI : Inv g) (hg : gd L l4) (F : Int32 → gG → Option Unit) : ∃ g2, Inv g2 ∧ fs_L_law_220 L xs F l4 g = F (l4 + (4 : Int32)) g2 := by
  obtain ⟨tx, n, hm, S, M, K, ok, hC, hM, hr⟩ := hI
  exact law_void (op_clearText ok) hC hM hr l4 F
theorem st_1389 (hI : Inv g) (hg : gd L l4) (F : Int32 → gG → Option Unit) : ∃ g2, Inv g2 ∧ fs_L_law_1389 L xs F l4 g = F (l4 + (4 : Int32)) g2 := by
  obtain ⟨tx, n, hm, S, M, K, ok, hC, hM, hr⟩ := hI
  exact law_void (op_deadEnds ok) hC hM hr l4 F
theorem st_1402 (hI : Inv g) (hg : gd L l4) (F : Int32 → gG → Option Unit) : ∃ g2, Inv g2 ∧ fs_L_law_1402 L xs F l4 g = F (l4 + (4 : Int32)) g2 := by
  obtain ⟨tx, n, hm, S, M, K, ok, hC, hM, hr⟩ := hI
  exact law_void (op_easeBy ok) hC hM hr l4 F
theorem st_233 (hI : Inv g) (hg : gd L l4) (F : Int32 → gG → Option Unit) : ∃ g2, Inv g2 ∧ fs_L_law_233 L xs F l4 g = F (l4 + (4 : Int32)) g2 := by
  obtain ⟨tx, n, hm, S, M, K, ok, hC, hM, hr⟩ := hI
  exact law_err ok hC hM hr l4 F
theorem st_246 (hI : Inv g) (hg : gd L l4) (F : Int32 → gG → Option Unit) : ∃ g2, Inv g2 ∧ fs_L_law_246 L xs F l4 g = F (l4 + (4 : Int32)) g2 := by
  obtain ⟨tx, n, hm, S, M, K, ok, hC, hM, hr⟩ := hI
  exact law_load ok hC hM hr l4 F
def outH : Int32 → gG → Option (Int32 × gG) := fun r2 g1 => if r2 = (0 : Int32) then (if inb (0 : Int32) 1 = true then gLet (gL1 g1 193 (0 : Int32).toNatClampNeg (0 : Int64)) (fun g8 => some ((0 : Int32), g8)) else none) else (if inb (0 : Int32) 1 = true then gLet (gL1 g1 193 (0 : Int32).toNatClampNeg (1 : Int64)) (fun g9 => some ((0 : Int32), g9)) else none)
theorem outH_eq (r : Int32) (g : gG) : outH r g = some (0, gL1 g 193 0 (if r = 0 then 0 else 1)) := by
  unfold outH
  by_cases h : r = 0
  · rw [if_pos h, if_pos h, if_pos (show inb 0 1 = true by decide), clamp0, gl_eq]
  · rw [if_neg h, if_neg h, if_pos (show inb 0 1 = true by decide), clamp0, gl_eq]
theorem law_holds {tx : List Nat} {n : Nat} {hm : Nat → Nat} {S : aS} {L : List aS} {K : Nat → Option aS} {X : gG → Option ((Int32 ⊕ Nat) × gG)} {Y : gG → Option (Int32 × gG)} {G : Nat → gG → Option (Int32 × gG)} (h : opOK tx n hm S L K X Y G) {g : gG} (hC : InvC tx n hm S L K g) (hM : InvM tx n hm S L K g) (hr : rdC g) (l4 : Int32) (F : Int32 → gG → Option Unit) : ∃ g2, Inv g2 ∧ (gXh (X g) outH G).bind (fun u1 => gLet u1.1 (fun x2 => (Y u1.2).bind (fun u3 => gLet u3.1 (fun x4 => (f_X10_thrown u3.2).bind (fun u5 => if u5.1 = x2 then (if x2 = (0 : Int32) then (if inb (0 : Int32) 1 = true then if x4 = (0 : Int32) then (if (lg_cmp (u5.2.2 193 (0 : Int32).toNatClampNeg) (0 : Int64)) = (0 : Int32) then (gLet (l4 + (4 : Int32)) (fun x11 => F x11 u5.2)) else (none)) else (if (lg_cmp (u5.2.2 193 (0 : Int32).toNatClampNeg) (1 : Int64)) = (0 : Int32) then (gLet (l4 + (4 : Int32)) (fun x13 => F x13 u5.2)) else (none)) else none) else (gLet (l4 + (4 : Int32)) (fun x8 => F x8 u5.2))) else (none)))))) = F (l4 + (4 : Int32)) g2 := by
  obtain ⟨res, tx', n', hm', S', L', K', ok', h1, h2⟩ := h
  obtain ⟨g', e1, c1, f1⟩ := h1 g hC
  rw [e1]
  cases res with
  | inl r =>
    rw [gXh_l, outH_eq]
    obtain ⟨g2, e2, c2, t2, f2, f3⟩ := h2 (gL1 g' 193 0 (if r = 0 then 0 else 1)) (InvM_eq hM (by rw [gL1_1, f1 174 (by omega)]) (by rw [gL1_1, f1 174 (by omega)]) (fun j hj => by rw [gL1_1, f1 j (by omega)]))
    refine ⟨g2, ⟨tx', n', hm', S', L', K', ok', InvC_eq c1 (fun j hj => by rw [f2 j (by omega), gL1_1]), c2, rdC_eq hr (by rw [f2 6 (by decide), gL1_1, f1 6 (by decide)]) (by rw [f2 7 (by decide), gL1_1, f1 7 (by decide)])⟩, ?_⟩
    simp only [ob_eq, gl_eq]
    rw [e2]
    unfold f_X10_thrown
    simp only [ob_eq]
    rw [t2, if_pos rfl, if_pos trivial, if_pos (show inb 0 1 = true by decide), clamp0, f3, gL1_2]
    by_cases h : r = 0
    · rw [if_pos h, if_pos h, lg_refl, if_pos rfl]
    · rw [if_neg h, if_neg h, lg_refl, if_pos rfl]
  | inr e =>
    obtain ⟨b, c, hc, hG, hs⟩ := h2 g' (InvM_eq hM (by rw [f1 174 (by omega)]) (by rw [f1 174 (by omega)]) (fun j hj => by rw [f1 j (by omega)]))
    obtain ⟨g2, e2, c2, t2, f2, f3⟩ := hs
    rw [gXh_r, hG]
    refine ⟨g2, ⟨tx', n', hm', S', L', K', ok', InvC_eq c1 (fun j hj => f2 j (by omega)), c2, rdC_eq hr (by rw [f2 6 (by decide), f1 6 (by decide)]) (by rw [f2 7 (by decide), f1 7 (by decide)])⟩, ?_⟩
    simp only [ob_eq, gl_eq]
    rw [e2]
    unfold f_X10_thrown
    simp only [ob_eq]
    rw [t2, if_pos rfl, if_neg hc]
theorem st_414 (hI : Inv g) (hg : gd L l4) (F : Int32 → gG → Option Unit) : ∃ g2, Inv g2 ∧ fs_L_law_414 L xs F l4 g = F (l4 + (4 : Int32)) g2 := by
  obtain ⟨tx, n, hm, S, M, K, ok, hC, hM, hr⟩ := hI
  obtain ⟨h1, h2, h3⟩ := hg
  have h := law_holds (op_holds ok (xs (l4 + (1 : Int32)).toNatClampNeg) (xs (l4 + (2 : Int32)).toNatClampNeg)) hC hM hr l4 F
  unfold fs_L_law_414
  simp only [if_pos h1, if_pos h2]
  exact h
theorem st_23 (hI : Inv g) (hg : gd L l4) (h0 : inb l4 L = true) (hlt : ¬ ((Int32.ofNat L) - (4 : Int32)) < l4) (F : Int32 → gG → Option Unit) : ∃ g2, Inv g2 ∧ fs_L_law_23 L xs F l4 g = F (l4 + (4 : Int32)) g2 := by
  unfold fs_L_law_23
  rw [if_neg hlt, if_pos h0]
  by_cases c0 : ((xs l4.toNatClampNeg) &&& (31 : Int32)) = (0 : Int32)
  · rw [if_pos c0]; exact st_164 hI hg F
  rw [if_neg c0]
  by_cases c1 : ((xs l4.toNatClampNeg) &&& (31 : Int32)) = (1 : Int32)
  · rw [if_pos c1]; exact st_220 hI hg F
  rw [if_neg c1]
  by_cases c2 : ((xs l4.toNatClampNeg) &&& (31 : Int32)) = (2 : Int32)
  · rw [if_pos c2]; exact st_233 hI hg F
  rw [if_neg c2]
  by_cases c3 : ((xs l4.toNatClampNeg) &&& (31 : Int32)) = (3 : Int32)
  · rw [if_pos c3]; exact st_246 hI hg F
  rw [if_neg c3]
  by_cases c4 : ((xs l4.toNatClampNeg) &&& (31 : Int32)) = (4 : Int32)
  · rw [if_pos c4]; exact st_290 hI hg F
  rw [if_neg c4]
  by_cases c5 : ((xs l4.toNatClampNeg) &&& (31 : Int32)) = (5 : Int32)
  · rw [if_pos c5]; exact st_346 hI hg F
  rw [if_neg c5]
  by_cases c6 : ((xs l4.toNatClampNeg) &&& (31 : Int32)) = (6 : Int32)
  · rw [if_pos c6]; exact st_414 hI hg F
  rw [if_neg c6]
  by_cases c7 : ((xs l4.toNatClampNeg) &&& (31 : Int32)) = (7 : Int32)
  · rw [if_pos c7]; exact st_489 hI hg F
  rw [if_neg c7]
  by_cases c8 : ((xs l4.toNatClampNeg) &&& (31 : Int32)) = (8 : Int32)
  · rw [if_pos c8]; exact st_557 hI hg F
  rw [if_neg c8]
  by_cases c9 : ((xs l4.toNatClampNeg) &&& (31 : Int32)) = (9 : Int32)
  · rw [if_pos c9]; exact st_625 hI hg F
  rw [if_neg c9]
  by_cases c10 : ((xs l4.toNatClampNeg) &&& (31 : Int32)) = (10 : Int32)
  · rw [if_pos c10]; exact st_681 hI hg F
  rw [if_neg c10]
  by_cases c11 : ((xs l4.toNatClampNeg) &&& (31 : Int32)) = (11 : Int32)
  · rw [if_pos c11]; exact st_725 hI hg F
  rw [if_neg c11]
  by_cases c12 : ((xs l4.toNatClampNeg) &&& (31 : Int32)) = (12 : Int32)
  · rw [if_pos c12]; exact st_793 hI hg F
  rw [if_neg c12]
  by_cases c13 : ((xs l4.toNatClampNeg) &&& (31 : Int32)) = (13 : Int32)
  · rw [if_pos c13]; exact st_849 hI hg F
  rw [if_neg c13]
  by_cases c14 : ((xs l4.toNatClampNeg) &&& (31 : Int32)) = (14 : Int32)
  · rw [if_pos c14]; exact st_905 hI hg F
  rw [if_neg c14]
  by_cases c15 : ((xs l4.toNatClampNeg) &&& (31 : Int32)) = (15 : Int32)
  · rw [if_pos c15]; exact st_985 hI hg F
  rw [if_neg c15]
  by_cases c16 : ((xs l4.toNatClampNeg) &&& (31 : Int32)) = (16 : Int32)
  · rw [if_pos c16]; exact st_1041 hI hg F
  rw [if_neg c16]
  by_cases c17 : ((xs l4.toNatClampNeg) &&& (31 : Int32)) = (17 : Int32)
  · rw [if_pos c17]; exact st_1085 hI hg F
  rw [if_neg c17]
  by_cases c18 : ((xs l4.toNatClampNeg) &&& (31 : Int32)) = (18 : Int32)
  · rw [if_pos c18]; exact st_1153 hI hg F
  rw [if_neg c18]
  by_cases c19 : ((xs l4.toNatClampNeg) &&& (31 : Int32)) = (19 : Int32)
  · rw [if_pos c19]; exact st_1221 hI hg F
  rw [if_neg c19]
  by_cases c20 : ((xs l4.toNatClampNeg) &&& (31 : Int32)) = (20 : Int32)
  · rw [if_pos c20]; exact st_1277 hI hg F
  rw [if_neg c20]
  by_cases c21 : ((xs l4.toNatClampNeg) &&& (31 : Int32)) = (21 : Int32)
  · rw [if_pos c21]; exact st_1333 hI hg F
  rw [if_neg c21]
  by_cases c22 : ((xs l4.toNatClampNeg) &&& (31 : Int32)) = (22 : Int32)
  · rw [if_pos c22]; exact st_1389 hI hg F
  rw [if_neg c22]
  by_cases c23 : ((xs l4.toNatClampNeg) &&& (31 : Int32)) = (23 : Int32)
  · rw [if_pos c23]; exact st_1402 hI hg F
  rw [if_neg c23]
  by_cases c24 : ((xs l4.toNatClampNeg) &&& (31 : Int32)) = (24 : Int32)
  · rw [if_pos c24]; exact st_1415 hI hg F
  rw [if_neg c24]
  by_cases c25 : ((xs l4.toNatClampNeg) &&& (31 : Int32)) = (25 : Int32)
  · rw [if_pos c25]; exact st_1515 hI hg F
  rw [if_neg c25]
  by_cases c26 : ((xs l4.toNatClampNeg) &&& (31 : Int32)) = (26 : Int32)
  · rw [if_pos c26]; exact st_1615 hI hg F
  rw [if_neg c26]
  by_cases c27 : ((xs l4.toNatClampNeg) &&& (31 : Int32)) = (27 : Int32)
  · rw [if_pos c27]; exact st_1671 hI hg F
  rw [if_neg c27]
  exact ⟨g, hI, by rw [gl_eq]⟩
end ST
theorem law_loop (L : Nat) (xs : Nat → Int32) (hL : L ≤ 2048) : ∀ d i g fu, L < 4 * d + i → d ≤ fu → i ≤ L → Inv g → fb_L_law_23 L xs fu (nI i) g = some () := by
  intro d
  induction d with
  | zero =>
    intro i g fu hd hf hi hI
    omega
  | succ d ih =>
    intro i g fu hd hf hi hI
    obtain ⟨fu, rfl⟩ : ∃ f', fu = f' + 1 := ⟨fu - 1, by omega⟩
    show fs_L_law_23 L xs (fb_L_law_23 L xs fu) (nI i) g = _
    have e4 : ((Int32.ofNat L) - (4 : Int32)).toInt = (L : Int) - 4 := by
      have e0 : Int32.ofNat L = nI L := rfl
      by_cases h4 : 4 ≤ L
      · rw [e0, show nI L - (4 : Int32) = nI (L - 4) from pk_sub (a := L) (b := 4) h4, nI_toInt (by omega)]
        omega
      · rcases (show L = 0 ∨ L = 1 ∨ L = 2 ∨ L = 3 by omega) with h | h | h | h <;> rw [h] <;> decide
    by_cases hend : L < i + 4
    · have hlt : ((Int32.ofNat L) - (4 : Int32)) < nI i := by
        rw [Int32.lt_iff_toInt_lt, e4, nI_toInt (by omega)]
        omega
      unfold fs_L_law_23
      rw [if_pos hlt]
    · have hlt : ¬ ((Int32.ofNat L) - (4 : Int32)) < nI i := by
        rw [Int32.lt_iff_toInt_lt, e4, nI_toInt (by omega)]
        omega
      have hg : gd L (nI i) := by
        refine ⟨?_, ?_, ?_⟩
        · rw [show nI i + (1 : Int32) = nI (i + 1) from nI_add i 1]; exact inb_nI (by omega) (by omega)
        · rw [show nI i + (2 : Int32) = nI (i + 2) from nI_add i 2]; exact inb_nI (by omega) (by omega)
        · rw [show nI i + (3 : Int32) = nI (i + 3) from nI_add i 3]; exact inb_nI (by omega) (by omega)
      obtain ⟨g2, hI2, e⟩ := st_23 (xs := xs) hI hg (inb_nI (by omega) (by omega)) hlt (fb_L_law_23 L xs fu)
      rw [e, show nI i + (4 : Int32) = nI (i + 4) from nI_add i 4]
      exact ih (i + 4) g2 fu (by omega) (by omega) (by omega) hI2
theorem pure_main0 : gPure := by
  obtain ⟨z0, e, hI⟩ := init_inv
  have hg : gFuel = 6000 := rfl
  exact ⟨z0, e, fun L xs hL => law_loop L xs hL 513 0 _ gFuel (by omega) (by omega) (Nat.zero_le _) hI⟩
