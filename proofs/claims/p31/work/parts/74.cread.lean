/-! PURE: the class reads a text. -/
def isE (R : List aF) : Bool := match R with
  | [] => true
  | _ :: _ => false
def cR (tx : List Nat) (told : Nat) : Nat → Nat → Nat → aF → List aF → Nat × Option aF
  | 0, i, mode, F, R => (i, if mode = 6 ∧ isE R = true then some F else none)
  | d + 1, i, mode, F, R => if mode = 6 ∧ isE R = true ∧ tx.getD i 0 = 47 then (i, some F) else (match cst told mode F R (tx.getD i 0) with
    | none => (i, none)
    | some z => cR tx told d (i + 1) z.1 z.2.1 z.2.2)
abbrev aP : Type := Nat × Nat × Tr
def dig (c : Nat) : Bool := decide (48 ≤ c ∧ c ≤ 57)
def aft (tx : List Nat) (T : Nat → List aP → Nat × Option (List aP)) (D : List aP) (x y : Nat) (r : Nat × Option aF) : Nat × Option (List aP) := match r.2 with
  | none => (r.1, none)
  | some F => if r.1 = tx.length ∧ 2 ≤ D.length + 1 then (r.1, some (D ++ [(x, y, cT F)])) else T r.1 (D ++ [(x, y, cT F)])
def plc (tx : List Nat) (T : Nat → List aP → Nat × Option (List aP)) (D : List aP) (i : Nat) : Nat × Option (List aP) := if i < tx.length ∧ dig (tx.getD i 0) = true then (if i + 1 < tx.length ∧ dig (tx.getD (i + 1) 0) = true then aft tx T D (tx.getD i 0 - 48) (tx.getD (i + 1) 0 - 48) (cR tx D.length (tx.length - (i + 2)) (i + 2) 4 (f0 0) []) else (i + 1, none)) else (i, none)
def tR (tx : List Nat) : Nat → Nat → List aP → Nat × Option (List aP)
  | 0, i, _ => (i, none)
  | d + 1, i, D => if i < tx.length ∧ tx.getD i 0 = 47 ∧ D.length < 10 then plc tx (tR tx d) D (i + 1) else (i, none)
def pT (tx : List Nat) : Nat × Option (List aP) := if 0 < tx.length ∧ tx.getD 0 0 = 72 then tR tx 11 1 [] else (0, none)
theorem cst_mode {told mode c : Nat} {F : aF} {R : List aF} {z : Nat × aF × List aF} (h : cst told mode F R c = some z) : z.1 = 4 ∨ z.1 = 5 ∨ z.1 = 6 := by
  unfold cst at h
  split at h
  · split at h
    · cases h; exact Or.inl rfl
    · split at h
      · cases h; exact Or.inl rfl
      · split at h
        · cases h; exact Or.inr (Or.inl rfl)
        · split at h
          · cases h; exact Or.inr (Or.inr rfl)
          · split at h
            · cases h; exact Or.inr (Or.inr rfl)
            · cases h
  · split at h
    · split at h
      · cases h; exact Or.inl rfl
      · cases h
    · split at h
      · cases h; exact Or.inl rfl
      · split at h
        · cases h; exact Or.inl rfl
        · split at h
          · cases h
          · split at h
            · cases h; exact Or.inl rfl
            · split at h
              · cases h; exact Or.inr (Or.inr rfl)
              · split at h
                · cases h; exact Or.inr (Or.inr rfl)
                · cases h
theorem isE_t {R : List aF} (h : isE R = true) : R = [] := by
  cases R with
  | nil => rfl
  | cons F R => cases h
theorem getD_get {tx : List Nat} {i : Nat} (h : i < tx.length) : tx[i]? = some (tx.getD i 0) := by
  rw [List.getD_eq_getElem?_getD, List.getElem?_eq_getElem h]; rfl
section CRD
variable {tx : List Nat} {told : Nat}
theorem txC_fr {g g' : gG} (h : txC g tx) (f : frP g g') : txC g' tx := ⟨by rw [f.1 1 (by decide) (by decide) (by decide)]; exact h.1, fun j c hc => by rw [f.1 2 (by decide) (by decide) (by decide)]; exact h.2 j c hc⟩
theorem c_sign {g : gG} (h : txC g tx) (hl : tx.length ≤ 120) (hc : ∀ c ∈ tx, c < 256) {i : Nat} (hi : i < tx.length) : f_X6_signAt (nI i) g = some (nI (tx.getD i 0), g) ∧ tx.getD i 0 < 256 := by
  have e := getD_get hi
  have h9 := hc _ (List.mem_of_getElem? e)
  refine ⟨?_, h9⟩
  unfold f_X6_signAt
  rw [if_neg (nI_pos (by omega)), h.1, if_neg (nI_ge hi (by omega)), if_pos (inb_nI (by omega) (by decide)), nI_clamp (by omega), h.2 i _ e]
  have eg : gCb (nI (tx.getD i 0)) = true := by
    unfold gCb
    rw [nI_toInt (by omega)]
    exact decide_eq_true (by omega)
  rw [if_pos eg]
theorem c_cond (hl : tx.length ≤ 120) (hc : ∀ c ∈ tx, c < 256) (ht : told ≤ 9) (d : Nat) : ∀ i mode F R g fu, i + d = tx.length → d < fu → clS g told mode F R i → (mode = 4 ∨ mode = 5 ∨ mode = 6) → txC g tx → ((cR tx told d i mode F R).2 = none → ∃ g', fb_X2_errorIn_17 fu (nI tx.length) (nI i) g = some (nI (cR tx told d i mode F R).1, g') ∧ frP g g') ∧ ∀ F', (cR tx told d i mode F R).2 = some F' → ∃ g' fu', fb_X2_errorIn_17 fu (nI tx.length) (nI i) g = fb_X2_errorIn_17 fu' (nI tx.length) (nI (cR tx told d i mode F R).1) g' ∧ tx.length - (cR tx told d i mode F R).1 < fu' ∧ clS g' told 6 F' [] (cR tx told d i mode F R).1 ∧ frP g g' ∧ i ≤ (cR tx told d i mode F R).1 ∧ (cR tx told d i mode F R).1 ≤ tx.length ∧ ((cR tx told d i mode F R).1 < tx.length → tx.getD (cR tx told d i mode F R).1 0 = 47) := by
  induction d with
  | zero =>
    intro i mode F R g fu hi hf hS hm hT
    have e : i = tx.length := by omega
    have er : cR tx told 0 i mode F R = (i, if mode = 6 ∧ isE R = true then some F else none) := rfl
    rw [er]
    by_cases hc9 : mode = 6 ∧ isE R = true
    · have hR := isE_t hc9.2
      rw [if_pos hc9]
      refine ⟨fun h => (by cases h), fun F' h => ?_⟩
      cases h
      refine ⟨g, fu, rfl, by omega, ?_, frP.rf, Nat.le_refl _, by omega, fun h => by omega⟩
      rw [← hc9.1, ← hR]; exact hS
    · rw [if_neg hc9]
      refine ⟨fun _ => ?_, fun F' h => by cases h⟩
      obtain ⟨fu, rfl⟩ : ∃ f', fu = f' + 1 := ⟨fu - 1, by omega⟩
      refine ⟨g, ?_, frP.rf⟩
      unfold fb_X2_errorIn_17 fs_X2_errorIn_17
      rw [if_pos (nI_le (by omega) (by omega)), hS.1, hS.2.2.1.1]
      by_cases h6 : nI mode = (6 : Int32)
      · rw [if_pos h6]
        have hm6 : mode = 6 := (nI_eq (b := 6) (by omega) (by decide)).mp h6
        have hR : ¬ R.length = 0 := fun e9 => hc9 ⟨hm6, by rw [List.eq_nil_of_length_eq_zero e9]; rfl⟩
        have := hS.2.2.2.2.1
        rw [if_neg (fun e9 => hR ((nI_z (by omega)).mp e9)), e]
      · rw [if_neg h6, e]
  | succ d ih =>
    intro i mode F R g fu hi hf hS hm hT
    obtain ⟨fu, rfl⟩ : ∃ f', fu = f' + 1 := ⟨fu - 1, by omega⟩
    obtain ⟨es, hcl⟩ := c_sign hT hl hc (i := i) (by omega)
    have er : cR tx told (d + 1) i mode F R = (if mode = 6 ∧ isE R = true ∧ tx.getD i 0 = 47 then (i, some F) else (match cst told mode F R (tx.getD i 0) with
      | none => (i, none)
      | some z => cR tx told d (i + 1) z.1 z.2.1 z.2.2)) := rfl
    rw [er]
    by_cases hend : mode = 6 ∧ isE R = true ∧ tx.getD i 0 = 47
    · rw [if_pos hend]
      refine ⟨fun h => (by cases h), fun F' h => ?_⟩
      cases h
      have hR := isE_t hend.2.1
      refine ⟨g, fu + 1, rfl, by omega, ?_, frP.rf, Nat.le_refl _, by omega, fun _ => hend.2.2⟩
      rw [← hend.1, ← hR]; exact hS
    · rw [if_neg hend]
      obtain ⟨q1, q2⟩ := c_takes hS hm ht (by omega) hcl
      have eL : ∀ g, txC g tx → fb_X2_errorIn_17 (fu + 1) (nI tx.length) (nI i) g = (f_X2_takes (nI (tx.getD i 0)) g).bind (fun u8 => if u8.1 = (0 : Int32) then (some (nI i, u8.2)) else (fb_X2_errorIn_17 fu (nI tx.length) (nI (i + 1)) u8.2)) := by
        intro g hT
        show fs_X2_errorIn_17 (fb_X2_errorIn_17 fu) (nI tx.length) (nI i) g = _
        unfold fs_X2_errorIn_17
        rw [if_neg (nI_ge (by omega) (by omega)), (c_sign hT hl hc (i := i) (by omega)).1]
        simp only [ob_eq, gl_eq, nI_1]
      cases ez : cst told mode F R (tx.getD i 0) with
      | none =>
        refine ⟨fun _ => ?_, fun F' h => by cases h⟩
        obtain ⟨g', e1, f1⟩ := q2 ez (fun e9 => hend ⟨e9.1, by rw [e9.2.1]; rfl, e9.2.2⟩)
        refine ⟨g', ?_, f1⟩
        rw [eL g hT, e1]
        simp only [ob_eq]
        rw [if_pos trivial]
      | some z =>
        obtain ⟨m', F1, R1⟩ := z
        obtain ⟨g1, e1, hS1, f1⟩ := q1 m' F1 R1 ez
        obtain ⟨y1, y2⟩ := ih (i + 1) m' F1 R1 g1 fu (by omega) (by omega) hS1 (cst_mode ez) (txC_fr hT f1)
        have eLL : fb_X2_errorIn_17 (fu + 1) (nI tx.length) (nI i) g = fb_X2_errorIn_17 fu (nI tx.length) (nI (i + 1)) g1 := by
          rw [eL g hT, e1]
          simp only [ob_eq]
          rw [if_neg one0]
        refine ⟨fun h => ?_, fun F' h => ?_⟩
        · obtain ⟨g', e2, f2⟩ := y1 h
          exact ⟨g', eLL.trans e2, f1.tr f2⟩
        · obtain ⟨g', fu', e2, b2', c2, f2, l1, l2, l3⟩ := y2 F' h
          exact ⟨g', fu', eLL.trans e2, b2', c2, f1.tr f2, Nat.le_of_succ_le l1, l2, l3⟩
/-- only the reader and its truths have changed -/
def frR (g g' : gG) : Prop := (∀ j, (j < 3 ∨ 13 < j) → g'.1 j = g.1 j) ∧ ∀ j, j ≠ 5 → j ≠ 8 → g'.2 j = g.2 j
theorem frR.rf {g : gG} : frR g g := ⟨fun _ _ => rfl, fun _ _ _ => rfl⟩
theorem frR.tr {g g' g'' : gG} (h : frR g g') (h2 : frR g' g'') : frR g g'' := ⟨fun j a => (h2.1 j a).trans (h.1 j a), fun j a b => (h2.2 j a b).trans (h.2 j a b)⟩
theorem frR.p {g g' : gG} (h : frP g g') : frR g g' := ⟨fun j a => h.1 j (by omega) (by omega) (by omega), fun j a _ => h.2.1 j a⟩
theorem frR.i {g : gG} {k i : Nat} {v : Int32} (h : 3 ≤ k ∧ k ≤ 13) : frR g (gI1 g k i v) := ⟨fun j a => by rw [gI1_1, if_neg (by omega)], fun _ _ _ => rfl⟩
theorem txC_R {g g' : gG} (h : txC g tx) (f : frR g g') : txC g' tx := ⟨by rw [f.1 1 (by decide)]; exact h.1, fun j c hc => by rw [f.1 2 (by decide)]; exact h.2 j c hc⟩
/-- the places that are done, as the reader holds them -/
def rdD (g : gG) (D : List aP) : Prop := ∀ p z, D[p]? = some z → g.1 6 p = nI z.1 ∧ g.1 7 p = nI z.2.1 ∧ ∀ s, s < 512 → btL (g.2 8 (8 * p + s / 64)) (s % 64) = z.2.2 s
theorem rdD_eq {g g' : gG} {D : List aP} (h : rdD g D) (e6 : g'.1 6 = g.1 6) (e7 : g'.1 7 = g.1 7) (e8 : g'.2 8 = g.2 8) : rdD g' D := by
  intro p z hz
  rw [e6, e7, e8]; exact h p z hz
theorem rdP {g g' : gG} (f : frP g g') : g'.1 6 = g.1 6 ∧ g'.1 7 = g.1 7 ∧ g'.2 8 = g.2 8 := ⟨f.1 6 (by decide) (by decide) (by decide), f.1 7 (by decide) (by decide) (by decide), f.2.1 8 (by decide)⟩
/-- what the loop over the signs does from here -/
def resC (tx : List Nat) (g : gG) (fu i : Nat) (z : Nat × Option (List aP)) : Prop := (z.2 = none → ∃ g', fb_X2_errorIn_17 fu (nI tx.length) (nI i) g = some (nI z.1, g') ∧ frR g g' ∧ rdC g') ∧ ∀ D', z.2 = some D' → ∃ g', fb_X2_errorIn_17 fu (nI tx.length) (nI i) g = some (-9, g') ∧ frR g g' ∧ rdC g' ∧ rdD g' D' ∧ g'.1 3 10 = nI D'.length ∧ 2 ≤ D'.length ∧ D'.length ≤ 10 ∧ ∀ w ∈ D', w.1 ≤ 9 ∧ w.2.1 ≤ 9
theorem resC_tr {g g' : gG} {fu fu' i j : Nat} {z : Nat × Option (List aP)} (e : fb_X2_errorIn_17 fu (nI tx.length) (nI i) g = fb_X2_errorIn_17 fu' (nI tx.length) (nI j) g') (f : frR g g') (h : resC tx g' fu' j z) : resC tx g fu i z := by
  refine ⟨fun hz => ?_, fun D' hz => ?_⟩
  · obtain ⟨g2, e2, f2, r2⟩ := h.1 hz
    exact ⟨g2, e.trans e2, f.tr f2, r2⟩
  · obtain ⟨g2, e2, f2, r2⟩ := h.2 D' hz
    exact ⟨g2, e.trans e2, f.tr f2, r2⟩
/-- the condition at the end of a place is kept -/
theorem c_done {g : gG} {D : List aP} {F : aF} {i cx cy : Nat} (hS : clS g D.length 6 F [] i) (hi : i ≤ 120) (hD : D.length ≤ 9) (hdD : rdD g D) (hx : g.1 6 D.length = nI cx) (hy : g.1 7 D.length = nI cy) : ∃ g1 g2, f_X2_endCondition g = some ((), g1) ∧ f_X2_keepCondition g1 = some ((), g2) ∧ rdD g2 (D ++ [(cx, cy, cT F)]) ∧ frR g g2 ∧ g2.1 6 = g.1 6 ∧ g2.1 7 = g.1 7 ∧ g2.1 3 = g.1 3 := by
  obtain ⟨h1, h2, h3, h4, h5, h6, h7, h8⟩ := hS
  obtain ⟨g1, e1, a1, b1, c1, d1⟩ := c_endCond h3 (by decide) h4 (by omega) (h8 rfl)
  have hls : F.2.1 = [] := h7.2
  rw [stk_endC, hls] at b1
  have b1' : skC g1 [cT F] := b1
  have e10 : g1.1 3 10 = nI (D.length + 1) := by rw [c1]; exact h2
  obtain ⟨g2, e2, a2⟩ := c_keepCond (p := D.length + 1) (by omega) (by omega) e10
  rw [Nat.add_sub_cancel] at a2
  obtain ⟨p1, p2, p3⟩ := rdP d1
  refine ⟨g1, g2, e1, e2, ?_, ?_, by rw [a2.1]; exact p1, by rw [a2.1]; exact p2, by rw [a2.1]; exact c1⟩
  · intro p z hz
    by_cases ej : p < D.length
    · rw [List.getElem?_append_left ej] at hz
      obtain ⟨q1, q2, q3⟩ := hdD p z hz
      refine ⟨by rw [a2.1, p1]; exact q1, by rw [a2.1, p2]; exact q2, fun s hs => ?_⟩
      rw [a2.2.2.2 _ (by omega), p3]; exact q3 s hs
    · have hlt := (List.getElem?_eq_some_iff.mp hz).1
      rw [List.length_append] at hlt
      have hlt : p < D.length + 1 := hlt
      have e : p = D.length := by omega
      subst e
      have e8 : (cx, cy, cT F) = z := by simpa using hz
      subst e8
      refine ⟨by rw [a2.1, p1]; exact hx, by rw [a2.1, p2]; exact hy, fun s hs => ?_⟩
      rw [a2.2.2.1 (s / 64) (by omega) (by omega)]
      have h9 := b1'.2 0 (cT F) rfl s hs
      rw [show 8 * 0 + s / 64 = s / 64 by omega] at h9
      exact h9
  · refine (frR.p d1).tr ⟨fun j _ => by rw [a2.1], fun j _ h8 => a2.2.1 j h8⟩
theorem c_slash {g : gG} {F : aF} {i : Nat} (hS : clS g told 6 F [] i) : f_X2_takes (nI 47) g = (f_X2_endCondition g).bind (fun u3 => (f_X2_keepCondition u3.2).bind (fun u4 => (f_X2_beginsPlace u4.2).bind (fun u5 => if gZb u5.1 = true then some (u5.1, u5.2) else none))) := by
  obtain ⟨h1, h2, h3, h4, h5, h6, h7, h8⟩ := hS
  have e : f_X2_takes (nI 47) g = (f_X2_takesJoin (nI 47) g).bind (fun u15 => if gZb u15.1 = true then some (u15.1, u15.2) else none) := by
    unfold f_X2_takes
    rw [h1, if_neg (by decide), if_neg (by decide), if_neg (by decide), if_neg (by decide), if_neg (by decide), if_neg (by decide)]
  have hk := okFs_k h7
  have z1 : b2 (decide (0 < ([] : List aF).length) && decide (0 < F.1)) = 0 := rfl
  have z2 : b2 (decide (0 < ([] : List aF).length) && decide (F.1 = 0)) = 0 := rfl
  rw [e, c_join_eq h3 (by decide) hk.2, z1, z2]
  unfold fs_X2_takesJoin_49 fs_X2_takesJoin_101 fs_X2_takesJoin_156 fs_X2_takesJoin_186
  rw [if_neg (show ¬ (nI 47 = (46 : Int32)) by decide), if_neg (show ¬ (nI 47 = (43 : Int32)) by decide), if_neg (show ¬ (nI 47 = (44 : Int32)) by decide), if_neg (show ¬ (nI 47 = (93 : Int32)) by decide), if_neg (show ¬ (nI 47 = (41 : Int32)) by decide), if_pos (show nI 47 = (47 : Int32) from rfl), h3.1, if_pos (show nI ([] : List aF).length = (0 : Int32) from rfl)]
  cases f_X2_endCondition g with
  | none => rfl
  | some u =>
    simp only [ob_eq]
    cases f_X2_keepCondition u.2 with
    | none => rfl
    | some u4 =>
      simp only [ob_eq]
      cases f_X2_beginsPlace u4.2 with
      | none => rfl
      | some u5 =>
        simp only [ob_eq]
        by_cases hz : gZb u5.1 = true
        · rw [if_pos hz, ob_eq, if_pos hz]
        · rw [if_neg hz]; rfl
theorem c_coord {g : gG} {c : Nat} (hc : c < 256) (hm : g.1 3 11 = nI 2 ∨ g.1 3 11 = nI 3) {p : Nat} (hp : p < 10) (e10 : g.1 3 10 = nI (p + 1)) : (dig c = false → f_X2_takesCoordinate (nI c) g = some (0, g)) ∧ (dig c = true → (g.1 3 11 = nI 2 → f_X2_takesCoordinate (nI c) g = some (1, gI1 (gI1 g 6 p (nI (c - 48))) 3 11 3)) ∧ (g.1 3 11 = nI 3 → ∃ g', f_X2_takesCoordinate (nI c) g = some (1, g') ∧ g'.1 6 = g.1 6 ∧ g'.1 7 = upd (g.1 7) p (nI (c - 48)) ∧ g'.2 = g.2 ∧ (∀ j, (j < 3 ∨ 13 < j) → g'.1 j = g.1 j) ∧ g'.1 3 11 = 4 ∧ g'.1 3 10 = nI (p + 1) ∧ g'.1 3 9 = 0 ∧ g'.1 4 1 = 0 ∧ frC g' 0 (f0 0))) := by
  have e1 : (g.1 3 10) - (1 : Int32) = nI p := by
    rw [e10]; exact pk_sub (a := p + 1) (b := 1) (by omega)
  unfold f_X2_takesCoordinate
  refine ⟨fun hd => ?_, fun hd => ⟨fun hm2 => ?_, fun hm3 => ?_⟩⟩
  · have := of_decide_eq_false hd
    by_cases q : c < 48
    · rw [if_pos (show nI c < (48 : Int32) from nI_lt (b := 48) q (by decide))]
    · rw [if_neg (show ¬ (nI c < (48 : Int32)) from nI_nlt (b := 48) (by omega) (by omega)), if_neg (show ¬ (nI c ≤ (57 : Int32)) from nI_ge (a := 57) (by omega) (by omega))]
  · have h9 := of_decide_eq_true hd
    rw [if_neg (show ¬ (nI c < (48 : Int32)) from nI_nlt (b := 48) h9.1 (by omega)), if_pos (show nI c ≤ (57 : Int32) from nI_le (b := 57) h9.2 (by decide)), hm2, if_pos (show nI 2 = (2 : Int32) from rfl), e1, if_pos (inb_nI (by omega) (by decide)), nI_clamp (by omega), show nI c - (48 : Int32) = nI (c - 48) from pk_sub (a := c) (b := 48) h9.1]
    simp only [gl_eq]
  · have h9 := of_decide_eq_true hd
    rw [if_neg (show ¬ (nI c < (48 : Int32)) from nI_nlt (b := 48) h9.1 (by omega)), if_pos (show nI c ≤ (57 : Int32) from nI_le (b := 57) h9.2 (by decide)), hm3, if_neg (show ¬ (nI 3 = (2 : Int32)) by decide), e1, if_pos (inb_nI (by omega) (by decide)), nI_clamp (by omega), show nI c - (48 : Int32) = nI (c - 48) from pk_sub (a := c) (b := 48) h9.1]
    unfold f_X7_clear
    simp only [gl_eq, ob_eq]
    have e0 : (gI1 (gI1 (gI1 g 7 p (nI (c - 48))) 4 1 0) 3 9 0).1 3 9 = nI 0 := by rw [r_self, if_pos rfl]; rfl
    obtain ⟨g1, x1, y1, z1, w1, v1, u1, k1⟩ := c_beginC 0 (m := 0) (by decide) e0
    rw [show f_X2_beginConditions (0 : Int32) (gI1 (gI1 (gI1 g 7 p (nI (c - 48))) 4 1 0) 3 9 0) = _ from x1]
    simp only [ob_eq]
    have q : ∀ j, j ≠ 3 → j ≠ 4 → (j < 9 ∨ 13 < j) → (gI1 g1 3 11 4).1 j = (gI1 g 7 p (nI (c - 48))).1 j := fun j a b c' => by
      rw [gI1_1, if_neg a, u1.1 j a b c', gI1_1, if_neg a, gI1_1, if_neg b]
    refine ⟨_, rfl, ?_, ?_, ?_, fun j hj => ?_, by rw [r_self, if_pos rfl], ?_, ?_, ?_, ?_⟩
    · rw [q 6 (by decide) (by decide) (by decide), gI1_1, if_neg (by decide)]
    · rw [q 7 (by decide) (by decide) (by decide), gI1_1, if_pos rfl]
    · show g1.2 = g.2
      rw [v1]; rfl
    · rw [q j (by omega) (by omega) (by omega), gI1_1, if_neg (by omega)]
    · rw [r_self, if_neg (by decide), z1, r_self, if_neg (by decide), gI1_1, if_neg (by decide), gI1_1, if_neg (by decide)]; exact e10
    · rw [r_self, if_neg (by decide), z1]; exact e0
    · rw [gI1_1, if_neg (by decide), w1, gI1_1, if_neg (by decide), r_self, if_pos rfl]
    · obtain ⟨q1, q2, q3, q4, q5⟩ := y1
      exact ⟨by rw [gI1_1, if_neg (by decide)]; exact q1, by rw [gI1_1, if_neg (by decide)]; exact q2, by rw [gI1_1, if_neg (by decide)]; exact q3, by rw [gI1_1, if_neg (by decide)]; exact q4, by rw [gI1_1, if_neg (by decide)]; exact q5⟩
theorem rdC_upd {g g' : gG} (h : rdC g) {p v : Nat} (hv : v ≤ 9) (h6 : g'.1 6 = g.1 6 ∨ g'.1 6 = upd (g.1 6) p (nI v)) (h7 : g'.1 7 = g.1 7 ∨ g'.1 7 = upd (g.1 7) p (nI v)) : rdC g' := by
  have key : ∀ f : Nat → Int32, ∀ q, (∃ w, w ≤ 9 ∧ f q = nI w) → ∃ w, w ≤ 9 ∧ upd f p (nI v) q = nI w := by
    intro f q hq
    unfold upd
    by_cases e : q = p
    · rw [if_pos e]; exact ⟨v, hv, rfl⟩
    · rw [if_neg e]; exact hq
  intro q hq
  obtain ⟨a, b⟩ := h q hq
  refine ⟨?_, ?_⟩
  · rcases h6 with h6 | h6
    · rw [h6]; exact a
    · rw [h6]; exact key _ q a
  · rcases h7 with h7 | h7
    · rw [h7]; exact b
    · rw [h7]; exact key _ q b
/-- what stands behind a condition: the end or the next place -/
def aftP (tx : List Nat) (d : Nat) : Prop := ∀ i (D : List aP) (F : aF) cx cy g fu, clS g D.length 6 F [] i → rdD g D → g.1 6 D.length = nI cx → g.1 7 D.length = nI cy → cx ≤ 9 → cy ≤ 9 → (∀ w ∈ D, w.1 ≤ 9 ∧ w.2.1 ≤ 9) → rdC g → txC g tx → i ≤ tx.length → (i < tx.length → tx.getD i 0 = 47) → D.length ≤ 9 → tx.length - i < fu → 10 ≤ D.length + d → resC tx g fu i (if i = tx.length ∧ 2 ≤ D.length + 1 then (i, some (D ++ [(cx, cy, cT F)])) else tR tx d i (D ++ [(cx, cy, cT F)]))
theorem c_end_l {g : gG} {fu i : Nat} (hl : tx.length ≤ 120) (hi : i = tx.length) (hf : 0 < fu) (hm : ¬ g.1 3 11 = (6 : Int32)) : fb_X2_errorIn_17 fu (nI tx.length) (nI i) g = some (nI i, g) := by
  obtain ⟨fu, rfl⟩ : ∃ f', fu = f' + 1 := ⟨fu - 1, by omega⟩
  unfold fb_X2_errorIn_17 fs_X2_errorIn_17
  rw [if_pos (nI_le (by omega) (by omega)), if_neg hm, hi]
theorem c_loop_s {g : gG} {fu i : Nat} (hl : tx.length ≤ 120) (hc : ∀ c ∈ tx, c < 256) (hT : txC g tx) (hi : i < tx.length) : fb_X2_errorIn_17 (fu + 1) (nI tx.length) (nI i) g = (f_X2_takes (nI (tx.getD i 0)) g).bind (fun u8 => if u8.1 = (0 : Int32) then (some (nI i, u8.2)) else (fb_X2_errorIn_17 fu (nI tx.length) (nI (i + 1)) u8.2)) := by
  show fs_X2_errorIn_17 (fb_X2_errorIn_17 fu) (nI tx.length) (nI i) g = _
  unfold fs_X2_errorIn_17
  rw [if_neg (nI_ge (by omega) (by omega)), (c_sign hT hl hc hi).1]
  simp only [ob_eq, gl_eq, nI_1]
theorem resC_no {g g' : gG} {fu i j : Nat} (e : fb_X2_errorIn_17 fu (nI tx.length) (nI i) g = some (nI j, g')) (f : frR g g') (r : rdC g') : resC tx g fu i (j, none) := ⟨fun _ => ⟨g', e, f, r⟩, fun D' h => by cases h⟩
theorem c_place (hl : tx.length ≤ 120) (hc : ∀ c ∈ tx, c < 256) {d : Nat} (hA : aftP tx d) {D : List aP} (hD : D.length ≤ 9) (hd : 10 ≤ D.length + d) {i fu : Nat} {g : gG} (h11 : g.1 3 11 = nI 2) (h10 : g.1 3 10 = nI (D.length + 1)) (hdD : rdD g D) (hW : ∀ w ∈ D, w.1 ≤ 9 ∧ w.2.1 ≤ 9) (hr : rdC g) (hT : txC g tx) (hi : i ≤ tx.length) (hf : tx.length - i < fu) : resC tx g fu i (plc tx (tR tx d) D i) := by
  unfold plc
  by_cases hlt : i < tx.length
  · obtain ⟨fu, rfl⟩ : ∃ f', fu = f' + 1 := ⟨fu - 1, by omega⟩
    obtain ⟨es, hcl⟩ := c_sign hT hl hc hlt
    obtain ⟨q1, q2⟩ := c_coord hcl (Or.inl h11) (p := D.length) (by omega) h10
    have et : f_X2_takes (nI (tx.getD i 0)) g = (f_X2_takesCoordinate (nI (tx.getD i 0)) g).bind (fun u1 => if gZb u1.1 = true then some (u1.1, u1.2) else none) := by
      unfold f_X2_takes fs_X2_takes_80
      rw [h11, if_neg (by decide), if_neg (by decide), if_pos (show nI 2 = (2 : Int32) from rfl)]
    have eL := c_loop_s (fu := fu) hl hc hT hlt
    cases hdg : dig (tx.getD i 0) with
    | false =>
      rw [if_neg (fun e => by cases e.2)]
      refine resC_no (g' := g) ?_ frR.rf hr
      rw [eL, et, q1 hdg]
      simp only [ob_eq]
      rw [if_pos (show gZb 0 = true by decide)]
      simp only [ob_eq]
      rw [if_pos trivial]
    | true =>
      rw [if_pos ⟨hlt, rfl⟩]
      have hdv := of_decide_eq_true hdg
      have e1 := (q2 hdg).1 h11
      have eL1 : fb_X2_errorIn_17 (fu + 1) (nI tx.length) (nI i) g = fb_X2_errorIn_17 fu (nI tx.length) (nI (i + 1)) (gI1 (gI1 g 6 D.length (nI (tx.getD i 0 - 48))) 3 11 3) := by
        rw [eL, et, e1]
        simp only [ob_eq]
        rw [if_pos (show gZb 1 = true by decide)]
        simp only [ob_eq]
        rw [if_neg one0]
      have f1 : frR g (gI1 (gI1 g 6 D.length (nI (tx.getD i 0 - 48))) 3 11 3) := (frR.i (by decide)).tr (frR.i (by decide))
      have x6 : (gI1 (gI1 g 6 D.length (nI (tx.getD i 0 - 48))) 3 11 3).1 6 = upd (g.1 6) D.length (nI (tx.getD i 0 - 48)) := by rw [gI1_1, if_neg (by decide), gI1_1, if_pos rfl]
      have x7 : (gI1 (gI1 g 6 D.length (nI (tx.getD i 0 - 48))) 3 11 3).1 7 = g.1 7 := by rw [gI1_1, if_neg (by decide), gI1_1, if_neg (by decide)]
      have hr1 : rdC (gI1 (gI1 g 6 D.length (nI (tx.getD i 0 - 48))) 3 11 3) := rdC_upd hr (p := D.length) (v := tx.getD i 0 - 48) (by omega) (Or.inr x6) (Or.inl x7)
      have y11 : (gI1 (gI1 g 6 D.length (nI (tx.getD i 0 - 48))) 3 11 3).1 3 11 = nI 3 := by rw [r_self, if_pos rfl]; rfl
      have y10 : (gI1 (gI1 g 6 D.length (nI (tx.getD i 0 - 48))) 3 11 3).1 3 10 = nI (D.length + 1) := by rw [r_self, if_neg (by decide), gI1_1, if_neg (by decide)]; exact h10
      refine resC_tr eL1 f1 ?_
      have hT1 := txC_R hT f1
      have x28 : (gI1 (gI1 g 6 D.length (nI (tx.getD i 0 - 48))) 3 11 3).2 = g.2 := rfl
      generalize gI1 (gI1 g 6 D.length (nI (tx.getD i 0 - 48))) 3 11 3 = gx at *
      by_cases hlt2 : i + 1 < tx.length
      · obtain ⟨fu, rfl⟩ : ∃ f', fu = f' + 1 := ⟨fu - 1, by omega⟩
        obtain ⟨es2, hcl2⟩ := c_sign hT1 hl hc hlt2
        obtain ⟨p1, p2⟩ := c_coord hcl2 (Or.inr y11) (p := D.length) (by omega) y10
        have et2 : f_X2_takes (nI (tx.getD (i + 1) 0)) gx = (f_X2_takesCoordinate (nI (tx.getD (i + 1) 0)) gx).bind (fun u1 => if gZb u1.1 = true then some (u1.1, u1.2) else none) := by
          unfold f_X2_takes fs_X2_takes_80
          rw [y11, if_neg (by decide), if_neg (by decide), if_neg (by decide), if_pos (show nI 3 = (3 : Int32) from rfl)]
        have eL2 := c_loop_s (fu := fu) hl hc hT1 hlt2
        cases hdg2 : dig (tx.getD (i + 1) 0) with
        | false =>
          rw [if_neg (fun e => by cases e.2)]
          refine resC_no (g' := gx) ?_ frR.rf hr1
          rw [eL2, et2, p1 hdg2]
          simp only [ob_eq]
          rw [if_pos (show gZb 0 = true by decide)]
          simp only [ob_eq]
          rw [if_pos trivial]
        | true =>
          rw [if_pos ⟨hlt2, rfl⟩]
          have hdv2 := of_decide_eq_true hdg2
          obtain ⟨g2, e2, w6, w7, w8, wf, w11, w10, w9, w4, wF⟩ := (p2 hdg2).2 y11
          have eL3 : fb_X2_errorIn_17 (fu + 1) (nI tx.length) (nI (i + 1)) gx = fb_X2_errorIn_17 fu (nI tx.length) (nI (i + 2)) g2 := by
            rw [eL2, et2, e2]
            simp only [ob_eq]
            rw [if_pos (show gZb 1 = true by decide)]
            simp only [ob_eq]
            rw [if_neg one0]
          have f2 : frR gx g2 := ⟨wf, fun j _ _ => by rw [w8]⟩
          have hr2 : rdC g2 := rdC_upd hr1 (p := D.length) (v := tx.getD (i + 1) 0 - 48) (by omega) (Or.inl w6) (Or.inr w7)
          have hT2 := txC_R hT1 f2
          refine resC_tr eL3 f2 ?_
          have hdD2 : rdD g2 D := by
            intro p z hz
            have hlp := (List.getElem?_eq_some_iff.mp hz).1
            obtain ⟨k1, k2, k3⟩ := hdD p z hz
            refine ⟨?_, ?_, ?_⟩
            · rw [w6, x6]; unfold upd; rw [if_neg (by omega)]; exact k1
            · rw [w7]; unfold upd; rw [if_neg (by omega), x7]; exact k2
            · intro s hs; rw [w8, x28]; exact k3 s hs
          have hx6 : g2.1 6 D.length = nI (tx.getD i 0 - 48) := by rw [w6, x6]; unfold upd; rw [if_pos rfl]
          have hx7 : g2.1 7 D.length = nI (tx.getD (i + 1) 0 - 48) := by rw [w7]; unfold upd; rw [if_pos rfl]
          have hS : clS g2 D.length 4 (f0 0) [] (i + 2) := by
            refine ⟨w11, w10, ⟨w9, wF, trivial⟩, ⟨w4, fun j t ht => ?_⟩, Nat.zero_le _, Nat.zero_le _, ⟨rfl, rfl⟩, fun e => by cases e⟩
            have ht : ([] : List Tr)[j]? = some t := ht
            simp at ht
          obtain ⟨cn, cs⟩ := c_cond hl hc hD (tx.length - (i + 2)) (i + 2) 4 (f0 0) [] g2 fu (by omega) (by omega) hS (Or.inl rfl) hT2
          unfold aft
          cases er : (cR tx D.length (tx.length - (i + 2)) (i + 2) 4 (f0 0) []).2 with
          | none =>
            obtain ⟨g3, e3, f3⟩ := cn er
            obtain ⟨r1, r2, r3⟩ := rdP f3
            exact resC_no e3 (frR.p f3) (rdC_eq hr2 r1 r2)
          | some F =>
            obtain ⟨g3, fu3, e3, l3, s3, f3, l4, l5, l6⟩ := cs F er
            obtain ⟨r1, r2, r3⟩ := rdP f3
            refine resC_tr e3 (frR.p f3) ?_
            exact hA _ D F _ _ g3 fu3 s3 (rdD_eq hdD2 r1 r2 r3) (by rw [r1]; exact hx6) (by rw [r2]; exact hx7) (by omega) (by omega) hW (rdC_eq hr2 r1 r2) (txC_fr hT2 f3) l5 l6 hD l3 hd
      · rw [if_neg (fun e => hlt2 e.1)]
        refine resC_no (g' := gx) ?_ frR.rf hr1
        exact c_end_l hl (by omega) (by omega) (by rw [y11]; decide)
  · rw [if_neg (fun e => hlt e.1)]
    refine resC_no (g' := g) ?_ frR.rf hr
    exact c_end_l hl (by omega) (by omega) (by rw [h11]; decide)
theorem c_aft (hl : tx.length ≤ 120) (hc : ∀ c ∈ tx, c < 256) (d : Nat) : aftP tx d := by
  induction d with
  | zero =>
    intro i D F cx cy g fu hS hdD hx hy hx9 hy9 hW hr hT hi h47 hD hf hd
    omega
  | succ d ih =>
    intro i D F cx cy g fu hS hdD hx hy hx9 hy9 hW hr hT hi h47 hD hf hd
    obtain ⟨fu, rfl⟩ : ∃ f', fu = f' + 1 := ⟨fu - 1, by omega⟩
    obtain ⟨g1, g2, e1, e2, hdD', f2, k6, k7, k3⟩ := c_done hS (by omega) hD hdD hx hy
    have hlen : (D ++ [(cx, cy, cT F)]).length = D.length + 1 := by rw [List.length_append]; rfl
    have hW' : ∀ w ∈ D ++ [(cx, cy, cT F)], w.1 ≤ 9 ∧ w.2.1 ≤ 9 := by
      intro w hw
      rcases List.mem_append.mp hw with h | h
      · exact hW w h
      · rw [List.mem_singleton.mp h]; exact ⟨hx9, hy9⟩
    have hr2 := rdC_eq hr k6 k7
    have h10 : g.1 3 10 = nI (D.length + 1) := hS.2.1
    by_cases hend : i = tx.length
    · have eE : fb_X2_errorIn_17 (fu + 1) (nI tx.length) (nI i) g = if (2 : Int32) ≤ nI (D.length + 1) then some (-9, g2) else some (nI tx.length, g) := by
        unfold fb_X2_errorIn_17 fs_X2_errorIn_17
        rw [if_pos (nI_le (by omega) (by omega)), hS.1, if_pos (show nI 6 = (6 : Int32) from rfl), hS.2.2.1.1, if_pos (show nI ([] : List aF).length = (0 : Int32) from rfl), h10, e1]
        simp only [ob_eq]
        rw [e2]
        simp only [ob_eq]
      by_cases h2 : 2 ≤ D.length + 1
      · rw [if_pos ⟨hend, h2⟩]
        refine ⟨fun h => (by cases h), fun D' h => ?_⟩
        cases h
        refine ⟨g2, ?_, f2, hr2, hdD', by rw [k3, hlen]; exact h10, by rw [hlen]; exact h2, by rw [hlen]; omega, hW'⟩
        rw [eE, if_pos (show (2 : Int32) ≤ nI (D.length + 1) from nI_le (a := 2) h2 (by omega))]
      · rw [if_neg (fun e => h2 e.2)]
        have etR : tR tx (d + 1) i (D ++ [(cx, cy, cT F)]) = (i, none) := if_neg (fun e => by omega)
        rw [etR]
        refine resC_no (g' := g) ?_ frR.rf hr
        rw [eE, if_neg (show ¬ ((2 : Int32) ≤ nI (D.length + 1)) from nI_ge (b := 2) (by omega) (by decide)), hend]
    · have hlt : i < tx.length := by omega
      have hc47 := h47 hlt
      rw [if_neg (fun e => hend e.1)]
      have eL := c_loop_s (fu := fu) hl hc hT hlt
      rw [hc47, c_slash hS, e1] at eL
      simp only [ob_eq] at eL
      rw [e2] at eL
      simp only [ob_eq] at eL
      have h10' : g2.1 3 10 = nI (D.length + 1) := by rw [k3]; exact h10
      unfold f_X2_beginsPlace at eL
      rw [h10'] at eL
      by_cases h9 : D.length + 1 < 10
      · have etR : tR tx (d + 1) i (D ++ [(cx, cy, cT F)]) = plc tx (tR tx d) (D ++ [(cx, cy, cT F)]) (i + 1) := if_pos ⟨hlt, hc47, by rw [hlen]; exact h9⟩
        rw [etR]
        rw [if_pos (show nI (D.length + 1) < (10 : Int32) from nI_lt (b := 10) h9 (by decide)), nI_1] at eL
        simp only [gl_eq, ob_eq] at eL
        rw [if_pos (show gZb 1 = true by decide)] at eL
        simp only [ob_eq] at eL
        rw [if_neg one0] at eL
        have f3 : frR g2 (gI1 (gI1 g2 3 10 (nI (D.length + 1 + 1))) 3 11 2) := (frR.i (by decide)).tr (frR.i (by decide))
        have f4 := f2.tr f3
        refine resC_tr eL f4 ?_
        refine c_place hl hc ih (D := D ++ [(cx, cy, cT F)]) (by rw [hlen]; omega) (by rw [hlen]; omega) ?_ ?_ (rdD_eq hdD' ?_ ?_ rfl) hW' (rdC_eq hr2 ?_ ?_) (txC_R hT f4) (by omega) (by omega)
        · rw [r_self, if_pos rfl]; rfl
        · rw [r_self, if_neg (by decide), r_self, if_pos rfl, hlen]
        · rw [gI1_1, if_neg (by decide), gI1_1, if_neg (by decide)]
        · rw [gI1_1, if_neg (by decide), gI1_1, if_neg (by decide)]
        · rw [gI1_1, if_neg (by decide), gI1_1, if_neg (by decide)]
        · rw [gI1_1, if_neg (by decide), gI1_1, if_neg (by decide)]
      · have etR : tR tx (d + 1) i (D ++ [(cx, cy, cT F)]) = (i, none) := if_neg (fun e => by have := e.2.2; rw [hlen] at this; omega)
        rw [etR]
        rw [if_neg (show ¬ (nI (D.length + 1) < (10 : Int32)) from nI_nlt (b := 10) (by omega) (by omega))] at eL
        simp only [ob_eq] at eL
        rw [if_pos (show gZb 0 = true by decide)] at eL
        simp only [ob_eq] at eL
        rw [if_pos trivial] at eL
        exact resC_no eL f2 hr2
/-- the class's reading of the whole text -/
theorem c_errorIn {g : gG} (hl : tx.length ≤ 120) (hc : ∀ c ∈ tx, c < 256) (hT : txC g tx) (hr : rdC g) : ((pT tx).2 = none → ∃ g', f_X2_errorIn g = some (nI (pT tx).1, g') ∧ frR g g' ∧ rdC g') ∧ ∀ D', (pT tx).2 = some D' → ∃ g', f_X2_errorIn g = some (-9, g') ∧ frR g g' ∧ rdC g' ∧ rdD g' D' ∧ g'.1 3 10 = nI D'.length ∧ 2 ≤ D'.length ∧ D'.length ≤ 10 ∧ ∀ w ∈ D', w.1 ≤ 9 ∧ w.2.1 ≤ 9 := by
  have f0' : frR g (gI1 (gI1 g 3 10 0) 3 11 0) := (frR.i (by decide)).tr (frR.i (by decide))
  have e6 : (gI1 (gI1 g 3 10 0) 3 11 0).1 6 = g.1 6 := by rw [gI1_1, if_neg (by decide), gI1_1, if_neg (by decide)]
  have e7 : (gI1 (gI1 g 3 10 0) 3 11 0).1 7 = g.1 7 := by rw [gI1_1, if_neg (by decide), gI1_1, if_neg (by decide)]
  have e11 : (gI1 (gI1 g 3 10 0) 3 11 0).1 3 11 = 0 := by rw [r_self, if_pos rfl]
  have e10 : (gI1 (gI1 g 3 10 0) 3 11 0).1 3 10 = 0 := by rw [r_self, if_neg (by decide), r_self, if_pos rfl]
  have hr0 := rdC_eq hr e6 e7
  have hT0 := txC_R hT f0'
  have eF : f_X2_errorIn g = fb_X2_errorIn_17 gFuel (nI tx.length) (nI 0) (gI1 (gI1 g 3 10 0) 3 11 0) := by
    unfold f_X2_errorIn f_X6_length
    simp only [gl_eq, ob_eq]
    rw [hT0.1]
    rfl
  have main : resC tx (gI1 (gI1 g 3 10 0) 3 11 0) gFuel 0 (pT tx) := by
    have hg : gFuel = 5999 + 1 := rfl
    have hg2 : (5999 : Nat) = 5998 + 1 := rfl
    generalize gI1 (gI1 g 3 10 0) 3 11 0 = g0 at *
    unfold pT
    by_cases h0 : 0 < tx.length
    · have eL := c_loop_s (fu := 5999) hl hc hT0 h0
      obtain ⟨es, hcl⟩ := c_sign hT0 hl hc h0
      have et : f_X2_takes (nI (tx.getD 0 0)) g0 = if nI (tx.getD 0 0) = (72 : Int32) then some (1, gI1 g0 3 11 1) else some (0, gI1 g0 3 11 1) := by
        unfold f_X2_takes
        rw [e11, if_pos zero0]
        simp only [gl_eq]
      rw [et, ← hg] at eL
      have f1 : frR g0 (gI1 g0 3 11 1) := frR.i (by decide)
      have hr1 : rdC (gI1 g0 3 11 1) := rdC_eq hr0 (by rw [gI1_1, if_neg (by decide)]) (by rw [gI1_1, if_neg (by decide)])
      have hT1 := txC_R hT0 f1
      have x11 : (gI1 g0 3 11 1).1 3 11 = 1 := by rw [r_self, if_pos rfl]
      have x10 : (gI1 g0 3 11 1).1 3 10 = 0 := by rw [r_self, if_neg (by decide)]; exact e10
      by_cases h72 : tx.getD 0 0 = 72
      · rw [if_pos ⟨h0, h72⟩]
        rw [if_pos (show nI (tx.getD 0 0) = (72 : Int32) by rw [h72]; rfl)] at eL
        simp only [ob_eq] at eL
        rw [if_neg one0] at eL
        refine resC_tr eL f1 ?_
        generalize gI1 g0 3 11 1 = g1 at *
        have etR : tR tx 11 1 [] = if 1 < tx.length ∧ tx.getD 1 0 = 47 ∧ ([] : List aP).length < 10 then plc tx (tR tx 10) [] 2 else (1, none) := rfl
        rw [etR]
        by_cases h1 : 1 < tx.length
        · have eL1 := c_loop_s (fu := 5998) hl hc hT1 h1
          obtain ⟨es1, hcl1⟩ := c_sign hT1 hl hc h1
          have et1 : f_X2_takes (nI (tx.getD 1 0)) g1 = if nI (tx.getD 1 0) = (47 : Int32) then some (1, gI1 (gI1 g1 3 10 1) 3 11 2) else some (0, g1) := by
            unfold f_X2_takes f_X2_beginsPlace
            rw [x11, if_neg one0, if_pos (show (1 : Int32) = 1 from rfl)]
            by_cases h47 : nI (tx.getD 1 0) = (47 : Int32)
            · rw [if_pos h47, if_pos h47, x10, if_pos (by decide)]
              simp only [gl_eq, ob_eq]
              rw [if_neg one0, show (0 : Int32) + (1 : Int32) = 1 by decide]
            · rw [if_neg h47, if_neg h47]
          rw [et1, ← hg2] at eL1
          by_cases h47 : tx.getD 1 0 = 47
          · rw [if_pos ⟨h1, h47, by decide⟩]
            rw [if_pos (show nI (tx.getD 1 0) = (47 : Int32) by rw [h47]; rfl)] at eL1
            simp only [ob_eq] at eL1
            rw [if_neg one0] at eL1
            have f2 : frR g1 (gI1 (gI1 g1 3 10 1) 3 11 2) := (frR.i (by decide)).tr (frR.i (by decide))
            refine resC_tr eL1 f2 ?_
            refine c_place hl hc (c_aft hl hc 10) (D := []) (by decide) (by decide) ?_ ?_ (fun p z hz => by simp at hz) (fun w hw => by simp at hw) (rdC_eq hr1 ?_ ?_) (txC_R hT1 f2) (by omega) (by omega)
            · rw [r_self, if_pos rfl]; rfl
            · rw [r_self, if_neg (by decide), r_self, if_pos rfl]; rfl
            · rw [gI1_1, if_neg (by decide), gI1_1, if_neg (by decide)]
            · rw [gI1_1, if_neg (by decide), gI1_1, if_neg (by decide)]
          · rw [if_neg (fun e => h47 e.2.1)]
            rw [if_neg (show ¬ (nI (tx.getD 1 0) = (47 : Int32)) from fun e => h47 ((nI_eq (b := 47) (by omega) (by decide)).mp e))] at eL1
            simp only [ob_eq] at eL1
            rw [if_pos trivial] at eL1
            exact resC_no eL1 frR.rf hr1
        · rw [if_neg (fun e => h1 e.1)]
          exact resC_no (c_end_l hl (by omega) (by decide) (by rw [x11]; decide)) frR.rf hr1
      · rw [if_neg (fun e => h72 e.2)]
        rw [if_neg (show ¬ (nI (tx.getD 0 0) = (72 : Int32)) from fun e => h72 ((nI_eq (b := 72) (by omega) (by decide)).mp e))] at eL
        simp only [ob_eq] at eL
        rw [if_pos trivial] at eL
        exact resC_no eL f1 hr1
    · rw [if_neg (fun e => h0 e.1)]
      exact resC_no (c_end_l hl (by omega) (by decide) (by rw [e11]; decide)) frR.rf hr0
  rw [eF]
  refine ⟨fun h => ?_, fun D' h => ?_⟩
  · obtain ⟨g', e, f, r⟩ := main.1 h
    exact ⟨g', e, f0'.tr f, r⟩
  · obtain ⟨g', e, f, r⟩ := main.2 D' h
    exact ⟨g', e, f0'.tr f, r⟩
end CRD
