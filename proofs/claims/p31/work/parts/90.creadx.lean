/-! PURE: the reading of the class, with the reader's coordinates behind it. -/
section CRX
variable {tx : List Nat} {told : Nat}

def atR (tx : List Nat) (T : Nat → List aP → aR → aR) (D : List aP) (x y : Nat) (r : Nat × Option aF) (a : aR) : aR := match r.2 with
  | none => a
  | some F => if r.1 = tx.length ∧ 2 ≤ D.length + 1 then a else T r.1 (D ++ [(x, y, cT F)]) a
def pcR (tx : List Nat) (T : Nat → List aP → aR → aR) (D : List aP) (i : Nat) (a : aR) : aR := if i < tx.length ∧ dig (tx.getD i 0) = true then (if i + 1 < tx.length ∧ dig (tx.getD (i + 1) 0) = true then atR tx T D (tx.getD i 0 - 48) (tx.getD (i + 1) 0 - 48) (cR tx D.length (tx.length - (i + 2)) (i + 2) 4 (f0 0) []) (upd a.1 D.length (nI (tx.getD i 0 - 48)), upd a.2 D.length (nI (tx.getD (i + 1) 0 - 48))) else (upd a.1 D.length (nI (tx.getD i 0 - 48)), a.2)) else a
def tRR (tx : List Nat) : Nat → Nat → List aP → aR → aR
  | 0, _, _, a => a
  | d + 1, i, D, a => if i < tx.length ∧ tx.getD i 0 = 47 ∧ D.length < 10 then pcR tx (tRR tx d) D (i + 1) a else a
def pTR (tx : List Nat) (a : aR) : aR := if 0 < tx.length ∧ tx.getD 0 0 = 72 then tRR tx 11 1 [] a else a
def rdE (g : gG) (a : aR) : Prop := g.1 6 = a.1 ∧ g.1 7 = a.2
def resX (tx : List Nat) (g : gG) (fu i : Nat) (z : Nat × Option (List aP)) (a : aR) : Prop := (z.2 = none → ∃ g', fb_X2_errorIn_17 fu (nI tx.length) (nI i) g = some (nI z.1, g') ∧ frR g g' ∧ rdC g' ∧ rdE g' a) ∧ ∀ D', z.2 = some D' → ∃ g', fb_X2_errorIn_17 fu (nI tx.length) (nI i) g = some (-9, g') ∧ frR g g' ∧ rdC g' ∧ rdD g' D' ∧ g'.1 3 10 = nI D'.length ∧ 2 ≤ D'.length ∧ D'.length ≤ 10 ∧ (∀ w ∈ D', w.1 ≤ 9 ∧ w.2.1 ≤ 9) ∧ rdE g' a
theorem resX_tr {g g' : gG} {fu fu' i j : Nat} {z : Nat × Option (List aP)} {a : aR} (e : fb_X2_errorIn_17 fu (nI tx.length) (nI i) g = fb_X2_errorIn_17 fu' (nI tx.length) (nI j) g') (f : frR g g') (h : resX tx g' fu' j z a) : resX tx g fu i z a := by
  refine ⟨fun hz => ?_, fun D' hz => ?_⟩
  · obtain ⟨g2, e2, f2, r2⟩ := h.1 hz
    exact ⟨g2, e.trans e2, f.tr f2, r2⟩
  · obtain ⟨g2, e2, f2, r2⟩ := h.2 D' hz
    exact ⟨g2, e.trans e2, f.tr f2, r2⟩
theorem resX_no {g g' : gG} {fu i j : Nat} {a : aR} (e : fb_X2_errorIn_17 fu (nI tx.length) (nI i) g = some (nI j, g')) (f : frR g g') (r : rdC g') (ha : rdE g' a) : resX tx g fu i (j, none) a := ⟨fun _ => ⟨g', e, f, r, ha⟩, fun D' h => by cases h⟩
def aftX (tx : List Nat) (d : Nat) : Prop := ∀ i (D : List aP) (F : aF) cx cy g fu, clS g D.length 6 F [] i → rdD g D → g.1 6 D.length = nI cx → g.1 7 D.length = nI cy → cx ≤ 9 → cy ≤ 9 → (∀ w ∈ D, w.1 ≤ 9 ∧ w.2.1 ≤ 9) → rdC g → txC g tx → i ≤ tx.length → (i < tx.length → tx.getD i 0 = 47) → D.length ≤ 9 → tx.length - i < fu → 10 ≤ D.length + d → resX tx g fu i (if i = tx.length ∧ 2 ≤ D.length + 1 then (i, some (D ++ [(cx, cy, cT F)])) else tR tx d i (D ++ [(cx, cy, cT F)])) (if i = tx.length ∧ 2 ≤ D.length + 1 then (g.1 6, g.1 7) else tRR tx d i (D ++ [(cx, cy, cT F)]) (g.1 6, g.1 7))
theorem c_placeX (hl : tx.length ≤ 120) (hc : ∀ c ∈ tx, c < 256) {d : Nat} (hA : aftX tx d) {D : List aP} (hD : D.length ≤ 9) (hd : 10 ≤ D.length + d) {i fu : Nat} {g : gG} (h11 : g.1 3 11 = nI 2) (h10 : g.1 3 10 = nI (D.length + 1)) (hdD : rdD g D) (hW : ∀ w ∈ D, w.1 ≤ 9 ∧ w.2.1 ≤ 9) (hr : rdC g) (hT : txC g tx) (hi : i ≤ tx.length) (hf : tx.length - i < fu) : resX tx g fu i (plc tx (tR tx d) D i) (pcR tx (tRR tx d) D i (g.1 6, g.1 7)) := by
  unfold plc pcR
  by_cases hlt : i < tx.length
  · obtain ⟨fu, rfl⟩ : ∃ f', fu = f' + 1 := ⟨fu - 1, by omega⟩
    obtain ⟨es, hcl⟩ := c_sign hT hl hc hlt
    obtain ⟨q1, q2⟩ := c_coord hcl (Or.inl h11) (p := D.length) (by omega) h10
    have et : f_X2_takes (nI (tx.getD i 0)) g = (f_X2_takesCoordinate (nI (tx.getD i 0)) g).bind (fun u1 => if gZb u1.1 = true then some (u1.1, u1.2) else none) := by
      unfold f_X2_takes fs_X2_takes_80
      rw [h11, if_neg (by decide), if_neg (by decide), if_pos (show nI 2 = (2 : Int32) from rfl)]
    have eL := c_loop_s (fu := fu) hl hc hT hlt
    cases hdg : dig (tx.getD i 0) with
    | false =>
      rw [if_neg (fun e => by cases e.2), if_neg (fun e => by cases e.2)]
      refine resX_no (g' := g) ?_ frR.rf hr ⟨rfl, rfl⟩
      rw [eL, et, q1 hdg]
      simp only [ob_eq]
      rw [if_pos (show gZb 0 = true by decide)]
      simp only [ob_eq]
      rw [if_pos trivial]
    | true =>
      rw [if_pos (show i < tx.length ∧ true = true from ⟨hlt, rfl⟩), if_pos (show i < tx.length ∧ true = true from ⟨hlt, rfl⟩)]
      have hdv := of_decide_eq_true hdg
      have e1 := (q2 hdg).1 h11
      have eL1 : fb_X2_errorIn_17 (fu + 1) (nI tx.length) (nI i) g = fb_X2_errorIn_17 fu (nI tx.length) (nI (i + 1)) (gI1 (gI1 g 6 D.length (nI (tx.getD i 0 - 48))) 3 11 3) := by
        rw [eL, et, e1]
        simp only [ob_eq]
        rw [if_pos (show gZb 1 = true by decide)]
        simp only [ob_eq]
        rw [if_neg one0]
      have f1 : frR g (gI1 (gI1 g 6 D.length (nI (tx.getD i 0 - 48))) 3 11 3) := (frR.i (by decide)).tr (frR.i (by decide))
      have x6 : (gI1 (gI1 g 6 D.length (nI (tx.getD i 0 - 48))) 3 11 3).1 6 = upd (g.1 6) D.length (nI (tx.getD i 0 - 48)) := by rw [gI1_1, if_neg (by decide), gI1_1, if_pos rfl]
      have x7 : (gI1 (gI1 g 6 D.length (nI (tx.getD i 0 - 48))) 3 11 3).1 7 = g.1 7 := by rw [gI1_1, if_neg (by decide), gI1_1, if_neg (by decide)]
      have hr1 : rdC (gI1 (gI1 g 6 D.length (nI (tx.getD i 0 - 48))) 3 11 3) := rdC_upd hr (p := D.length) (v := tx.getD i 0 - 48) (by omega) (Or.inr x6) (Or.inl x7)
      have y11 : (gI1 (gI1 g 6 D.length (nI (tx.getD i 0 - 48))) 3 11 3).1 3 11 = nI 3 := by rw [r_self, if_pos rfl]; rfl
      have y10 : (gI1 (gI1 g 6 D.length (nI (tx.getD i 0 - 48))) 3 11 3).1 3 10 = nI (D.length + 1) := by rw [r_self, if_neg (by decide), gI1_1, if_neg (by decide)]; exact h10
      refine resX_tr eL1 f1 ?_
      have hT1 := txC_R hT f1
      have x28 : (gI1 (gI1 g 6 D.length (nI (tx.getD i 0 - 48))) 3 11 3).2 = g.2 := rfl
      generalize gI1 (gI1 g 6 D.length (nI (tx.getD i 0 - 48))) 3 11 3 = gx at *
      by_cases hlt2 : i + 1 < tx.length
      · obtain ⟨fu, rfl⟩ : ∃ f', fu = f' + 1 := ⟨fu - 1, by omega⟩
        obtain ⟨es2, hcl2⟩ := c_sign hT1 hl hc hlt2
        obtain ⟨p1, p2⟩ := c_coord hcl2 (Or.inr y11) (p := D.length) (by omega) y10
        have et2 : f_X2_takes (nI (tx.getD (i + 1) 0)) gx = (f_X2_takesCoordinate (nI (tx.getD (i + 1) 0)) gx).bind (fun u1 => if gZb u1.1 = true then some (u1.1, u1.2) else none) := by
          unfold f_X2_takes fs_X2_takes_80
          rw [y11, if_neg (by decide), if_neg (by decide), if_neg (by decide), if_pos (show nI 3 = (3 : Int32) from rfl)]
        have eL2 := c_loop_s (fu := fu) hl hc hT1 hlt2
        cases hdg2 : dig (tx.getD (i + 1) 0) with
        | false =>
          rw [if_neg (fun e => by cases e.2), if_neg (fun e => by cases e.2)]
          refine resX_no (g' := gx) ?_ frR.rf hr1 ⟨x6, x7⟩
          rw [eL2, et2, p1 hdg2]
          simp only [ob_eq]
          rw [if_pos (show gZb 0 = true by decide)]
          simp only [ob_eq]
          rw [if_pos trivial]
        | true =>
          rw [if_pos (show i + 1 < tx.length ∧ true = true from ⟨hlt2, rfl⟩), if_pos (show i + 1 < tx.length ∧ true = true from ⟨hlt2, rfl⟩)]
          have hdv2 := of_decide_eq_true hdg2
          obtain ⟨g2, e2, w6, w7, w8, wf, w11, w10, w9, w4, wF⟩ := (p2 hdg2).2 y11
          have eL3 : fb_X2_errorIn_17 (fu + 1) (nI tx.length) (nI (i + 1)) gx = fb_X2_errorIn_17 fu (nI tx.length) (nI (i + 2)) g2 := by
            rw [eL2, et2, e2]
            simp only [ob_eq]
            rw [if_pos (show gZb 1 = true by decide)]
            simp only [ob_eq]
            rw [if_neg one0]
          have f2 : frR gx g2 := ⟨wf, fun j _ _ => by rw [w8]⟩
          have hr2 : rdC g2 := rdC_upd hr1 (p := D.length) (v := tx.getD (i + 1) 0 - 48) (by omega) (Or.inl w6) (Or.inr w7)
          have hT2 := txC_R hT1 f2
          refine resX_tr eL3 f2 ?_
          have hdD2 : rdD g2 D := by
            intro p z hz
            have hlp := (List.getElem?_eq_some_iff.mp hz).1
            obtain ⟨k1, k2, k3⟩ := hdD p z hz
            refine ⟨?_, ?_, ?_⟩
            · rw [w6, x6]; unfold upd; rw [if_neg (by omega)]; exact k1
            · rw [w7]; unfold upd; rw [if_neg (by omega), x7]; exact k2
            · intro s hs; rw [w8, x28]; exact k3 s hs
          have hx6 : g2.1 6 D.length = nI (tx.getD i 0 - 48) := by rw [w6, x6]; unfold upd; rw [if_pos rfl]
          have hx7 : g2.1 7 D.length = nI (tx.getD (i + 1) 0 - 48) := by rw [w7]; unfold upd; rw [if_pos rfl]
          have hS : clS g2 D.length 4 (f0 0) [] (i + 2) := by
            refine ⟨w11, w10, ⟨w9, wF, trivial⟩, ⟨w4, fun j t ht => ?_⟩, Nat.zero_le _, Nat.zero_le _, ⟨rfl, rfl⟩, fun e => by cases e⟩
            have ht : ([] : List Tr)[j]? = some t := ht
            simp at ht
          obtain ⟨cn, cs⟩ := c_cond hl hc hD (tx.length - (i + 2)) (i + 2) 4 (f0 0) [] g2 fu (by omega) (by omega) hS (Or.inl rfl) hT2
          unfold aft atR
          cases er : (cR tx D.length (tx.length - (i + 2)) (i + 2) 4 (f0 0) []).2 with
          | none =>
            obtain ⟨g3, e3, f3⟩ := cn er
            obtain ⟨r1, r2, r3⟩ := rdP f3
            exact resX_no e3 (frR.p f3) (rdC_eq hr2 r1 r2) ⟨r1.trans (w6.trans x6), r2.trans (w7.trans (by rw [x7]))⟩
          | some F =>
            obtain ⟨g3, fu3, e3, l3, s3, f3, l4, l5, l6⟩ := cs F er
            obtain ⟨r1, r2, r3⟩ := rdP f3
            refine resX_tr e3 (frR.p f3) ?_
            have ea : (upd (g.1 6) D.length (nI (tx.getD i 0 - 48)), upd (g.1 7) D.length (nI (tx.getD (i + 1) 0 - 48))) = (g3.1 6, g3.1 7) := by rw [r1, r2, w6, w7, x6, x7]
            show resX tx g3 fu3 _ _ (if _ then (upd (g.1 6) D.length (nI (tx.getD i 0 - 48)), upd (g.1 7) D.length (nI (tx.getD (i + 1) 0 - 48))) else tRR tx d _ _ (upd (g.1 6) D.length (nI (tx.getD i 0 - 48)), upd (g.1 7) D.length (nI (tx.getD (i + 1) 0 - 48))))
            rw [ea]
            exact hA _ D F _ _ g3 fu3 s3 (rdD_eq hdD2 r1 r2 r3) (by rw [r1]; exact hx6) (by rw [r2]; exact hx7) (by omega) (by omega) hW (rdC_eq hr2 r1 r2) (txC_fr hT2 f3) l5 l6 hD l3 hd
      · rw [if_neg (fun e => hlt2 e.1), if_neg (fun e => hlt2 e.1)]
        refine resX_no (g' := gx) ?_ frR.rf hr1 ⟨x6, x7⟩
        exact c_end_l hl (by omega) (by omega) (by rw [y11]; decide)
  · rw [if_neg (fun e => hlt e.1), if_neg (fun e => hlt e.1)]
    refine resX_no (g' := g) ?_ frR.rf hr ⟨rfl, rfl⟩
    exact c_end_l hl (by omega) (by omega) (by rw [h11]; decide)
theorem c_aftX (hl : tx.length ≤ 120) (hc : ∀ c ∈ tx, c < 256) (d : Nat) : aftX tx d := by
  induction d with
  | zero =>
    intro i D F cx cy g fu hS hdD hx hy hx9 hy9 hW hr hT hi h47 hD hf hd
    omega
  | succ d ih =>
    intro i D F cx cy g fu hS hdD hx hy hx9 hy9 hW hr hT hi h47 hD hf hd
    obtain ⟨fu, rfl⟩ : ∃ f', fu = f' + 1 := ⟨fu - 1, by omega⟩
    obtain ⟨g1, g2, e1, e2, hdD', f2, k6, k7, k3⟩ := c_done hS (by omega) hD hdD hx hy
    have hlen : (D ++ [(cx, cy, cT F)]).length = D.length + 1 := by rw [List.length_append]; rfl
    have hW' : ∀ w ∈ D ++ [(cx, cy, cT F)], w.1 ≤ 9 ∧ w.2.1 ≤ 9 := by
      intro w hw
      rcases List.mem_append.mp hw with h | h
      · exact hW w h
      · rw [List.mem_singleton.mp h]; exact ⟨hx9, hy9⟩
    have hr2 := rdC_eq hr k6 k7
    have h10 : g.1 3 10 = nI (D.length + 1) := hS.2.1
    by_cases hend : i = tx.length
    · have eE : fb_X2_errorIn_17 (fu + 1) (nI tx.length) (nI i) g = if (2 : Int32) ≤ nI (D.length + 1) then some (-9, g2) else some (nI tx.length, g) := by
        unfold fb_X2_errorIn_17 fs_X2_errorIn_17
        rw [if_pos (nI_le (by omega) (by omega)), hS.1, if_pos (show nI 6 = (6 : Int32) from rfl), hS.2.2.1.1, if_pos (show nI ([] : List aF).length = (0 : Int32) from rfl), h10, e1]
        simp only [ob_eq]
        rw [e2]
        simp only [ob_eq]
      by_cases h2 : 2 ≤ D.length + 1
      · rw [if_pos ⟨hend, h2⟩, if_pos ⟨hend, h2⟩]
        refine ⟨fun h => (by cases h), fun D' h => ?_⟩
        cases h
        refine ⟨g2, ?_, f2, hr2, hdD', by rw [k3, hlen]; exact h10, by rw [hlen]; exact h2, by rw [hlen]; omega, hW', k6, k7⟩
        rw [eE, if_pos (show (2 : Int32) ≤ nI (D.length + 1) from nI_le (a := 2) h2 (by omega))]
      · rw [if_neg (fun e => h2 e.2), if_neg (fun e => h2 e.2)]
        have etR : tR tx (d + 1) i (D ++ [(cx, cy, cT F)]) = (i, none) := if_neg (fun e => by omega)
        have etS : tRR tx (d + 1) i (D ++ [(cx, cy, cT F)]) (g.1 6, g.1 7) = (g.1 6, g.1 7) := if_neg (fun e => by omega)
        rw [etR, etS]
        refine resX_no (g' := g) ?_ frR.rf hr ⟨rfl, rfl⟩
        rw [eE, if_neg (show ¬ ((2 : Int32) ≤ nI (D.length + 1)) from nI_ge (b := 2) (by omega) (by decide)), hend]
    · have hlt : i < tx.length := by omega
      have hc47 := h47 hlt
      rw [if_neg (fun e => hend e.1), if_neg (fun e => hend e.1)]
      have eL := c_loop_s (fu := fu) hl hc hT hlt
      rw [hc47, c_slash hS, e1] at eL
      simp only [ob_eq] at eL
      rw [e2] at eL
      simp only [ob_eq] at eL
      have h10' : g2.1 3 10 = nI (D.length + 1) := by rw [k3]; exact h10
      unfold f_X2_beginsPlace at eL
      rw [h10'] at eL
      by_cases h9 : D.length + 1 < 10
      · have etR : tR tx (d + 1) i (D ++ [(cx, cy, cT F)]) = plc tx (tR tx d) (D ++ [(cx, cy, cT F)]) (i + 1) := if_pos ⟨hlt, hc47, by rw [hlen]; exact h9⟩
        have etS : tRR tx (d + 1) i (D ++ [(cx, cy, cT F)]) (g.1 6, g.1 7) = pcR tx (tRR tx d) (D ++ [(cx, cy, cT F)]) (i + 1) (g.1 6, g.1 7) := if_pos ⟨hlt, hc47, by rw [hlen]; exact h9⟩
        rw [etR, etS]
        rw [if_pos (show nI (D.length + 1) < (10 : Int32) from nI_lt (b := 10) h9 (by decide)), nI_1] at eL
        simp only [gl_eq, ob_eq] at eL
        rw [if_pos (show gZb 1 = true by decide)] at eL
        simp only [ob_eq] at eL
        rw [if_neg one0] at eL
        have f3 : frR g2 (gI1 (gI1 g2 3 10 (nI (D.length + 1 + 1))) 3 11 2) := (frR.i (by decide)).tr (frR.i (by decide))
        have f4 := f2.tr f3
        refine resX_tr eL f4 ?_
        have ea : (g.1 6, g.1 7) = ((gI1 (gI1 g2 3 10 (nI (D.length + 1 + 1))) 3 11 2).1 6, (gI1 (gI1 g2 3 10 (nI (D.length + 1 + 1))) 3 11 2).1 7) := by
          rw [gI1_1, if_neg (by decide), gI1_1, if_neg (by decide), gI1_1, if_neg (by decide), gI1_1, if_neg (by decide), k6, k7]
        rw [ea]
        refine c_placeX hl hc ih (D := D ++ [(cx, cy, cT F)]) (by rw [hlen]; omega) (by rw [hlen]; omega) ?_ ?_ (rdD_eq hdD' ?_ ?_ rfl) hW' (rdC_eq hr2 ?_ ?_) (txC_R hT f4) (by omega) (by omega)
        · rw [r_self, if_pos rfl]; rfl
        · rw [r_self, if_neg (by decide), r_self, if_pos rfl, hlen]
        · rw [gI1_1, if_neg (by decide), gI1_1, if_neg (by decide)]
        · rw [gI1_1, if_neg (by decide), gI1_1, if_neg (by decide)]
        · rw [gI1_1, if_neg (by decide), gI1_1, if_neg (by decide)]
        · rw [gI1_1, if_neg (by decide), gI1_1, if_neg (by decide)]
      · have etR : tR tx (d + 1) i (D ++ [(cx, cy, cT F)]) = (i, none) := if_neg (fun e => by have := e.2.2; rw [hlen] at this; omega)
        have etS : tRR tx (d + 1) i (D ++ [(cx, cy, cT F)]) (g.1 6, g.1 7) = (g.1 6, g.1 7) := if_neg (fun e => by have := e.2.2; rw [hlen] at this; omega)
        rw [etR, etS]
        rw [if_neg (show ¬ (nI (D.length + 1) < (10 : Int32)) from nI_nlt (b := 10) (by omega) (by omega))] at eL
        simp only [ob_eq] at eL
        rw [if_pos (show gZb 0 = true by decide)] at eL
        simp only [ob_eq] at eL
        rw [if_pos trivial] at eL
        exact resX_no eL f2 hr2 ⟨k6, k7⟩
theorem c_errorInX {g : gG} (hl : tx.length ≤ 120) (hc : ∀ c ∈ tx, c < 256) (hT : txC g tx) (hr : rdC g) : ((pT tx).2 = none → ∃ g', f_X2_errorIn g = some (nI (pT tx).1, g') ∧ frR g g' ∧ rdC g' ∧ rdE g' (pTR tx (g.1 6, g.1 7))) ∧ ∀ D', (pT tx).2 = some D' → ∃ g', f_X2_errorIn g = some (-9, g') ∧ frR g g' ∧ rdC g' ∧ rdD g' D' ∧ g'.1 3 10 = nI D'.length ∧ 2 ≤ D'.length ∧ D'.length ≤ 10 ∧ (∀ w ∈ D', w.1 ≤ 9 ∧ w.2.1 ≤ 9) ∧ rdE g' (pTR tx (g.1 6, g.1 7)) := by
  have f0' : frR g (gI1 (gI1 g 3 10 0) 3 11 0) := (frR.i (by decide)).tr (frR.i (by decide))
  have e6 : (gI1 (gI1 g 3 10 0) 3 11 0).1 6 = g.1 6 := by rw [gI1_1, if_neg (by decide), gI1_1, if_neg (by decide)]
  have e7 : (gI1 (gI1 g 3 10 0) 3 11 0).1 7 = g.1 7 := by rw [gI1_1, if_neg (by decide), gI1_1, if_neg (by decide)]
  have e11 : (gI1 (gI1 g 3 10 0) 3 11 0).1 3 11 = 0 := by rw [r_self, if_pos rfl]
  have e10 : (gI1 (gI1 g 3 10 0) 3 11 0).1 3 10 = 0 := by rw [r_self, if_neg (by decide), r_self, if_pos rfl]
  have hr0 := rdC_eq hr e6 e7
  have hT0 := txC_R hT f0'
  have eF : f_X2_errorIn g = fb_X2_errorIn_17 gFuel (nI tx.length) (nI 0) (gI1 (gI1 g 3 10 0) 3 11 0) := by
    unfold f_X2_errorIn f_X6_length
    simp only [gl_eq, ob_eq]
    rw [hT0.1]
    rfl
  have main : resX tx (gI1 (gI1 g 3 10 0) 3 11 0) gFuel 0 (pT tx) (pTR tx ((gI1 (gI1 g 3 10 0) 3 11 0).1 6, (gI1 (gI1 g 3 10 0) 3 11 0).1 7)) := by
    have hg : gFuel = 5999 + 1 := rfl
    have hg2 : (5999 : Nat) = 5998 + 1 := rfl
    generalize gI1 (gI1 g 3 10 0) 3 11 0 = g0 at *
    unfold pT pTR
    by_cases h0 : 0 < tx.length
    · have eL := c_loop_s (fu := 5999) hl hc hT0 h0
      obtain ⟨es, hcl⟩ := c_sign hT0 hl hc h0
      have et : f_X2_takes (nI (tx.getD 0 0)) g0 = if nI (tx.getD 0 0) = (72 : Int32) then some (1, gI1 g0 3 11 1) else some (0, gI1 g0 3 11 1) := by
        unfold f_X2_takes
        rw [e11, if_pos zero0]
        simp only [gl_eq]
      rw [et, ← hg] at eL
      have f1 : frR g0 (gI1 g0 3 11 1) := frR.i (by decide)
      have hr1 : rdC (gI1 g0 3 11 1) := rdC_eq hr0 (by rw [gI1_1, if_neg (by decide)]) (by rw [gI1_1, if_neg (by decide)])
      have hT1 := txC_R hT0 f1
      have x11 : (gI1 g0 3 11 1).1 3 11 = 1 := by rw [r_self, if_pos rfl]
      have x10 : (gI1 g0 3 11 1).1 3 10 = 0 := by rw [r_self, if_neg (by decide)]; exact e10
      by_cases h72 : tx.getD 0 0 = 72
      · rw [if_pos ⟨h0, h72⟩, if_pos ⟨h0, h72⟩]
        rw [if_pos (show nI (tx.getD 0 0) = (72 : Int32) by rw [h72]; rfl)] at eL
        simp only [ob_eq] at eL
        rw [if_neg one0] at eL
        refine resX_tr eL f1 ?_
        have ea : (g0.1 6, g0.1 7) = ((gI1 g0 3 11 1).1 6, (gI1 g0 3 11 1).1 7) := by rw [gI1_1, if_neg (by decide), gI1_1, if_neg (by decide)]
        rw [ea]
        clear ea
        generalize gI1 g0 3 11 1 = g1 at *
        have etS : tRR tx 11 1 [] (g1.1 6, g1.1 7) = if 1 < tx.length ∧ tx.getD 1 0 = 47 ∧ ([] : List aP).length < 10 then pcR tx (tRR tx 10) [] 2 (g1.1 6, g1.1 7) else (g1.1 6, g1.1 7) := rfl
        rw [etS]
        have etR : tR tx 11 1 [] = if 1 < tx.length ∧ tx.getD 1 0 = 47 ∧ ([] : List aP).length < 10 then plc tx (tR tx 10) [] 2 else (1, none) := rfl
        rw [etR]
        by_cases h1 : 1 < tx.length
        · have eL1 := c_loop_s (fu := 5998) hl hc hT1 h1
          obtain ⟨es1, hcl1⟩ := c_sign hT1 hl hc h1
          have et1 : f_X2_takes (nI (tx.getD 1 0)) g1 = if nI (tx.getD 1 0) = (47 : Int32) then some (1, gI1 (gI1 g1 3 10 1) 3 11 2) else some (0, g1) := by
            unfold f_X2_takes f_X2_beginsPlace
            rw [x11, if_neg one0, if_pos (show (1 : Int32) = 1 from rfl)]
            by_cases h47 : nI (tx.getD 1 0) = (47 : Int32)
            · rw [if_pos h47, if_pos h47, x10, if_pos (by decide)]
              simp only [gl_eq, ob_eq]
              rw [if_neg one0, show (0 : Int32) + (1 : Int32) = 1 by decide]
            · rw [if_neg h47, if_neg h47]
          rw [et1, ← hg2] at eL1
          by_cases h47 : tx.getD 1 0 = 47
          · rw [if_pos ⟨h1, h47, by decide⟩, if_pos ⟨h1, h47, by decide⟩]
            rw [if_pos (show nI (tx.getD 1 0) = (47 : Int32) by rw [h47]; rfl)] at eL1
            simp only [ob_eq] at eL1
            rw [if_neg one0] at eL1
            have f2 : frR g1 (gI1 (gI1 g1 3 10 1) 3 11 2) := (frR.i (by decide)).tr (frR.i (by decide))
            refine resX_tr eL1 f2 ?_
            have ea : (g1.1 6, g1.1 7) = ((gI1 (gI1 g1 3 10 1) 3 11 2).1 6, (gI1 (gI1 g1 3 10 1) 3 11 2).1 7) := by rw [gI1_1, if_neg (by decide), gI1_1, if_neg (by decide), gI1_1, if_neg (by decide), gI1_1, if_neg (by decide)]
            rw [ea]
            refine c_placeX hl hc (c_aftX hl hc 10) (D := []) (by decide) (by decide) ?_ ?_ (fun p z hz => by simp at hz) (fun w hw => by simp at hw) (rdC_eq hr1 ?_ ?_) (txC_R hT1 f2) (by omega) (by omega)
            · rw [r_self, if_pos rfl]; rfl
            · rw [r_self, if_neg (by decide), r_self, if_pos rfl]; rfl
            · rw [gI1_1, if_neg (by decide), gI1_1, if_neg (by decide)]
            · rw [gI1_1, if_neg (by decide), gI1_1, if_neg (by decide)]
          · rw [if_neg (fun e => h47 e.2.1), if_neg (fun e => h47 e.2.1)]
            rw [if_neg (show ¬ (nI (tx.getD 1 0) = (47 : Int32)) from fun e => h47 ((nI_eq (b := 47) (by omega) (by decide)).mp e))] at eL1
            simp only [ob_eq] at eL1
            rw [if_pos trivial] at eL1
            exact resX_no eL1 frR.rf hr1 ⟨rfl, rfl⟩
        · rw [if_neg (fun e => h1 e.1), if_neg (fun e => h1 e.1)]
          exact resX_no (c_end_l hl (by omega) (by decide) (by rw [x11]; decide)) frR.rf hr1 ⟨rfl, rfl⟩
      · rw [if_neg (fun e => h72 e.2), if_neg (fun e => h72 e.2)]
        rw [if_neg (show ¬ (nI (tx.getD 0 0) = (72 : Int32)) from fun e => h72 ((nI_eq (b := 72) (by omega) (by decide)).mp e))] at eL
        simp only [ob_eq] at eL
        rw [if_pos trivial] at eL
        exact resX_no eL f1 hr1 ⟨by rw [gI1_1, if_neg (by decide)], by rw [gI1_1, if_neg (by decide)]⟩
    · rw [if_neg (fun e => h0 e.1), if_neg (fun e => h0 e.1)]
      exact resX_no (c_end_l hl (by omega) (by decide) (by rw [e11]; decide)) frR.rf hr0 ⟨rfl, rfl⟩
  rw [e6, e7] at main
  rw [eF]
  refine ⟨fun h => ?_, fun D' h => ?_⟩
  · obtain ⟨g', e, f, r⟩ := main.1 h
    exact ⟨g', e, f0'.tr f, r⟩
  · obtain ⟨g', e, f, r⟩ := main.2 D' h
    exact ⟨g', e, f0'.tr f, r⟩
end CRX
/-- the reader's coordinates are digits -/
def rdok (rd : aR) : Prop := ∀ p, p < 10 → (∃ v, v ≤ 9 ∧ rd.1 p = nI v) ∧ ∃ v, v ≤ 9 ∧ rd.2 p = nI v
theorem rdok_C {rd : aR} {g : gG} (h : rdE g rd) : rdok rd ↔ rdC g := by
  unfold rdok rdC
  rw [h.1, h.2]
def huntOf (D : List aP) (rd : aR) : aS := (fun p => (rd.1 p).toNatClampNeg, fun p => (rd.2 p).toNatClampNeg, 0, [])
section LDX
variable {tx : List Nat} {n : Nat} {hm : Nat → Nat} {S : aS} {L : List aS} {K : Nat → Option aS} {rd : aR}
theorem x_err (ok : okA tx n hm S L K) (hr : rdok rd) : AC (tx, n, hm, S, L, K, rd) f_X9_errorPosition (if (pT tx).2 = none then nI (pT tx).1 else -9) (tx, n, hm, S, L, K, pTR tx rd) ∧ rdok (pTR tx rd) := by
  obtain ⟨hl, hc, -⟩ := id ok
  have hex : ∃ g0 : gG, rdE g0 rd ∧ txC g0 tx := ⟨((fun k => if k = 6 then rd.1 else if k = 7 then rd.2 else if k = 1 then (fun _ => nI tx.length) else (fun j => nI (tx.getD j 0))), fun _ _ => 0), ⟨rfl, rfl⟩, rfl, fun j c hj => by
    show nI (tx.getD j 0) = nI c
    rw [List.getD_eq_getElem?_getD, hj]; rfl⟩
  have key : ∀ g, txC g tx → rdE g rd → ∃ g', f_X2_errorIn g = some (if (pT tx).2 = none then nI (pT tx).1 else -9, g') ∧ frR g g' ∧ rdC g' ∧ rdE g' (pTR tx rd) := by
    intro g hT he
    have he2 : (g.1 6, g.1 7) = rd := by rw [he.1, he.2]
    obtain ⟨p1, p2⟩ := c_errorInX hl hc hT ((rdok_C he).mp hr)
    rw [he2] at p1 p2
    cases eo : (pT tx).2 with
    | none =>
      obtain ⟨g', e, f, r, q⟩ := p1 eo
      exact ⟨g', by rw [if_pos rfl]; exact e, f, r, q⟩
    | some D =>
      obtain ⟨g', e, f, r, d1, n1, l2, l10, w9, q⟩ := p2 D eo
      exact ⟨g', by rw [if_neg (by simp)]; exact e, f, r, q⟩
  refine ⟨fun g hg => ?_, ?_⟩
  · obtain ⟨g', e, f, r, q⟩ := key g hg.1.1 hg.2
    refine ⟨g', ?_, InvC_R hg.1 f, q⟩
    unfold f_X9_errorPosition
    rw [e, ob_eq]
  · obtain ⟨g0, h0, hT⟩ := hex
    obtain ⟨g', e, f, r, q⟩ := key g0 hT h0
    exact (rdok_C q).mpr r
theorem x_load_no (ok : okA tx n hm S L K) (hr : rdok rd) (h : (pT tx).2 = none) : AC (tx, n, hm, S, L, K, rd) f_X9_load (.inr 2) (tx, n, hm, S, L, K, pTR tx rd) := by
  obtain ⟨hl, hc, -⟩ := id ok
  have hle := pT_le tx
  have h9 : ¬ (nI (pT tx).1 = (-9 : Int32)) := by
    intro e
    have e2 := congrArg Int32.toInt e
    rw [nI_toInt (by omega), show (-9 : Int32).toInt = -9 by decide] at e2
    omega
  intro g hg
  obtain ⟨p1, p2⟩ := c_errorInX hl hc hg.1.1 ((rdok_C hg.2).mp hr)
  rw [show (g.1 6, g.1 7) = rd from by rw [hg.2.1, hg.2.2]] at p1
  obtain ⟨g', e, f, r, q⟩ := p1 h
  refine ⟨g', ?_, InvC_R hg.1 f, q⟩
  unfold f_X9_load
  rw [e, ob_eq, if_neg h9]
theorem x_load (ok : okA tx n hm S L K) (hr : rdok rd) {D : List aP} (h : (pT tx).2 = some D) : AC (tx, n, hm, S, L, K, rd) f_X9_load (.inl (nI D.length)) (tx, D.length, hmD D, huntOf D (pTR tx rd), [], fun _ => none, pTR tx rd) ∧ okA tx D.length (hmD D) (huntOf D (pTR tx rd)) [] (fun _ => none) := by
  obtain ⟨hl, hc, -⟩ := id ok
  have hex : ∃ g0 : gG, rdE g0 rd ∧ txC g0 tx := ⟨((fun k => if k = 6 then rd.1 else if k = 7 then rd.2 else if k = 1 then (fun _ => nI tx.length) else (fun j => nI (tx.getD j 0))), fun _ _ => 0), ⟨rfl, rfl⟩, rfl, fun j c hj => by
    show nI (tx.getD j 0) = nI c
    rw [List.getD_eq_getElem?_getD, hj]; rfl⟩
  have okr : rdok (pTR tx rd) := (x_err ok hr).2
  have hXY : ∀ p, p < 10 → ((pTR tx rd).1 p = nI ((pTR tx rd).1 p).toNatClampNeg ∧ ((pTR tx rd).1 p).toNatClampNeg ≤ 9) ∧ (pTR tx rd).2 p = nI ((pTR tx rd).2 p).toNatClampNeg ∧ ((pTR tx rd).2 p).toNatClampNeg ≤ 9 := by
    intro p hp
    obtain ⟨⟨v, hv, ev⟩, ⟨u, hu, eu⟩⟩ := okr p hp
    rw [ev, eu, nI_clamp (by omega), nI_clamp (by omega)]
    exact ⟨⟨rfl, hv⟩, rfl, hu⟩
  refine ⟨fun g hg => ?_, ?_⟩
  · obtain ⟨p1, p2⟩ := c_errorInX hl hc hg.1.1 ((rdok_C hg.2).mp hr)
    rw [show (g.1 6, g.1 7) = rd from by rw [hg.2.1, hg.2.2]] at p2
    obtain ⟨g', e1, f1, r1, d1, n1, l2, l10, w9, q⟩ := p2 D h
    have hC1 := InvC_R hg.1 f1
    obtain ⟨g2, e2, c2, q2⟩ := c_newHunt (X := fun p => ((pTR tx rd).1 p).toNatClampNeg) (Y := fun p => ((pTR tx rd).2 p).toNatClampNeg) hC1 l10 n1 d1 (fun p hp => ⟨by rw [q.1]; exact (hXY p hp).1.1, by rw [q.2]; exact (hXY p hp).2.1⟩)
    refine ⟨g2, ?_, c2, (q2 6 (by omega)).trans q.1, (q2 7 (by omega)).trans q.2⟩
    unfold f_X9_load
    rw [e1, ob_eq, if_pos rfl, e2]
  · obtain ⟨g0, h0, hT⟩ := hex
    obtain ⟨p1, p2⟩ := c_errorInX hl hc hT ((rdok_C h0).mp hr)
    obtain ⟨g', e1, f1, r1, d1, n1, l2, l10, w9, q⟩ := p2 D h
    exact ⟨hl, hc, l2, l10, fun s _ => hmD_lt D s, ⟨Nat.two_pow_pos _, Nat.zero_le _, fun p hp => ⟨(hXY p hp).1.2, (hXY p hp).2.2⟩, fun tm h => by cases h⟩, (fun S h => by cases h), fun i S' h => by cases h⟩
end LDX
