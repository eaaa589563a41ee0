/-! PURE: the hunts that the law tells are hunts. -/
def cstL (told : Nat) : List Nat → Nat × aF × List aF → Option (Nat × aF × List aF)
  | [], z => some z
  | c :: l, z => match cst told z.1 z.2.1 z.2.2 c with
    | none => none
    | some z' => cstL told l z'
def cnd (k a b e : Nat) : List Nat := match k with
  | 0 => [42]
  | 1 => [a]
  | 2 => [33, a]
  | 3 => [a, 46, b]
  | 4 => [a, 43, 33, 33, b]
  | 5 => [49 + e, 91, a, 44, b, 93]
  | _ => [33, 40, a, 46, b, 41]
def pla (v p : Nat) : List Nat := [47, 48 + v % 10, 48 + v / 10 % 10] ++ cnd (if p = 0 then 0 else v % 7) (97 + (if p = 0 then 0 else v / 8 % p)) (97 + (if p = 0 then 0 else v / 80 % p)) (v / 7 % 2)
def vOf (x p : Nat) : Nat := x / 2 ^ p % 65536 + 31 * p
def plas (x : Nat) : Nat → Nat → List Nat
  | 0, _ => []
  | r + 1, p => pla (vOf x p) p ++ plas x r (p + 1)
def txtOf (x many : Nat) : List Nat := 72 :: plas x many 0
section TXT
variable {tx : List Nat} {told : Nat}
theorem cstL_c {l : List Nat} {z z' : Nat × aF × List aF} {c : Nat} (h : cst told z.1 z.2.1 z.2.2 c = some z') : cstL told (c :: l) z = cstL told l z' := by
  show (match cst told z.1 z.2.1 z.2.2 c with
    | none => none
    | some z' => cstL told l z') = _
  rw [h]
theorem cst_let {q : Nat} (hq : q < told) (F : aF) (R : List aF) : cst told 4 F R (97 + q) = some (6, addP F (fun s => s.testBit (97 + q - 97)), R) := by
  unfold cst
  rw [if_pos rfl, if_neg (by omega), if_neg (by omega), if_neg (by omega), if_neg (by omega), if_pos (by omega)]
theorem cst_two {e : Nat} (he : e < 2) (F : aF) (R : List aF) : cst told 4 F R (49 + e) = some (5, f0 (1 + e), F :: R) := by
  have : e = 0 ∨ e = 1 := by omega
  rcases this with rfl | rfl <;> rfl
theorem cst_com {F : aF} (h : 0 < F.1) (F1 : aF) (R1 : List aF) : cst told 6 F (F1 :: R1) 44 = some (4, endC F, F1 :: R1) := by
  unfold cst
  rw [if_neg (by decide), if_neg (by decide), if_neg (by decide), if_neg (by decide)]
  exact if_pos ⟨rfl, h⟩
theorem cst_brk {F : aF} (h : 0 < F.1) (F1 : aF) (R1 : List aF) : cst told 6 F (F1 :: R1) 93 = some (6, addP F1 (atl F.1 (F.2.1 ++ [cT F])), R1) := by
  unfold cst
  rw [if_neg (by decide), if_neg (by decide), if_neg (by decide), if_neg (by decide)]
  show (if 93 = 44 ∧ 0 < F.1 then _ else _) = _
  rw [if_neg (fun e => by cases e.1), if_pos ⟨rfl, h⟩]
theorem cst_par {F : aF} (h : F.1 = 0) (F1 : aF) (R1 : List aF) : cst told 6 F (F1 :: R1) 41 = some (6, addP F1 (cT F), R1) := by
  unfold cst
  rw [if_neg (by decide), if_neg (by decide), if_neg (by decide), if_neg (by decide)]
  show (if 41 = 44 ∧ 0 < F.1 then _ else _) = _
  rw [if_neg (fun e => by cases e.1), if_neg (fun e => by cases e.1), if_pos ⟨rfl, h⟩]
theorem ex_c {l : List Nat} {z z' : Nat × aF × List aF} {c : Nat} (h : cst told z.1 z.2.1 z.2.2 c = some z') (h2 : ∃ F, cstL told l z' = some (6, F, [])) : ∃ F, cstL told (c :: l) z = some (6, F, []) := by
  rw [cstL_c h]; exact h2
theorem ex_n (F : aF) : ∃ F', cstL told [] (6, F, []) = some (6, F', []) := ⟨F, rfl⟩
theorem cnd_ok {k qa qb e : Nat} (ha : k = 0 ∨ qa < told) (hb : k = 0 ∨ qb < told) (he : e < 2) : ∃ F, cstL told (cnd k (97 + qa) (97 + qb) e) (4, f0 0, []) = some (6, F, []) := by
  have hg : ∀ F : aF, cst told 4 F [] 33 = some (4, tgl F, []) := fun _ => rfl
  have hdot : ∀ (F : aF) (R : List aF), cst told 6 F R 46 = some (4, F, R) := fun _ _ => rfl
  have hplus : ∀ (F : aF) (R : List aF), cst told 6 F R 43 = some (4, endG F, R) := fun _ _ => rfl
  have hopen : ∀ (F : aF) (R : List aF), cst told 4 F R 40 = some (4, f0 0, F :: R) := fun _ _ => rfl
  have hbra : ∀ (F : aF) (R : List aF), cst told 5 F R 91 = some (4, F, R) := fun _ _ => rfl
  unfold cnd
  match k, ha, hb with
  | 0, _, _ => exact ⟨_, rfl⟩
  | 1, ha, _ =>
    have ha : qa < told := by omega
    exact ex_c (cst_let ha (f0 0) []) (ex_n _)
  | 2, ha, _ =>
    have ha : qa < told := by omega
    exact ex_c (hg _) (ex_c (cst_let ha _ _) (ex_n _))
  | 3, ha, hb =>
    have ha : qa < told := by omega
    have hb : qb < told := by omega
    exact ex_c (cst_let ha _ _) (ex_c (hdot _ _) (ex_c (cst_let hb _ _) (ex_n _)))
  | 4, ha, hb =>
    have ha : qa < told := by omega
    have hb : qb < told := by omega
    exact ex_c (cst_let ha _ _) (ex_c (hplus _ _) (ex_c (hg _) (ex_c (hg _) (ex_c (cst_let hb _ _) (ex_n _)))))
  | 5, ha, hb =>
    have ha : qa < told := by omega
    have hb : qb < told := by omega
    have h1 : ∀ t, 0 < (addP (f0 (1 + e)) t).1 := fun t => by show 0 < 1 + e; omega
    have h2 : ∀ t u, 0 < (addP (endC (addP (f0 (1 + e)) t)) u).1 := fun t u => by show 0 < 1 + e; omega
    exact ex_c (cst_two he _ _) (ex_c (hbra _ _) (ex_c (cst_let ha _ _) (ex_c (cst_com (h1 _) _ _) (ex_c (cst_let hb _ _) (ex_c (cst_brk (h2 _ _) _ _) (ex_n _))))))
  | k + 6, ha, hb =>
    have ha : qa < told := by omega
    have hb : qb < told := by omega
    exact ex_c (hg _) (ex_c (hopen _ _) (ex_c (cst_let ha _ _) (ex_c (hdot _ _) (ex_c (cst_let hb _ _) (ex_c (cst_par rfl _ _) (ex_n _))))))
theorem getD_app {pre l : List Nat} (j : Nat) (h : j < l.length) (rest : List Nat) : (pre ++ (l ++ rest)).getD (pre.length + j) 0 = l.getD j 0 := by
  rw [List.getD_eq_getElem?_getD, List.getD_eq_getElem?_getD, List.getElem?_append_right (by omega), show pre.length + j - pre.length = j by omega, List.getElem?_append_left h]
/-- a condition is read to its end -/
theorem cR_list (l : List Nat) : ∀ (i d : Nat) (z z' : Nat × aF × List aF), (∀ j, j < l.length → tx.getD (i + j) 0 = l.getD j 0) → (∀ c ∈ l, c ≠ 47) → cstL told l z = some z' → cR tx told (l.length + d) i z.1 z.2.1 z.2.2 = cR tx told d (i + l.length) z'.1 z'.2.1 z'.2.2 := by
  induction l with
  | nil =>
    intro i d z z' h h47 e
    cases e
    rw [show ([] : List Nat).length + d = d by simp, show i + ([] : List Nat).length = i by simp]
  | cons c l ih =>
    intro i d z z' h h47 e
    have h0 := h 0 (by simp)
    rw [Nat.add_zero] at h0
    have h0 : tx.getD i 0 = c := h0
    have hc : c ≠ 47 := h47 c (by simp)
    rw [show (c :: l).length + d = (l.length + d) + 1 by rw [List.length_cons]; omega]
    show (if z.1 = 6 ∧ isE z.2.2 = true ∧ tx.getD i 0 = 47 then (i, some z.2.1) else (match cst told z.1 z.2.1 z.2.2 (tx.getD i 0) with
      | none => (i, none)
      | some y => cR tx told (l.length + d) (i + 1) y.1 y.2.1 y.2.2)) = _
    rw [h0, if_neg (fun q => hc q.2.2)]
    have e : (match cst told z.1 z.2.1 z.2.2 c with
      | none => none
      | some y => cstL told l y) = some z' := e
    cases ec : cst told z.1 z.2.1 z.2.2 c with
    | none => rw [ec] at e; cases e
    | some y =>
      rw [ec] at e
      have h9 := ih (i + 1) d y z' (fun j hj => by
        have := h (j + 1) (by rw [List.length_cons]; omega)
        rw [show i + 1 + j = i + (j + 1) by omega, this]
        rfl) (fun c' hc' => h47 c' (by simp [hc'])) e
      rw [show i + (c :: l).length = i + 1 + l.length by rw [List.length_cons]; omega]
      exact h9
theorem cnd_47 {k a b e : Nat} (ha : 97 ≤ a) (hb : 97 ≤ b) : ∀ c ∈ cnd k a b e, c ≠ 47 := by
  intro c hc
  unfold cnd at hc
  match k, hc with
  | 0, hc => simp at hc; omega
  | 1, hc => simp at hc; omega
  | 2, hc => simp at hc; omega
  | 3, hc => simp at hc; omega
  | 4, hc => simp at hc; omega
  | 5, hc => simp at hc; omega
  | k + 6, hc => simp at hc; omega
theorem plas_head {x r p : Nat} (hr : 0 < r) : (plas x r p).getD 0 0 = 47 ∧ 0 < (plas x r p).length := by
  obtain ⟨r, rfl⟩ : ∃ r', r = r' + 1 := ⟨r - 1, by omega⟩
  unfold plas pla
  exact ⟨rfl, by simp⟩
theorem tR_plas {x : Nat} (r : Nat) : ∀ (p d : Nat) (pre : List Nat) (D : List aP), 0 < r → 2 ≤ p + r → p + r ≤ 10 → r ≤ d → D.length = p → tx = pre ++ plas x r p → ∃ j D', tR tx d pre.length D = (j, some D') := by
  induction r with
  | zero => intro p d pre D h; omega
  | succ r ih =>
    intro p d pre D _ h2 h10 hd hD htx
    obtain ⟨d, rfl⟩ : ∃ d', d = d' + 1 := ⟨d - 1, by omega⟩
    obtain ⟨v, hv⟩ : ∃ v, v = vOf x p := ⟨_, rfl⟩
    obtain ⟨cl, hcl⟩ : ∃ cl, cl = cnd (if p = 0 then 0 else v % 7) (97 + (if p = 0 then 0 else v / 8 % p)) (97 + (if p = 0 then 0 else v / 80 % p)) (v / 7 % 2) := ⟨_, rfl⟩
    have hpl : plas x (r + 1) p = [47, 48 + v % 10, 48 + v / 10 % 10] ++ (cl ++ plas x r (p + 1)) := by
      show pla (vOf x p) p ++ plas x r (p + 1) = _
      rw [← hv]
      unfold pla
      rw [hcl, List.append_assoc]
    rw [hpl] at htx
    have htx2 : tx = (pre ++ [47, 48 + v % 10, 48 + v / 10 % 10]) ++ (cl ++ plas x r (p + 1)) := by rw [htx, List.append_assoc]
    have hlen : tx.length = pre.length + 3 + cl.length + (plas x r (p + 1)).length := by
      rw [htx2, List.length_append, List.length_append, List.length_append]
      show pre.length + 3 + _ = _
      omega
    have g0 : tx.getD pre.length 0 = 47 := by
      have := getD_app (pre := pre) (l := [47, 48 + v % 10, 48 + v / 10 % 10]) 0 (by simp) (cl ++ plas x r (p + 1))
      rw [htx]; exact this
    have g1 : tx.getD (pre.length + 1) 0 = 48 + v % 10 := by
      have := getD_app (pre := pre) (l := [47, 48 + v % 10, 48 + v / 10 % 10]) 1 (by simp) (cl ++ plas x r (p + 1))
      rw [htx]; exact this
    have g2 : tx.getD (pre.length + 1 + 1) 0 = 48 + v / 10 % 10 := by
      have := getD_app (pre := pre) (l := [47, 48 + v % 10, 48 + v / 10 % 10]) 2 (by simp) (cl ++ plas x r (p + 1))
      rw [htx]; exact this
    have hq : ∀ m, p = 0 ∨ (if p = 0 then 0 else m % p) < p := fun m => by
      by_cases e : p = 0
      · exact Or.inl e
      · rw [if_neg e]; exact Or.inr (Nat.mod_lt _ (by omega))
    obtain ⟨F, hF⟩ : ∃ F, cstL D.length cl (4, f0 0, []) = some (6, F, []) := by
      rw [hcl, hD]
      refine cnd_ok ?_ ?_ (Nat.mod_lt _ (by decide))
      · rcases hq (v / 8) with e | e
        · exact Or.inl (if_pos e)
        · exact Or.inr e
      · rcases hq (v / 80) with e | e
        · exact Or.inl (if_pos e)
        · exact Or.inr e
    have hcR : cR tx D.length (tx.length - (pre.length + 1 + 2)) (pre.length + 1 + 2) 4 (f0 0) [] = (pre.length + 3 + cl.length, some F) := by
      have h47 : ∀ c ∈ cl, c ≠ 47 := by rw [hcl]; exact cnd_47 (by omega) (by omega)
      have hg : ∀ j, j < cl.length → tx.getD (pre.length + 3 + j) 0 = cl.getD j 0 := fun j hj => by
        have := getD_app (pre := pre ++ [47, 48 + v % 10, 48 + v / 10 % 10]) (l := cl) j hj (plas x r (p + 1))
        rw [List.length_append] at this
        rw [htx2]; exact this
      have h9 := cR_list (tx := tx) (told := D.length) cl (pre.length + 3) (plas x r (p + 1)).length (4, f0 0, []) (6, F, []) hg h47 hF
      rw [show tx.length - (pre.length + 1 + 2) = cl.length + (plas x r (p + 1)).length by omega]
      refine Eq.trans h9 ?_
      show cR tx D.length (plas x r (p + 1)).length (pre.length + 3 + cl.length) 6 F [] = _
      by_cases hr : r = 0
      · subst hr
        rfl
      · obtain ⟨k1, k2⟩ := plas_head (x := x) (r := r) (p := p + 1) (by omega)
        have hg9 : tx.getD (pre.length + 3 + cl.length) 0 = 47 := by
          have := getD_app (pre := (pre ++ [47, 48 + v % 10, 48 + v / 10 % 10]) ++ cl) (l := plas x r (p + 1)) 0 k2 []
          rw [List.append_nil, List.length_append, List.length_append, k1, List.append_assoc, Nat.add_zero] at this
          rw [htx2]; exact this
        obtain ⟨m, hm⟩ : ∃ m, (plas x r (p + 1)).length = m + 1 := ⟨(plas x r (p + 1)).length - 1, by omega⟩
        rw [hm]
        show (if 6 = 6 ∧ isE ([] : List aF) = true ∧ tx.getD (pre.length + 3 + cl.length) 0 = 47 then (pre.length + 3 + cl.length, some F) else _) = _
        rw [if_pos ⟨rfl, rfl, hg9⟩]
    have hd1 : dig (tx.getD (pre.length + 1) 0) = true := by rw [g1]; unfold dig; exact decide_eq_true (by omega)
    have hd2 : dig (tx.getD (pre.length + 1 + 1) 0) = true := by rw [g2]; unfold dig; exact decide_eq_true (by omega)
    have est : tR tx (d + 1) pre.length D = (if pre.length + 3 + cl.length = tx.length ∧ 2 ≤ D.length + 1 then (pre.length + 3 + cl.length, some (D ++ [(tx.getD (pre.length + 1) 0 - 48, tx.getD (pre.length + 1 + 1) 0 - 48, cT F)])) else tR tx d (pre.length + 3 + cl.length) (D ++ [(tx.getD (pre.length + 1) 0 - 48, tx.getD (pre.length + 1 + 1) 0 - 48, cT F)])) := by
      show (if pre.length < tx.length ∧ tx.getD pre.length 0 = 47 ∧ D.length < 10 then plc tx (tR tx d) D (pre.length + 1) else _) = _
      rw [if_pos ⟨by omega, g0, by omega⟩]
      unfold plc
      rw [if_pos ⟨by omega, hd1⟩, if_pos ⟨by omega, hd2⟩, hcR]
      rfl
    rw [est]
    by_cases hr : r = 0
    · subst hr
      have : (plas x 0 (p + 1)).length = 0 := rfl
      rw [if_pos ⟨by omega, by omega⟩]
      exact ⟨_, _, rfl⟩
    · obtain ⟨k1, k2⟩ := plas_head (x := x) (r := r) (p := p + 1) (by omega)
      rw [if_neg (fun e => by omega)]
      have h9 := ih (p + 1) d (pre ++ ([47, 48 + v % 10, 48 + v / 10 % 10] ++ cl)) (D ++ [(tx.getD (pre.length + 1) 0 - 48, tx.getD (pre.length + 1 + 1) 0 - 48, cT F)]) (by omega) (by omega) (by omega) (by omega) (by rw [List.length_append, hD]; rfl) (by rw [htx2, List.append_assoc, List.append_assoc, List.append_assoc])
      rw [List.length_append, List.length_append] at h9
      rw [show pre.length + 3 + cl.length = pre.length + (3 + cl.length) by omega]
      exact h9
end TXT
theorem txt_ok {x many : Nat} (h2 : 2 ≤ many) (h10 : many ≤ 10) : ∃ D, (pT (txtOf x many)).2 = some D := by
  obtain ⟨j, D, e⟩ := tR_plas (tx := txtOf x many) (x := x) many 0 11 [72] [] (by omega) (by omega) (by omega) (by omega) rfl rfl
  refine ⟨D, ?_⟩
  have hp : pT (txtOf x many) = tR (txtOf x many) 11 1 [] := if_pos ⟨by unfold txtOf; simp, rfl⟩
  rw [hp]
  have e : tR (txtOf x many) 11 1 [] = (j, some D) := e
  rw [e]
theorem cnd_len (k a b e : Nat) : (cnd k a b e).length ≤ 6 := by
  unfold cnd
  match k with
  | 0 => simp
  | 1 => simp
  | 2 => simp
  | 3 => simp
  | 4 => simp
  | 5 => simp
  | k + 6 => simp
