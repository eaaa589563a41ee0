/-! PURE: conditions that stand open, and the stack of truths. -/
abbrev Tr : Type := Nat → Bool
/-- n of a list or 0; its conditions; its groups so far; its parts so far; whether the next part is negated -/
abbrev aF : Type := Nat × List Tr × Option Tr × Option Tr × Bool
def f0 (k : Nat) : aF := (k, [], none, none, false)
def psD (o : Option Tr) : Tr := match o with
  | some t => t
  | none => fun _ => true
def andO (o : Option Tr) (t : Tr) : Tr := match o with
  | some u => fun s => u s && t s
  | none => t
def orO (o : Option Tr) (t : Tr) : Tr := match o with
  | some u => fun s => u s || t s
  | none => t
def ngT (b : Bool) (t : Tr) : Tr := if b = true then fun s => !t s else t
def addP (F : aF) (t : Tr) : aF := (F.1, F.2.1, F.2.2.1, some (andO F.2.2.2.1 (ngT F.2.2.2.2 t)), false)
def cT (F : aF) : Tr := orO F.2.2.1 (psD F.2.2.2.1)
def endG (F : aF) : aF := (F.1, F.2.1, some (cT F), none, F.2.2.2.2)
def endC (F : aF) : aF := (F.1, F.2.1 ++ [cT F], none, none, F.2.2.2.2)
def lsAt (ls : List Tr) (s r : Nat) : Bool := match ls[r]? with
  | some t => t s
  | none => false
def atl (k : Nat) (ls : List Tr) : Tr := fun s => decide (k ≤ cnt (lsAt ls s) ls.length)
def rws (F : aF) : List Tr := F.2.1 ++ (F.2.2.1.toList ++ F.2.2.2.1.toList)
def stk : List aF → List Tr
  | [] => []
  | F :: R => stk R ++ rws F
def rowT (g : gG) (r : Nat) (T : Tr) : Prop := ∀ s, s < 512 → btL (g.2 5 (8 * r + s / 64)) (s % 64) = T s
def skC (g : gG) (l : List Tr) : Prop := g.1 4 1 = nI l.length ∧ ∀ j t, l[j]? = some t → rowT g j t
/-- only the height and the rows of truths have changed -/
def frT (g g' : gG) : Prop := (∀ j, j ≠ 4 → g'.1 j = g.1 j) ∧ ∀ j, j ≠ 5 → g'.2 j = g.2 j
theorem lw_row {g g' : gG} {r : Nat} {v : Nat → Int64} {T : Tr} (h : lw g g' 5 (8 * r) 0 v) (hv : ∀ w, w < 8 → ∀ b, b < 64 → btL (v w) b = T (64 * w + b)) : rowT g' r T := by
  intro s hs
  rw [h.2.2.1 (s / 64) (by omega) (by omega), hv (s / 64) (by omega) (s % 64) (by omega)]
  congr 1
  omega
theorem lw_other {g g' : gG} {r j : Nat} {v : Nat → Int64} {T : Tr} (h : lw g g' 5 (8 * r) 0 v) (hj : j ≠ r) (ht : rowT g j T) : rowT g' j T := by
  intro s hs
  rw [h.2.2.2 _ (by omega)]
  exact ht s hs
theorem getLast_app {l : List Tr} {t : Tr} {j : Nat} {x : Tr} (h : (l ++ [t])[j]? = some x) : (j < l.length ∧ l[j]? = some x) ∨ (j = l.length ∧ x = t) := by
  by_cases ej : j < l.length
  · rw [List.getElem?_append_left ej] at h
    exact Or.inl ⟨ej, h⟩
  · have hlt := (List.getElem?_eq_some_iff.mp h).1
    rw [List.length_append] at hlt
    have hlt : j < l.length + 1 := hlt
    have e : j = l.length := by omega
    subst e
    have e8 : t = x := by simpa using h
    exact Or.inr ⟨rfl, e8.symm⟩
theorem app_len (l : List Tr) (t : Tr) : (l ++ [t]).length = l.length + 1 := by rw [List.length_append]; rfl
section SK
variable {g : gG} {l : List Tr}
theorem sk_push {g' g'' : gG} {v : Nat → Int64} {T : Tr} (h : skC g l) (hl : lw g g' 5 (8 * l.length) 0 v) (e : g'' = gI1 g' 4 1 (nI (l.length + 1))) (hv : ∀ w, w < 8 → ∀ b, b < 64 → btL (v w) b = T (64 * w + b)) : skC g'' (l ++ [T]) ∧ frT g g'' := by
  subst e
  refine ⟨⟨?_, ?_⟩, fun j hj => ?_, fun j hj => hl.2.1 j hj⟩
  · rw [r_self, if_pos rfl, app_len]
  · intro j t ht
    rcases getLast_app ht with ⟨h1, h2⟩ | ⟨h1, h2⟩
    · have h9 : rowT g' j t := lw_other hl (show j ≠ l.length by omega) (h.2 j t h2)
      exact h9
    · have h9 : rowT g' l.length T := lw_row hl hv
      rw [h1, h2]
      exact h9
  · rw [gI1_1, if_neg hj, hl.1]
theorem sk_always (h : skC g l) (hl : l.length < 120) : ∃ g', f_X7_pushAlways g = some ((), g') ∧ skC g' (l ++ [fun _ => true]) ∧ frT g g' := by
  obtain ⟨g', e, a⟩ := c_pushA hl h.1
  obtain ⟨p, q⟩ := sk_push (T := fun _ => true) h a rfl (fun w hw b hb => btL_m1 hb)
  exact ⟨_, e, p, q⟩
theorem sk_visited (h : skC g l) (hl : l.length < 120) {p : Nat} (hp : p < 9) : ∃ g', f_X7_pushVisited (nI p) g = some ((), g') ∧ skC g' (l ++ [fun s => s.testBit p]) ∧ frT g g' := by
  obtain ⟨g', e, a⟩ := c_pushV hl hp h.1
  obtain ⟨q1, q2⟩ := sk_push (T := fun s => s.testBit p) h a rfl (fun w hw b hb => visW_bit hp hw hb)
  exact ⟨_, e, q1, q2⟩
theorem row_bit {r : Nat} {T : Tr} (h : rowT g r T) {w b : Nat} (hw : w < 8) (hb : b < 64) : btL (g.2 5 (8 * r + w)) b = T (64 * w + b) := by
  have := h (64 * w + b) (by omega)
  rw [show (64 * w + b) / 64 = w by omega, show (64 * w + b) % 64 = b by omega] at this
  exact this
theorem sk_at {t : Tr} (h : skC g (l ++ [t])) : rowT g l.length t := h.2 l.length t (by rw [List.getElem?_append_right (Nat.le_refl _)]; simp)
theorem sk_neg {t : Tr} (h : skC g (l ++ [t])) (hl : l.length < 120) : ∃ g', f_X7_negate g = some ((), g') ∧ skC g' (l ++ [fun s => !t s]) ∧ frT g g' := by
  have e1 := h.1
  rw [app_len] at e1
  obtain ⟨g', e, a⟩ := c_negate (h := l.length + 1) (by omega) (by omega) e1
  rw [Nat.add_sub_cancel] at a
  refine ⟨g', e, ⟨?_, ?_⟩, fun j _ => by rw [a.1], fun j hj => a.2.1 j hj⟩
  · rw [a.1, app_len]; exact e1
  · intro j x hx
    rcases getLast_app hx with ⟨h1, h2⟩ | ⟨h1, h2⟩
    · exact lw_other a (by omega) (h.2 j x (by rw [List.getElem?_append_left h1]; exact h2))
    · rw [h1, h2]
      refine lw_row a (fun w hw b hb => ?_)
      rw [btL_not _ hb, row_bit (sk_at h) hw hb]
theorem sk_and {t u : Tr} (h : skC g ((l ++ [u]) ++ [t])) (hl : l.length < 119) : ∃ g', f_X7_joinByAnd g = some ((), g') ∧ skC g' (l ++ [fun s => u s && t s]) ∧ frT g g' := by
  have e1 := h.1
  rw [app_len, app_len] at e1
  obtain ⟨g', e, a⟩ := c_joinAnd (h := l.length + 2) (by omega) (by omega) e1
  rw [show l.length + 2 - 1 = l.length + 1 by omega, Nat.add_sub_cancel] at a
  have ht := sk_at h
  rw [app_len] at ht
  have hu : rowT g l.length u := h.2 l.length u (by rw [List.getElem?_append_left (by rw [app_len]; omega), List.getElem?_append_right (Nat.le_refl _)]; simp)
  have hlw : lw (gI1 g 4 1 (nI (l.length + 1))) g' 5 (8 * l.length) 0 (fun w => g.2 5 (8 * l.length + w) &&& g.2 5 (8 * (l.length + 1) + w)) := a
  refine ⟨g', e, ⟨?_, ?_⟩, fun j hj => by rw [a.1, gI1_1, if_neg hj], fun j hj => a.2.1 j hj⟩
  · rw [a.1, r_self, if_pos rfl, app_len]
  · intro j x hx
    rcases getLast_app hx with ⟨h1, h2⟩ | ⟨h1, h2⟩
    · have h3 : rowT g j x := h.2 j x (by rw [List.getElem?_append_left (by rw [app_len]; omega), List.getElem?_append_left h1]; exact h2)
      exact lw_other hlw (by omega) (g := gI1 g 4 1 (nI (l.length + 1))) h3
    · rw [h1, h2]
      refine lw_row hlw (fun w hw b hb => ?_)
      rw [btL_and, row_bit hu hw hb, row_bit ht hw hb]
theorem sk_or {t u : Tr} (h : skC g ((l ++ [u]) ++ [t])) (hl : l.length < 119) : ∃ g', f_X7_joinByOr g = some ((), g') ∧ skC g' (l ++ [fun s => u s || t s]) ∧ frT g g' := by
  have e1 := h.1
  rw [app_len, app_len] at e1
  obtain ⟨g', e, a⟩ := c_joinOr (h := l.length + 2) (by omega) (by omega) e1
  rw [show l.length + 2 - 1 = l.length + 1 by omega, Nat.add_sub_cancel] at a
  have ht := sk_at h
  rw [app_len] at ht
  have hu : rowT g l.length u := h.2 l.length u (by rw [List.getElem?_append_left (by rw [app_len]; omega), List.getElem?_append_right (Nat.le_refl _)]; simp)
  have hlw : lw (gI1 g 4 1 (nI (l.length + 1))) g' 5 (8 * l.length) 0 (fun w => g.2 5 (8 * l.length + w) ||| g.2 5 (8 * (l.length + 1) + w)) := a
  refine ⟨g', e, ⟨?_, ?_⟩, fun j hj => by rw [a.1, gI1_1, if_neg hj], fun j hj => a.2.1 j hj⟩
  · rw [a.1, r_self, if_pos rfl, app_len]
  · intro j x hx
    rcases getLast_app hx with ⟨h1, h2⟩ | ⟨h1, h2⟩
    · have h3 : rowT g j x := h.2 j x (by rw [List.getElem?_append_left (by rw [app_len]; omega), List.getElem?_append_left h1]; exact h2)
      exact lw_other hlw (by omega) (g := gI1 g 4 1 (nI (l.length + 1))) h3
    · rw [h1, h2]
      refine lw_row hlw (fun w hw b hb => ?_)
      rw [btL_or, row_bit hu hw hb, row_bit ht hw hb]
theorem cnt_cong {P Q : Nat → Bool} {k : Nat} (h : ∀ i, i < k → P i = Q i) : cnt P k = cnt Q k := by
  induction k with
  | zero => rfl
  | succ k ih => rw [cnt, cnt, ih (fun i hi => h i (by omega)), h k (by omega)]
theorem sk_count {ls : List Tr} {n : Nat} (h : skC g (l ++ ls)) (hl : l.length + ls.length ≤ 120) (h1 : 1 ≤ n) (h4 : n ≤ 4) (hn : 1 ≤ ls.length) : ∃ g', f_X7_joinByCount (nI n) (nI ls.length) g = some ((), g') ∧ skC g' (l ++ [atl n ls]) ∧ frT g g' := by
  have e1 := h.1
  rw [List.length_append] at e1
  obtain ⟨g', e, a, b, c, d⟩ := c_joinCount (h := l.length + ls.length) (m := ls.length) (n := n) (by omega) h1 h4 hn (by omega) e1
  rw [Nat.add_sub_cancel] at e c d
  refine ⟨_, e, ⟨?_, ?_⟩, fun j hj => by rw [gI1_1, if_neg hj, a], fun j hj => b j hj⟩
  · rw [r_self, if_pos rfl, app_len]
  · intro j x hx
    rcases getLast_app hx with ⟨h3, h2⟩ | ⟨h3, h2⟩
    · have h5 : rowT g j x := h.2 j x (by rw [List.getElem?_append_left h3]; exact h2)
      intro s hs
      show btL (g'.2 5 (8 * j + s / 64)) (s % 64) = x s
      rw [d _ (by omega)]
      exact h5 s hs
    · rw [h3, h2]
      intro s hs
      show btL (g'.2 5 (8 * l.length + s / 64)) (s % 64) = atl n ls s
      rw [c (s / 64) (by omega) (s % 64) (by omega)]
      unfold atl
      congr 2
      refine cnt_cong (fun r hr => ?_)
      obtain ⟨t, ht⟩ := get_lt (l := ls) hr
      have h6 : rowT g (l.length + r) t := h.2 (l.length + r) t (by rw [List.getElem?_append_right (by omega), Nat.add_sub_cancel_left]; exact ht)
      unfold lsAt
      rw [ht]
      exact h6 s hs
end SK
theorem gI1_o {g : gG} {k m : Nat} {v : Int32} {j i : Nat} (hi : i ≠ m) : (gI1 g k m v).1 j i = g.1 j i := by
  rw [gI1_1]
  by_cases e9 : j = k
  · rw [if_pos e9, e9]; unfold upd; rw [if_neg hi]
  · rw [if_neg e9]
def frC (g : gG) (lv : Nat) (F : aF) : Prop := g.1 9 lv = nI F.1 ∧ g.1 10 lv = nI F.2.1.length ∧ g.1 11 lv = b2 F.2.2.2.2 ∧ g.1 12 lv = b2 F.2.2.2.1.isSome ∧ g.1 13 lv = b2 F.2.2.1.isSome
def frsC (g : gG) : List aF → Prop
  | [] => True
  | F :: R => frC g R.length F ∧ frsC g R
theorem frsC_eq {g g' : gG} : ∀ (R : List aF), (∀ j, 9 ≤ j → j ≤ 13 → ∀ i, i < R.length → g'.1 j i = g.1 j i) → frsC g R → frsC g' R
  | [], _, _ => trivial
  | F :: R, e, h => by
    obtain ⟨⟨h1, h2, h3, h4, h5⟩, h6⟩ := h
    have hl : (F :: R).length = R.length + 1 := rfl
    refine ⟨⟨?_, ?_, ?_, ?_, ?_⟩, frsC_eq R (fun j a b i hi => e j a b i (by omega)) h6⟩
    · rw [e 9 (by omega) (by omega) _ (by omega)]; exact h1
    · rw [e 10 (by omega) (by omega) _ (by omega)]; exact h2
    · rw [e 11 (by omega) (by omega) _ (by omega)]; exact h3
    · rw [e 12 (by omega) (by omega) _ (by omega)]; exact h4
    · rw [e 13 (by omega) (by omega) _ (by omega)]; exact h5
/-- the frames as the reader holds them -/
def fsC (g : gG) (F : aF) (R : List aF) : Prop := g.1 3 9 = nI R.length ∧ frC g R.length F ∧ frsC g R
/-- only what a condition needs has changed, the number of places has not -/
def frP (g g' : gG) : Prop := (∀ j, j ≠ 3 → j ≠ 4 → (j < 9 ∨ 13 < j) → g'.1 j = g.1 j) ∧ (∀ j, j ≠ 5 → g'.2 j = g.2 j) ∧ g'.1 3 10 = g.1 3 10
theorem frP.rf {g : gG} : frP g g := ⟨fun _ _ _ _ => rfl, fun _ _ => rfl, rfl⟩
theorem frP.tr {g g' g'' : gG} (h : frP g g') (h2 : frP g' g'') : frP g g'' := ⟨fun j a b c => (h2.1 j a b c).trans (h.1 j a b c), fun j a => (h2.2.1 j a).trans (h.2.1 j a), h2.2.2.trans h.2.2⟩
theorem frP.t {g g' : gG} (h : frT g g') : frP g g' := ⟨fun j a b c => h.1 j b, h.2, by rw [h.1 3 (by decide)]⟩
theorem frP.f {g : gG} {k i : Nat} {v : Int32} (h : 9 ≤ k ∧ k ≤ 13) : frP g (gI1 g k i v) := ⟨fun j a b c => by rw [gI1_1, if_neg (by omega)], fun _ _ => rfl, by rw [gI1_1, if_neg (by omega)]⟩
theorem frP.e {g : gG} {i : Nat} {v : Int32} (h : i ≠ 10) : frP g (gI1 g 3 i v) := ⟨fun j a b c => by rw [gI1_1, if_neg (by omega)], fun _ _ => rfl, by rw [r_self, if_neg (by omega)]⟩
theorem fsC_t {g g' : gG} {F : aF} {R : List aF} (h : fsC g F R) (f : frT g g') : fsC g' F R := by
  obtain ⟨h1, ⟨h2, h3, h4, h5, h6⟩, h7⟩ := h
  refine ⟨by rw [f.1 3 (by decide)]; exact h1, ⟨by rw [f.1 9 (by decide)]; exact h2, by rw [f.1 10 (by decide)]; exact h3, by rw [f.1 11 (by decide)]; exact h4, by rw [f.1 12 (by decide)]; exact h5, by rw [f.1 13 (by decide)]; exact h6⟩, frsC_eq R (fun j a b i hi => by rw [f.1 j (by omega)]) h7⟩
theorem skC_i {g g' : gG} {l : List Tr} (h : skC g l) (e4 : g'.1 4 = g.1 4) (e5 : g'.2 5 = g.2 5) : skC g' l := ⟨by rw [e4]; exact h.1, fun j t ht s hs => by rw [e5]; exact h.2 j t ht s hs⟩
section EP
variable {g : gG} {F : aF} {R : List aF}
theorem stk_add (F : aF) (R : List aF) (t : Tr) : stk (addP F t :: R) = (stk R ++ (F.2.1 ++ F.2.2.1.toList)) ++ [andO F.2.2.2.1 (ngT F.2.2.2.2 t)] := by
  show stk R ++ (F.2.1 ++ (F.2.2.1.toList ++ [andO F.2.2.2.1 (ngT F.2.2.2.2 t)])) = _
  simp [List.append_assoc]
theorem c_end48 (h : fsC g F R) (hR : R.length ≤ 120) {l : List Tr} (hs : skC g l) (F' : aF) (e : F'.1 = F.1 ∧ F'.2.1 = F.2.1 ∧ F'.2.2.1 = F.2.2.1 ∧ F'.2.2.2.1.isSome = true ∧ F'.2.2.2.2 = F.2.2.2.2) : ∃ g', fs_X2_endPart_48 g = some ((), g') ∧ fsC g' F' R ∧ skC g' l ∧ g'.1 3 11 = 6 ∧ frP g g' := by
  obtain ⟨h1, ⟨h2, h3, h4, h5, h6⟩, h7⟩ := h
  obtain ⟨e1, e2, e3, e4, e5⟩ := e
  refine ⟨gI1 (gI1 g 12 R.length 1) 3 11 6, ?_, ⟨?_, ⟨?_, ?_, ?_, ?_, ?_⟩, ?_⟩, skC_i hs ?_ rfl, ?_, (frP.f (by decide)).tr (frP.e (by decide))⟩
  · unfold fs_X2_endPart_48
    rw [h1, if_pos (inb_nI (by omega) (by decide)), nI_clamp (by omega), show vp_nar .boolean (1 : Int32) = 1 from nar_b2 true]
    simp only [gl_eq]
  · rw [r_self, if_neg (by decide), gI1_1, if_neg (by decide)]; exact h1
  · rw [gI1_1, if_neg (by decide), gI1_1, if_neg (by decide), e1]; exact h2
  · rw [gI1_1, if_neg (by decide), gI1_1, if_neg (by decide), e2]; exact h3
  · rw [gI1_1, if_neg (by decide), gI1_1, if_neg (by decide), e5]; exact h4
  · rw [gI1_1, if_neg (by decide), r_self, if_pos rfl, e4]; rfl
  · rw [gI1_1, if_neg (by decide), gI1_1, if_neg (by decide), e3]; exact h6
  · refine frsC_eq R (fun j a b i hi => ?_) h7
    rw [gI1_1, if_neg (by omega), gI1_o (by omega)]
  · rw [gI1_1, if_neg (by decide), gI1_1, if_neg (by decide)]
  · rw [r_self, if_pos rfl]
theorem c_end29 (h : fsC g F R) (hR : R.length ≤ 120) {t : Tr} (hs : skC g ((stk R ++ (F.2.1 ++ F.2.2.1.toList)) ++ F.2.2.2.1.toList ++ [t])) (hl : ((stk R ++ (F.2.1 ++ F.2.2.1.toList)) ++ F.2.2.2.1.toList ++ [t]).length ≤ 120) : ∃ g', fs_X2_endPart_29 g = some ((), g') ∧ fsC g' (F.1, F.2.1, F.2.2.1, some (andO F.2.2.2.1 t), F.2.2.2.2) R ∧ skC g' ((stk R ++ (F.2.1 ++ F.2.2.1.toList)) ++ [andO F.2.2.2.1 t]) ∧ g'.1 3 11 = 6 ∧ frP g g' := by
  have h1 := h.1
  have h5 := h.2.1.2.2.2.1
  unfold fs_X2_endPart_29
  rw [h1, if_pos (inb_nI (by omega) (by decide)), nI_clamp (by omega), h5]
  cases e : F.2.2.2.1 with
  | none =>
    rw [e] at hs
    rw [if_pos (show b2 (Option.isSome (none : Option Tr)) = 0 from rfl)]
    have hs' : skC g ((stk R ++ (F.2.1 ++ F.2.2.1.toList)) ++ [t]) := by simpa using hs
    exact c_end48 h hR hs' (F.1, F.2.1, F.2.2.1, some t, F.2.2.2.2) ⟨rfl, rfl, rfl, rfl, rfl⟩
  | some u =>
    rw [e] at hs hl
    rw [if_neg (show ¬ (b2 (Option.isSome (some u)) = 0) from one0)]
    have hl' : (stk R ++ (F.2.1 ++ F.2.2.1.toList)).length < 119 := by
      have : ((stk R ++ (F.2.1 ++ F.2.2.1.toList)) ++ [u] ++ [t]).length ≤ 120 := hl
      rw [app_len, app_len] at this
      omega
    obtain ⟨g1, e1, a1, b1⟩ := sk_and (l := stk R ++ (F.2.1 ++ F.2.2.1.toList)) (u := u) (t := t) hs hl'
    rw [e1, ob_eq]
    obtain ⟨g2, e2, a2, b2', c2, d2⟩ := c_end48 (fsC_t h b1) hR a1 (F.1, F.2.1, F.2.2.1, some (fun s => u s && t s), F.2.2.2.2) ⟨rfl, rfl, rfl, rfl, rfl⟩
    exact ⟨g2, e2, a2, b2', c2, (frP.t b1).tr d2⟩
theorem c_endPart (h : fsC g F R) (hR : R.length ≤ 120) {t : Tr} (hs : skC g (stk (F :: R) ++ [t])) (hl : (stk (F :: R) ++ [t]).length ≤ 120) : ∃ g', f_X2_endPart g = some ((), g') ∧ fsC g' (addP F t) R ∧ skC g' (stk (addP F t :: R)) ∧ g'.1 3 11 = 6 ∧ frP g g' := by
  have h1 := h.1
  have h4 := h.2.1.2.2.1
  have es : stk (F :: R) = (stk R ++ (F.2.1 ++ F.2.2.1.toList)) ++ F.2.2.2.1.toList := by
    show stk R ++ (F.2.1 ++ (F.2.2.1.toList ++ F.2.2.2.1.toList)) = _
    simp [List.append_assoc]
  rw [es] at hs hl
  rw [stk_add]
  unfold f_X2_endPart
  rw [h1, if_pos (inb_nI (by omega) (by decide)), nI_clamp (by omega), h4]
  cases e : F.2.2.2.2 with
  | false =>
    rw [if_pos (show b2 false = 0 from rfl)]
    obtain ⟨g1, e1, a1, b1, c1, d1⟩ := c_end29 h hR hs hl
    rw [e] at a1
    have en : ngT false t = t := rfl
    refine ⟨g1, e1, ?_, ?_, c1, d1⟩
    · unfold addP
      rw [e, en]; exact a1
    · rw [en]; exact b1
  | true =>
    rw [if_neg (show ¬ (b2 true = 0) by decide)]
    rw [app_len] at hl
    obtain ⟨g1, e1, a1, b1⟩ := sk_neg hs (by omega)
    rw [e1, ob_eq]
    have hF1 := fsC_t h b1
    have h1' := hF1.1
    rw [h1', if_pos (inb_nI (by omega) (by decide)), nI_clamp (by omega), show vp_nar .boolean (0 : Int32) = 0 from nar_b2 false]
    simp only [gl_eq]
    obtain ⟨q1, ⟨q2, q3, q4, q5, q6⟩, q7⟩ := hF1
    have hF2 : fsC (gI1 g1 11 R.length 0) (F.1, F.2.1, F.2.2.1, F.2.2.2.1, false) R := by
      refine ⟨by rw [gI1_1, if_neg (by decide)]; exact q1, ⟨?_, ?_, ?_, ?_, ?_⟩, ?_⟩
      · rw [gI1_1, if_neg (by decide)]; exact q2
      · rw [gI1_1, if_neg (by decide)]; exact q3
      · rw [r_self, if_pos rfl]; rfl
      · rw [gI1_1, if_neg (by decide)]; exact q5
      · rw [gI1_1, if_neg (by decide)]; exact q6
      · refine frsC_eq R (fun j a b i hi => ?_) q7
        rw [gI1_o (by omega)]
    obtain ⟨g2, e2, a2, b2', c2, d2⟩ := c_end29 (F := (F.1, F.2.1, F.2.2.1, F.2.2.2.1, false)) hF2 hR (t := fun s => !t s) (skC_i a1 (by rw [gI1_1, if_neg (by decide)]) rfl) (by rw [app_len]; exact hl)
    have en : ngT true t = fun s => !t s := rfl
    refine ⟨g2, e2, ?_, ?_, c2, ((frP.t b1).tr (frP.f (by decide))).tr d2⟩
    · unfold addP
      rw [e, en]; exact a2
    · rw [en]; exact b2'
theorem stk_endG (F : aF) (R : List aF) : stk (endG F :: R) = (stk R ++ F.2.1) ++ [cT F] := by
  show stk R ++ (F.2.1 ++ ([cT F] ++ [])) = _
  simp [List.append_assoc]
theorem stk_endC (F : aF) (R : List aF) : stk (endC F :: R) = (stk R ++ F.2.1) ++ [cT F] := by
  show stk R ++ ((F.2.1 ++ [cT F]) ++ ([] ++ [])) = _
  simp [List.append_assoc]
theorem c_endGroup (h : fsC g F R) (hR : R.length ≤ 120) (hs : skC g (stk (F :: R))) (hl : (stk (F :: R)).length ≤ 120) (hp : F.2.2.2.1.isSome = true) : ∃ g', f_X2_endGroup g = some ((), g') ∧ fsC g' (endG F) R ∧ skC g' (stk (endG F :: R)) ∧ g'.1 3 = g.1 3 ∧ frP g g' := by
  obtain ⟨u, hu⟩ := Option.isSome_iff_exists.mp hp
  have h19 : ∀ (g1 : gG), fsC g1 F R → skC g1 ((stk R ++ F.2.1) ++ [cT F]) → ∃ g', fs_X2_endGroup_19 g1 = some ((), g') ∧ fsC g' (endG F) R ∧ skC g' (stk (endG F :: R)) ∧ g'.1 3 = g1.1 3 ∧ frP g1 g' := by
    intro g1 hf hsk
    obtain ⟨q1, ⟨q2, q3, q4, q5, q6⟩, q7⟩ := hf
    refine ⟨gI1 (gI1 g1 13 R.length 1) 12 R.length 0, ?_, ⟨?_, ⟨?_, ?_, ?_, ?_, ?_⟩, ?_⟩, ?_, ?_, (frP.f (by decide)).tr (frP.f (by decide))⟩
    · unfold fs_X2_endGroup_19
      rw [q1, if_pos (inb_nI (by omega) (by decide)), nI_clamp (by omega), show vp_nar .boolean (1 : Int32) = 1 from nar_b2 true, show vp_nar .boolean (0 : Int32) = 0 from nar_b2 false]
      simp only [gl_eq]
      rw [show (gI1 g1 13 R.length 1).1 3 9 = nI R.length by rw [gI1_1, if_neg (by decide)]; exact q1, if_pos (inb_nI (by omega) (by decide)), nI_clamp (by omega)]
    · rw [gI1_1, if_neg (by decide), gI1_1, if_neg (by decide)]; exact q1
    · rw [gI1_1, if_neg (by decide), gI1_1, if_neg (by decide)]; exact q2
    · rw [gI1_1, if_neg (by decide), gI1_1, if_neg (by decide)]; exact q3
    · rw [gI1_1, if_neg (by decide), gI1_1, if_neg (by decide)]; exact q4
    · rw [r_self, if_pos rfl]; rfl
    · rw [gI1_1, if_neg (by decide), r_self, if_pos rfl]; rfl
    · refine frsC_eq R (fun j a b i hi => ?_) q7
      rw [gI1_o (by omega), gI1_o (by omega)]
    · rw [stk_endG]
      exact skC_i hsk (by rw [gI1_1, if_neg (by decide), gI1_1, if_neg (by decide)]) rfl
    · rw [gI1_1, if_neg (by decide), gI1_1, if_neg (by decide)]
  have h1 := h.1
  have h6 := h.2.1.2.2.2.2
  unfold f_X2_endGroup
  rw [h1, if_pos (inb_nI (by omega) (by decide)), nI_clamp (by omega), h6]
  cases e : F.2.2.1 with
  | none =>
    rw [if_pos (show b2 (Option.isSome (none : Option Tr)) = 0 from rfl)]
    refine h19 g h ?_
    have ec : cT F = u := by unfold cT; rw [e, hu]; rfl
    have es : stk (F :: R) = (stk R ++ F.2.1) ++ [u] := by
      show stk R ++ (F.2.1 ++ (F.2.2.1.toList ++ F.2.2.2.1.toList)) = _
      rw [e, hu]; simp [List.append_assoc]
    rw [ec, ← es]; exact hs
  | some v =>
    rw [if_neg (show ¬ (b2 (Option.isSome (some v)) = 0) from one0)]
    have ec : cT F = fun s => v s || u s := by unfold cT; rw [e, hu]; rfl
    have es : stk (F :: R) = ((stk R ++ F.2.1) ++ [v]) ++ [u] := by
      show stk R ++ (F.2.1 ++ (F.2.2.1.toList ++ F.2.2.2.1.toList)) = _
      rw [e, hu]; simp [List.append_assoc]
    rw [es] at hs hl
    rw [app_len, app_len] at hl
    obtain ⟨g1, e1, a1, b1⟩ := sk_or hs (by omega)
    rw [e1, ob_eq]
    obtain ⟨g2, e2, a2, b2', c2, d2⟩ := h19 g1 (fsC_t h b1) (by rw [ec]; exact a1)
    exact ⟨g2, e2, a2, b2', by rw [c2, b1.1 3 (by decide)], (frP.t b1).tr d2⟩
theorem c_endCond (h : fsC g F R) (hR : R.length ≤ 120) (hs : skC g (stk (F :: R))) (hl : (stk (F :: R)).length ≤ 120) (hp : F.2.2.2.1.isSome = true) : ∃ g', f_X2_endCondition g = some ((), g') ∧ fsC g' (endC F) R ∧ skC g' (stk (endC F :: R)) ∧ g'.1 3 = g.1 3 ∧ frP g g' := by
  obtain ⟨g1, e1, a1, b1, c1, d1⟩ := c_endGroup h hR hs hl hp
  obtain ⟨q1, ⟨q2, q3, q4, q5, q6⟩, q7⟩ := a1
  refine ⟨gI1 (gI1 g1 13 R.length 0) 10 R.length (nI (F.2.1.length + 1)), ?_, ⟨?_, ⟨?_, ?_, ?_, ?_, ?_⟩, ?_⟩, ?_, ?_, d1.tr ((frP.f (by decide)).tr (frP.f (by decide)))⟩
  · unfold f_X2_endCondition
    rw [e1, ob_eq]
    rw [q1, if_pos (inb_nI (by omega) (by decide)), nI_clamp (by omega), show vp_nar .boolean (0 : Int32) = 0 from nar_b2 false]
    simp only [gl_eq]
    rw [show (gI1 g1 13 R.length 0).1 3 9 = nI R.length by rw [gI1_1, if_neg (by decide)]; exact q1, if_pos (inb_nI (by omega) (by decide)), if_pos (inb_nI (by omega) (by decide)), nI_clamp (by omega), show (gI1 g1 13 R.length 0).1 10 R.length = nI F.2.1.length by rw [gI1_1, if_neg (by decide)]; exact q3, nI_1]
  · rw [gI1_1, if_neg (by decide), gI1_1, if_neg (by decide)]; exact q1
  · rw [gI1_1, if_neg (by decide), gI1_1, if_neg (by decide)]; exact q2
  · rw [r_self, if_pos rfl]
    show _ = nI (F.2.1 ++ [cT F]).length
    rw [app_len]
  · rw [gI1_1, if_neg (by decide), gI1_1, if_neg (by decide)]; exact q4
  · rw [gI1_1, if_neg (by decide), gI1_1, if_neg (by decide)]; exact q5
  · rw [gI1_1, if_neg (by decide), r_self, if_pos rfl]; rfl
  · refine frsC_eq R (fun j a b i hi => ?_) q7
    rw [gI1_o (by omega), gI1_o (by omega)]
  · rw [stk_endC, ← stk_endG]
    exact skC_i b1 (by rw [gI1_1, if_neg (by decide), gI1_1, if_neg (by decide)]) rfl
  · rw [gI1_1, if_neg (by decide), gI1_1, if_neg (by decide), c1]
theorem c_beginC (k : Nat) {m : Nat} (hm : m ≤ 120) (e : g.1 3 9 = nI m) : ∃ g', f_X2_beginConditions (nI k) g = some ((), g') ∧ frC g' m (f0 k) ∧ g'.1 3 = g.1 3 ∧ g'.1 4 = g.1 4 ∧ g'.2 = g.2 ∧ frP g g' ∧ ∀ j, 9 ≤ j → j ≤ 13 → ∀ i, i ≠ m → g'.1 j i = g.1 j i := by
  have k3 : ∀ (g1 : gG) (j : Nat) (v : Int32), 9 ≤ j → g1.1 3 9 = nI m → (gI1 g1 j m v).1 3 9 = nI m := fun g1 j v hj h => by rw [gI1_1, if_neg (by omega)]; exact h
  refine ⟨gI1 (gI1 (gI1 (gI1 (gI1 g 9 m (nI k)) 10 m 0) 11 m 0) 12 m 0) 13 m 0, ?_, ⟨?_, ?_, ?_, ?_, ?_⟩, ?_, ?_, rfl, ((((frP.f (by decide)).tr (frP.f (by decide))).tr (frP.f (by decide))).tr (frP.f (by decide))).tr (frP.f (by decide)), ?_⟩
  · unfold f_X2_beginConditions
    rw [show vp_nar .boolean (0 : Int32) = 0 from nar_b2 false, e, if_pos (inb_nI (by omega) (by decide)), nI_clamp (by omega)]
    simp only [gl_eq]
    rw [k3 g 9 _ (by decide) e, if_pos (inb_nI (by omega) (by decide)), nI_clamp (by omega), k3 _ 10 _ (by decide) (k3 g 9 _ (by decide) e), if_pos (inb_nI (by omega) (by decide)), nI_clamp (by omega), k3 _ 11 _ (by decide) (k3 _ 10 _ (by decide) (k3 g 9 _ (by decide) e)), if_pos (inb_nI (by omega) (by decide)), nI_clamp (by omega), k3 _ 12 _ (by decide) (k3 _ 11 _ (by decide) (k3 _ 10 _ (by decide) (k3 g 9 _ (by decide) e))), if_pos (inb_nI (by omega) (by decide)), nI_clamp (by omega)]
  · rw [gI1_1, if_neg (by decide), gI1_1, if_neg (by decide), gI1_1, if_neg (by decide), gI1_1, if_neg (by decide), r_self, if_pos rfl]; rfl
  · rw [gI1_1, if_neg (by decide), gI1_1, if_neg (by decide), gI1_1, if_neg (by decide), r_self, if_pos rfl]; rfl
  · rw [gI1_1, if_neg (by decide), gI1_1, if_neg (by decide), r_self, if_pos rfl]; rfl
  · rw [gI1_1, if_neg (by decide), r_self, if_pos rfl]; rfl
  · rw [r_self, if_pos rfl]; rfl
  · rw [gI1_1, if_neg (by decide), gI1_1, if_neg (by decide), gI1_1, if_neg (by decide), gI1_1, if_neg (by decide), gI1_1, if_neg (by decide)]
  · rw [gI1_1, if_neg (by decide), gI1_1, if_neg (by decide), gI1_1, if_neg (by decide), gI1_1, if_neg (by decide), gI1_1, if_neg (by decide)]
  · intro j h1 h2 i hi
    rw [gI1_o hi, gI1_o hi, gI1_o hi, gI1_o hi, gI1_o hi]
end EP
