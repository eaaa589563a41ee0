/-! PURE: how the class changes a state. -/
theorem gI1_1 (g : gG) (k i : Nat) (v : Int32) (j : Nat) : (gI1 g k i v).1 j = if j = k then upd (g.1 k) i v else g.1 j := rfl
theorem gI1_2 (g : gG) (k i : Nat) (v : Int32) : (gI1 g k i v).2 = g.2 := rfl
/-- only rows a .. b - 1 have changed -/
def frm (a b : Nat) (g g' : gG) : Prop := (∀ j, (j < a ∨ b ≤ j) → g'.1 j = g.1 j) ∧ g'.2 = g.2
theorem frm.rf {a b : Nat} {g : gG} : frm a b g g := ⟨fun _ _ => rfl, rfl⟩
theorem frm.tr {a b : Nat} {g g' g'' : gG} (h : frm a b g g') (h2 : frm a b g' g'') : frm a b g g'' := ⟨fun j hj => (h2.1 j hj).trans (h.1 j hj), h2.2.trans h.2⟩
theorem frm.wd {a b c d : Nat} {g g' : gG} (h : frm a b g g') (h1 : c ≤ a) (h2 : b ≤ d) : frm c d g g' := ⟨fun j hj => h.1 j (by omega), h.2⟩
theorem frm.i1 {a b : Nat} {g g' : gG} (h : frm a b g g') {k i : Nat} {v : Int32} (h1 : a ≤ k) (h2 : k < b) : frm a b g (gI1 g' k i v) := ⟨fun j hj => by rw [gI1_1, if_neg (by omega)]; exact h.1 j hj, h.2⟩
theorem frm.cp {a b : Nat} {g g' : gG} (h : frm a b g g') {k0 k1 : Nat} {sp dp n : Int32} (h1 : a ≤ k1) (h2 : k1 < b) : frm a b g (gCpy g' k0 k1 sp dp n) := ⟨fun j hj => by unfold gCpy va_up; simp only []; rw [if_neg (by omega)]; exact h.1 j hj, h.2⟩
def teamC (F : Nat → Nat → Int32) (t : Nat) (tm : aT) : Prop := F 3 t = nI (setOf tm.1) ∧ F 4 t = nI tm.1.length ∧ F 5 t = tm.2.1 ∧ F 6 t = tm.2.2 ∧ ∀ j p, tm.1[j]? = some p → F 7 (10 * t + j) = nI p
theorem okS_set {n : Nat} {X Y : Nat → Nat} {E : Nat} {T T' : List aT} (ok : okS n (X, Y, E, T)) (hl : T'.length ≤ 4) (h : ∀ tm ∈ T', okT n tm) : okS n (X, Y, E, T') := ⟨ok.1, hl, ok.2.2.1, h⟩
section CM
variable {g : gG} {k n : Nat} {X Y : Nat → Nat} {E : Nat} {T : List aT} {hm : Nat → Nat}
theorem c_enrol (h : cS g k (X, Y, E, T)) (hl : T.length < 4) : ∃ g', f_X5_enrol k g = some (nI T.length, g') ∧ cS g' k (X, Y, E, T ++ [([], 0, 0)]) ∧ frm k (k + 8) g g' := by
  have h9 : g.1 k 9 = nI T.length := h.2.1
  have e4 : (nI T.length) < (4 : Int32) := nI_lt (b := 4) hl (by decide)
  refine ⟨gI1 (gI1 (gI1 (gI1 (gI1 g (k + 3) T.length 0) (k + 4) T.length 0) (k + 5) T.length 0) (k + 6) T.length 0) k 9 (nI T.length + 1), ?_, ?_, ?_⟩
  · unfold f_X5_enrol f_X5_hasRoom
    rw [h9, if_neg (show ¬ ((4 : Int32) ≤ nI T.length) from nI_ge (b := 4) hl (by decide))]
    simp only [Option.bind_some]
    rw [if_neg (by decide)]
    simp only [gLet, h9, gI1_1, upd, Nat.left_eq_add, Nat.add_eq_left, Nat.reduceEqDiff, if_false, if_true, reduceIte]
    rw [inb_nI (n := 4) hl (by decide)]
    simp only [if_true, nI_clamp (n := T.length) (by omega)]
    simp [gI1_1, upd, h9]
  · refine ⟨?_, ?_, ?_, ?_⟩
    · show _ = _
      simp only [gI1_1, upd, Nat.add_zero]
      simp
      exact h.1
    · simp [gI1_1, upd, nI_1]
    · intro p hp
      have := h.2.2.1 p hp
      simpa [gI1_1, upd] using this
    · intro t tm ht
      by_cases htl : t < T.length
      · have ht' : T[t]? = some tm := by rw [← ht, List.getElem?_append_left htl]
        have := h.2.2.2 t tm ht'
        have hne : ¬ t = T.length := by omega
        simpa [gI1_1, upd, hne] using this
      · have hlt := (List.getElem?_eq_some_iff.mp ht).1
        simp at hlt
        have e : t = T.length := by omega
        subst e
        simp at ht
        subst ht
        simp [gI1_1, upd, setOf, nI]
  · exact (((((frm.rf.i1 (by omega) (by omega)).i1 (by omega) (by omega)).i1 (by omega) (by omega)).i1 (by omega) (by omega)).i1 (by omega) (by omega))

theorem c_xOf (h : cS g k (X, Y, E, T)) {p : Nat} (hp : p < 10) : f_X5_xOf k (nI p) g = some (nI (X p), g) := by
  unfold f_X5_xOf
  rw [if_neg (nI_pos (by omega)), if_neg (show ¬ ((10 : Int32) ≤ nI p) from nI_ge (b := 10) hp (by decide)), if_pos (inb_nI hp (by decide)), nI_clamp (by omega)]
  rw [show g.1 (k + 1) p = _ from (h.2.2.1 p hp).1]
theorem c_yOf (h : cS g k (X, Y, E, T)) {p : Nat} (hp : p < 10) : f_X5_yOf k (nI p) g = some (nI (Y p), g) := by
  unfold f_X5_yOf
  rw [if_neg (nI_pos (by omega)), if_neg (show ¬ ((10 : Int32) ≤ nI p) from nI_ge (b := 10) hp (by decide)), if_pos (inb_nI hp (by decide)), nI_clamp (by omega)]
  rw [show g.1 (k + 2) p = _ from (h.2.2.1 p hp).2]
theorem abs_adf {a b : Nat} (ha : a < 2 ^ 30) (hb : b < 2 ^ 30) : (if 0 ≤ nI a - nI b then nI a - nI b else 0 - (nI a - nI b)) = nI (adf a b) := by
  have e := pk_sub_toInt ha hb
  unfold adf
  by_cases h : b ≤ a
  · rw [if_pos (by rw [Int32.le_iff_toInt_le, e]; have : (0 : Int32).toInt = 0 := rfl; omega), pk_sub h, if_neg (by omega)]
  · rw [if_neg (by rw [Int32.le_iff_toInt_le, e]; have : (0 : Int32).toInt = 0 := rfl; omega), if_pos (by omega), ← pk_sub (by omega : a ≤ b)]
    apply Int32.toInt_inj.mp
    have e2 := pk_sub_toInt hb ha
    rw [e2, Int32.toInt_sub, e]
    have : (0 : Int32).toInt = 0 := rfl
    rw [this, Int.bmod_eq_of_le] <;> omega
theorem lt9 : (-9 : Int32) < 0 := by decide
theorem adf0 (a : Nat) : adf 0 a = a := by unfold adf; split <;> omega
theorem c_xCamp (g : gG) (k : Nat) : f_X5_xOf k (-9) g = some (0, g) := by
  unfold f_X5_xOf
  exact if_pos lt9
theorem c_yCamp (g : gG) (k : Nat) : f_X5_yOf k (-9) g = some (0, g) := by
  unfold f_X5_yOf
  exact if_pos lt9
theorem abs0 {b : Nat} (hb : b < 2 ^ 30) : (if 0 ≤ 0 - nI b then 0 - nI b else 0 - (0 - nI b)) = nI b := by
  have e := abs_adf (a := 0) (b := b) (Nat.two_pow_pos 30) hb
  rw [adf0] at e
  exact e
def absE (z : Int32) : Int32 := if 0 ≤ z then z else 0 - z
theorem c_mb {x y a b c d : Int32} (e1 : f_X5_xOf k x g = some (a, g)) (e2 : f_X5_xOf k y g = some (b, g)) (e3 : f_X5_yOf k x g = some (c, g)) (e4 : f_X5_yOf k y g = some (d, g)) : f_X5_minutesBetween k x y g = some (absE (a - b) + absE (c - d) + 1, g) := by
  unfold f_X5_minutesBetween
  simp only [e1, e2, e3, e4, Option.bind_some]
  rfl
theorem absE_0 {b : Nat} (hb : b < 2 ^ 30) : absE (0 - nI b) = nI b := abs0 hb
theorem absE_1 {a b : Nat} (ha : a < 2 ^ 30) (hb : b < 2 ^ 30) : absE (nI a - nI b) = nI (adf a b) := abs_adf ha hb
theorem c_minutes0 (h : cS g k (X, Y, E, T)) {p : Nat} (hp : p < 10) (hx : X p ≤ 9) (hy : Y p ≤ 9) : f_X5_minutesBetween k (-9) (nI p) g = some (nI (X p + Y p + 1), g) := by
  rw [c_mb (c_xCamp g k) (c_xOf h hp) (c_yCamp g k) (c_yOf h hp), absE_0 (by omega), absE_0 (by omega), nI_add, nI_1]
theorem c_minutes1 (h : cS g k (X, Y, E, T)) {p q : Nat} (hp : p < 10) (hx : X p ≤ 9) (hy : Y p ≤ 9) (hq : q < 10) (hx2 : X q ≤ 9) (hy2 : Y q ≤ 9) : f_X5_minutesBetween k (nI q) (nI p) g = some (nI (adf (X q) (X p) + adf (Y q) (Y p) + 1), g) := by
  rw [c_mb (c_xOf h hq) (c_xOf h hp) (c_yOf h hq) (c_yOf h hp), absE_1 (by omega) (by omega), absE_1 (by omega) (by omega), nI_add, nI_1]
theorem c_minutes (h : cS g k (X, Y, E, T)) (ok : okS n (X, Y, E, T)) {f : Option Nat} {p : Nat} (hp : p < 10) (hf : ∀ q, f = some q → q < 10) : f_X5_minutesBetween k (frI f) (nI p) g = some (nI (mns (X, Y, E, T) f p), g) := by
  have hp9 : X p ≤ 9 ∧ Y p ≤ 9 := ok.2.2.1 p hp
  cases f with
  | none =>
    have e9 : X p + Y p + 1 = mns (X, Y, E, T) none p := by unfold mns; dsimp only; omega
    rw [← e9]
    exact c_minutes0 h hp hp9.1 hp9.2
  | some q =>
    have hq := hf q rfl
    have hq9 : X q ≤ 9 ∧ Y q ≤ 9 := ok.2.2.1 q hq
    have e9 : adf (X q) (X p) + adf (Y q) (Y p) + 1 = mns (X, Y, E, T) (some q) p := by unfold mns; dsimp only; omega
    rw [← e9]
    exact c_minutes1 h hp hp9.1 hp9.2 hq hq9.1 hq9.2
theorem c_canVisit (hH : cH g n hm) (h2 : 2 ≤ n) (hn : n ≤ 10) (h : cS g k (X, Y, E, T)) (ok : okS n (X, Y, E, T)) {t p : Nat} {tm : aT} (ht : T[t]? = some tm) (hp : p < n) : f_X5_canVisit k (nI t) (nI p) g = some (b2 (canV n (effH hm E) (setOf tm.1) p), g) := by
  unfold f_X5_canVisit
  rw [c_hasPlace hH hn, nI_toInt (by omega)]
  simp only [Option.bind_some]
  rw [if_neg (b2n (by simp; omega)), c_openTo hH h2 hn h ok ht]
  simp only [Option.bind_some]
  rw [c_isIn (by have := opn_lt (n := n) (H := effH hm E) (s := setOf tm.1); have := lt1024 this hn; show opn n (effH hm E) (setOf tm.1) < _; omega) (by omega)]
  simp only [Option.bind_some]
  rw [opn_bit]
  simp only [hp, decide_true, Bool.true_and]
  cases canV n (effH hm E) (setOf tm.1) p <;> rfl
theorem okT_app {n p : Nat} {tm : aT} (h : okT n tm) (hp : p < n) (hv : (setOf tm.1).testBit p = false) (m x : Int32) : okT n (tm.1 ++ [p], m, x) := by
  rw [setOf_bit] at hv
  have hv : p ∉ tm.1 := by simpa using hv
  refine ⟨?_, ?_⟩
  · show (tm.1 ++ [p]).Nodup
    rw [List.nodup_append]
    refine ⟨h.1, by simp, ?_⟩
    intro a ha b hb e
    simp at hb
    subst hb; subst e
    exact hv ha
  · intro q hq
    have hq : q ∈ tm.1 ++ [p] := hq
    rcases List.mem_append.mp hq with h1 | h1
    · exact h.2 q h1
    · simp at h1; omega
theorem c_visit (hH : cH g n hm) (h2 : 2 ≤ n) (hn : n ≤ 10) (h : cS g k (X, Y, E, T)) (ok : okS n (X, Y, E, T)) (hk : k ≠ 14 ∧ 16 ≤ k) {t p : Nat} {tm : aT} (ht : T[t]? = some tm) (hp : p < n) (hc : canV n (effH hm E) (setOf tm.1) p = true) : ∃ g', f_X5_visit k (nI t) (nI p) g = some (tm.2.1 + nI (mns (X, Y, E, T) tm.1.getLast? p), g') ∧ cS g' k (X, Y, E, T.set t (tm.1 ++ [p], tm.2.1 + nI (mns (X, Y, E, T) tm.1.getLast? p), tm.2.2)) ∧ frm k (k + 8) g g' := by
  have h1 := ok_get ok ht
  have hv : (setOf tm.1).testBit p = false := by
    unfold canV at hc
    cases e : (setOf tm.1).testBit p with
    | false => rfl
    | true => rw [e] at hc; simp at hc
  have hl1 := okT_len (okT_app h1.1 hp hv 0 0)
  have hl1 : tm.1.length < 10 := by simp at hl1; omega
  obtain ⟨r3, r4, r5, r6, r7⟩ := h.2.2.2 t tm ht
  have r3 : g.1 (k + 3) t = nI (setOf tm.1) := r3
  have r4 : g.1 (k + 4) t = nI tm.1.length := r4
  have r5 : g.1 (k + 5) t = tm.2.1 := r5
  have hlast : ∀ q, tm.1.getLast? = some q → q < 10 := fun q hq => by
    have := h1.1.2 q (List.mem_of_getLast? hq); omega
  have e10 : (nI t * (10 : Int32)) + nI tm.1.length = nI (10 * t + tm.1.length) := by
    show (nI t * nI 10) + nI _ = _
    rw [pk_mul, nI_add, Nat.mul_comm]
  refine ⟨gI1 (gI1 (gI1 (gI1 g (k + 5) t (tm.2.1 + nI (mns (X, Y, E, T) tm.1.getLast? p))) (k + 7) (10 * t + tm.1.length) (nI p)) (k + 4) t (nI tm.1.length + 1)) (k + 3) t (nI (setOf tm.1) ||| nI (2 ^ p)), ?_, ?_, ?_⟩
  · unfold f_X5_visit
    rw [c_canVisit hH h2 hn h ok ht hp, hc]
    simp only [Option.bind_some]
    rw [if_neg (by decide), inb_nI h1.2.2 (by decide)]
    simp only [if_true, nI_clamp (n := t) (by omega)]
    rw [r4, if_pos (show nI tm.1.length < (10 : Int32) from nI_lt (b := 10) hl1 (by decide)), c_lastOf h ok hn ht]
    simp only [Option.bind_some]
    rw [lastP_fr, c_minutes h ok (by omega) hlast]
    simp only [Option.bind_some, gLet, r5]
    have q4 : ∀ v, (gI1 g (k + 5) t v).1 (k + 4) t = nI tm.1.length := fun v => by rw [gI1_1, if_neg (by omega)]; exact r4
    rw [q4, e10, inb_nI (by omega) (by decide)]
    simp only [if_true, nI_clamp (n := 10 * t + tm.1.length) (by omega)]
    rw [show (1 : Int32) <<< (nI p &&& 31) = nI (2 ^ p) from nI_shl1 (by omega)]
    simp [gI1_1, upd, r4, r3]
  · refine ⟨?_, ?_, ?_, ?_⟩
    · have := h.1
      simpa [gI1_1, upd] using this
    · have := h.2.1
      simpa [gI1_1, upd] using this
    · intro q hq
      have := h.2.2.1 q hq
      simpa [gI1_1, upd] using this
    · intro t' tm' ht'
      by_cases e : t' = t
      · subst e
        have ht' : (T.set t' (tm.1 ++ [p], tm.2.1 + nI (mns (X, Y, E, T) tm.1.getLast? p), tm.2.2))[t']? = some tm' := ht'
        rw [List.getElem?_set_self h1.2.1] at ht'
        cases ht'
        refine ⟨?_, ?_, ?_, ?_, ?_⟩
        · simp [gI1_1, upd, setOf_app, fa_or]
        · simp [gI1_1, upd, nI_1]
        · simp [gI1_1, upd]
        · simpa [gI1_1, upd] using r6
        · intro j q hq
          have hq : (tm.1 ++ [p])[j]? = some q := hq
          by_cases ej : j < tm.1.length
          · rw [List.getElem?_append_left ej] at hq
            have := r7 j q hq
            have hne : ¬ 10 * t' + j = 10 * t' + tm.1.length := by omega
            have hne2 : ¬ j = tm.1.length := by omega
            simpa [gI1_1, upd, hne2] using this
          · have hlt := (List.getElem?_eq_some_iff.mp hq).1
            simp at hlt
            have e : j = tm.1.length := by omega
            subst e
            simp at hq
            subst hq
            simp [gI1_1, upd]
      · have ht' : (T.set t (tm.1 ++ [p], tm.2.1 + nI (mns (X, Y, E, T) tm.1.getLast? p), tm.2.2))[t']? = some tm' := ht'
        rw [List.getElem?_set_ne (fun q => e q.symm)] at ht'
        have h3 := h.2.2.2 t' tm' ht'
        have hlen' := okT_len (ok_get ok ht').1
        refine ⟨?_, ?_, ?_, ?_, ?_⟩
        · simpa [gI1_1, upd, e] using h3.1
        · simpa [gI1_1, upd, e] using h3.2.1
        · simpa [gI1_1, upd, e] using h3.2.2.1
        · simpa [gI1_1, upd, e] using h3.2.2.2.1
        · intro j q hq
          have := h3.2.2.2.2 j q hq
          have hj := (List.getElem?_eq_some_iff.mp hq).1
          have hne : ¬ 10 * t' + j = 10 * t + tm.1.length := by omega
          simpa [gI1_1, upd, hne] using this
  · exact ((((frm.rf.i1 (by omega) (by omega)).i1 (by omega) (by omega)).i1 (by omega) (by omega)).i1 (by omega) (by omega))
end CM
