/-! PURE: a team of the reference on a row, whether it counts there or not. -/
def mP (f : Nat → Int32) (n : Nat) (S : aS) : Prop := ∀ p, p < n → f (2 + 2 * p) = nI (S.1 p) ∧ f (3 + 2 * p) = nI (S.2.1 p)
def mTm (f : Nat → Int32) (t : Nat) (tm : aT) : Prop := f (342 + 13 * t) = nI tm.1.length ∧ f (343 + 13 * t) = tm.2.1 ∧ f (344 + 13 * t) = tm.2.2 ∧ ∀ j p, tm.1[j]? = some p → f (345 + 13 * t + j) = nI p
section WT
variable {g : gG} {r n : Nat} {S : aS} {H : Nat → Nat → Bool} {t : Nat} {tm : aT}
theorem w_visited (hT : mTm (g.1 r) t tm) (h1 : okT n tm) (ht4 : t < 4) (hn : n ≤ 10) : f_X10_visited r 394 (nI t) g = some (nI (setOf tm.1), g) := by
  have hlen := okT_len h1
  obtain ⟨e0, e1, e2, e3⟩ := hT
  have key : ∀ (d i fuel : Nat), i + d = tm.1.length → d < fuel → fb_X10_visited_4 r 394 fuel (nI t) (nI (setOf (tm.1.take i))) (nI i) g = some (nI (setOf tm.1), g) := by
    intro d
    induction d with
    | zero =>
      intro i fuel hi hf
      obtain ⟨f, rfl⟩ : ∃ f, fuel = f + 1 := ⟨fuel - 1, by omega⟩
      show fs_X10_visited_4 r 394 _ _ _ _ _ = _
      unfold fs_X10_visited_4
      rw [show (0 : Int32) = nI 0 from rfl, m_cell]
      simp only [Option.bind_some]
      rw [if_pos (inb_nI (by omega) (by decide)), nI_clamp (by omega), Nat.add_zero, e0, if_pos (nI_le (by omega) (by omega)), List.take_of_length_le (by omega)]
    | succ d ih =>
      intro i fuel hi hf
      obtain ⟨f, rfl⟩ : ∃ f, fuel = f + 1 := ⟨fuel - 1, by omega⟩
      show fs_X10_visited_4 r 394 _ _ _ _ _ = _
      unfold fs_X10_visited_4
      rw [show (0 : Int32) = nI 0 from rfl, m_cell]
      simp only [Option.bind_some]
      rw [if_pos (inb_nI (by omega) (by decide)), nI_clamp (by omega), Nat.add_zero, e0, if_neg (nI_ge (by omega) (by omega))]
      rw [show (3 : Int32) + nI i = nI (3 + i) from nI_add 3 i, m_cell]
      simp only [Option.bind_some]
      obtain ⟨p, hp⟩ := get_lt (l := tm.1) (t := i) (by omega)
      have hpn := h1.2 p (List.mem_of_getElem? hp)
      rw [if_pos (inb_nI (by omega) (by decide)), nI_clamp (by omega), show 342 + 13 * t + (3 + i) = 345 + 13 * t + i by omega, e3 i p hp]
      unfold gLet
      rw [show (1 : Int32) <<< (nI p &&& 31) = nI (2 ^ p) from nI_shl1 (by omega), fa_or, nI_1]
      have e9 : setOf (tm.1.take i) ||| 2 ^ p = setOf (tm.1.take (i + 1)) := by
        rw [← setOf_app, List.take_add_one, hp]; rfl
      rw [e9]
      exact ih (i + 1) f (by omega) (by omega)
  unfold f_X10_visited
  exact key tm.1.length 0 gFuel (by omega) (by unfold gFuel; omega)
theorem w_last (hT : mTm (g.1 r) t tm) (h1 : okT n tm) (ht4 : t < 4) (hn : n ≤ 10) : f_X10_last r 394 (nI t) g = some (lastP tm.1, g) := by
  have hlen := okT_len h1
  obtain ⟨e0, e1, e2, e3⟩ := hT
  unfold f_X10_last lastP gLet
  rw [show (0 : Int32) = nI 0 from rfl, m_cell]
  simp only [Option.bind_some]
  rw [if_pos (inb_nI (by omega) (by decide)), nI_clamp (by omega), Nat.add_zero, e0]
  cases e : tm.1 with
  | nil => simp [nI]
  | cons a l =>
    rw [e] at hlen e3
    simp only [List.length_cons] at hlen
    rw [List.length_cons, if_neg (by rw [nI_eq (by omega) (by decide)]; omega)]
    have e5 : ((3 : Int32) + nI (l.length + 1)) - (1 : Int32) = nI (3 + l.length) := by
      show (nI 3 + nI (l.length + 1)) - nI 1 = _
      rw [nI_add, pk_sub (by omega)]
      congr 1
    rw [e5, m_cell]
    simp only [Option.bind_some]
    rw [if_pos (inb_nI (by omega) (by decide)), nI_clamp (by omega), show 342 + 13 * t + (3 + l.length) = 345 + 13 * t + l.length by omega]
    obtain ⟨p, hp⟩ := get_lt (l := a :: l) (t := l.length) (by simp)
    rw [e3 _ p hp, List.getLast?_eq_getElem?]
    simp only [List.length_cons, Nat.add_sub_cancel, hp]
theorem w_minutes (hP : mP (g.1 r) n S) (ok : okX S) (hn : n ≤ 10) {f : Option Nat} {p : Nat} (hp : p < n) (hf : ∀ q, f = some q → q < n) : f_X10_minutes r 394 (frI f) (nI p) g = some (nI (mns S f p), g) := by
  have hp9 := ok p (by omega)
  have ex : ∀ q, q < n → (2 : Int32) + (2 : Int32) * nI q = nI (2 + 2 * q) := fun q _ => by
    show nI 2 + nI 2 * nI q = _
    rw [pk_mul, nI_add]
  have fin : ∀ (a b : Nat), a ≤ 9 → b ≤ 9 → fs_X10_minutes_37 r 394 (nI p) (nI a) (nI b) g = some (nI (1 + adf a (S.1 p) + adf b (S.2.1 p)), g) := by
    intro a b ha hb
    unfold fs_X10_minutes_37
    rw [ex p hp, if_pos (inb_nI (by omega) (by decide)), nI_clamp (by omega), (hP p hp).1, m_apart _ _ (by omega) (by omega)]
    simp only [Option.bind_some]
    rw [nI_1, if_pos (inb_nI (by omega) (by decide)), nI_clamp (by omega), show 2 + 2 * p + 1 = 3 + 2 * p by omega, (hP p hp).2, m_apart _ _ (by omega) (by omega)]
    simp only [Option.bind_some]
    show some ((nI 1 + nI _) + nI _, g) = _
    rw [nI_add, nI_add]
  unfold f_X10_minutes
  cases f with
  | none =>
    show (if (-9 : Int32) = -9 then _ else _) = _
    rw [if_pos rfl]
    unfold fs_X10_minutes_17
    show (if (-9 : Int32) = -9 then _ else _) = _
    rw [if_pos rfl]
    have := fin 0 0 (by omega) (by omega)
    rw [show nI 0 = (0 : Int32) from rfl] at this
    rw [this]
    have e1 : ∀ a, adf 0 a = a := by intro a; unfold adf; split <;> omega
    unfold mns
    rw [e1, e1]
  | some q =>
    have hq := hf q rfl
    have hq9 := ok q (by omega)
    rw [show frI (some q) = nI q from rfl, if_neg (nI_ne9 (by omega)), ex q hq, if_pos (inb_nI (by omega) (by decide)), nI_clamp (by omega), (hP q hq).1]
    unfold fs_X10_minutes_17
    rw [if_neg (nI_ne9 (by omega)), ex q hq, nI_1, if_pos (inb_nI (by omega) (by decide)), nI_clamp (by omega), show 2 + 2 * q + 1 = 3 + 2 * q by omega, (hP q hq).2, fin _ _ hq9.1 hq9.2]
    rfl
theorem w_isThere (hH : mH (g.1 r) n H) (hT : mTm (g.1 r) t tm) (h1 : okT n tm) (ht4 : t < 4) (h2 : 2 ≤ n) (hn : n ≤ 10) : f_X10_isThere r 394 (nI t) g = some (b2 ((setOf tm.1).testBit (n - 1)), g) := by
  unfold f_X10_isThere
  rw [w_visited hT h1 ht4 hn]
  simp only [ob_eq]
  rw [m_chest hH h2]
  simp only [ob_eq]
  rw [m_has (by omega)]
  simp only [ob_eq, b2_gZb, if_true]
/-- the row in which a lone team walks -/
def tW (f : Nat → Int32) (n : Nat) (H : Nat → Nat → Bool) (S : aS) (tm : aT) : Prop := mH f n H ∧ mP f n S ∧ mTm f 0 tm
theorem w_visit (h2 : 2 ≤ n) (hn : n ≤ 10) (ok : okX S) (h : tW (g.1 r) n H S tm) (h1 : okT n tm) {p : Nat} (hp : p < n) (hv : (setOf tm.1).testBit p = false) : ∃ g', f_X10_visit r 394 (nI 0) (nI p) g = some ((), g') ∧ tW (g'.1 r) n H S (tm.1 ++ [p], tm.2.1 + nI (mns S tm.1.getLast? p), tm.2.2) ∧ frm r (r + 1) g g' := by
  have hl1 := okT_len (okT_app h1 hp hv 0 0)
  have hl1 : tm.1.length < n := by
    rw [List.length_append] at hl1
    have hl1 : tm.1.length + 1 ≤ n := hl1
    omega
  have hlast : ∀ q, tm.1.getLast? = some q → q < n := fun q hq => h1.2 q (List.mem_of_getLast? hq)
  obtain ⟨hH, hP, hT⟩ := h
  obtain ⟨q1, q2, q3, q4⟩ := id hT
  have q2 : g.1 r (342 + 13 * 0 + 1) = tm.2.1 := q2
  have q1 : g.1 r (342 + 13 * 0 + 0) = nI tm.1.length := q1
  refine ⟨gI1 (gI1 (gI1 g r (342 + 13 * 0 + 1) (tm.2.1 + nI (mns S tm.1.getLast? p))) r (342 + 13 * 0 + (3 + tm.1.length)) (nI p)) r (342 + 13 * 0 + 0) (nI (tm.1.length + 1)), ?_, ⟨?_, ?_, ?_, ?_, ?_, ?_⟩, ((frm.rf.i1 (by omega) (by omega)).i1 (by omega) (by omega)).i1 (by omega) (by omega)⟩
  · unfold f_X10_visit
    rw [show f_X10_cell (nI 0) (1 : Int32) g = _ from m_cell 0 1 g]
    simp only [ob_eq]
    rw [if_pos (inb_nI (by omega) (by decide)), w_last hT h1 (by decide) hn]
    simp only [ob_eq]
    rw [lastP_fr, w_minutes hP ok hn hp hlast]
    simp only [ob_eq]
    rw [if_pos (inb_nI (by omega) (by decide)), nI_clamp (by omega), q2]
    simp only [gl_eq]
    rw [show ∀ g9 : gG, f_X10_cell (nI 0) (0 : Int32) g9 = some (nI (342 + 13 * 0 + 0), g9) from fun g9 => m_cell 0 0 g9]
    simp only [ob_eq]
    have z1 : (gI1 g r (342 + 13 * 0 + 1) (tm.2.1 + nI (mns S tm.1.getLast? p))).1 r (342 + 13 * 0 + 0) = nI tm.1.length := by rw [r_self, if_neg (by omega)]; exact q1
    rw [if_pos (inb_nI (by omega) (by decide)), nI_clamp (n := 342 + 13 * 0 + 0) (by omega), z1, show (3 : Int32) + nI tm.1.length = nI (3 + tm.1.length) from nI_add 3 _, m_cell]
    simp only [ob_eq]
    rw [if_pos (inb_nI (by omega) (by decide)), nI_clamp (n := 342 + 13 * 0 + (3 + tm.1.length)) (by omega)]
    rw [show ∀ g9 : gG, f_X10_cell (nI 0) (0 : Int32) g9 = some (nI (342 + 13 * 0 + 0), g9) from fun g9 => m_cell 0 0 g9]
    simp only [ob_eq]
    rw [if_pos (inb_nI (by omega) (by decide)), if_pos (inb_nI (by omega) (by decide)), nI_clamp (n := 342 + 13 * 0 + 0) (by omega), r_self, if_neg (by omega), z1, nI_1]
  · refine mH_fr hn hH ?_
    intro j hj
    rw [r_self, if_neg (by omega), r_self, if_neg (by omega), r_self, if_neg (by omega)]
  · intro q hq
    rw [r_self, if_neg (by omega), r_self, if_neg (by omega), r_self, if_neg (by omega), r_self, if_neg (by omega), r_self, if_neg (by omega), r_self, if_neg (by omega)]
    exact hP q hq
  · rw [r_self, if_pos (by omega), List.length_append]; rfl
  · rw [r_self, if_neg (by omega), r_self, if_neg (by omega), r_self, if_pos (by omega)]
  · rw [r_self, if_neg (by omega), r_self, if_neg (by omega), r_self, if_neg (by omega)]; exact q3
  · intro j x hx
    have hx : (tm.1 ++ [p])[j]? = some x := hx
    by_cases ej : j < tm.1.length
    · rw [List.getElem?_append_left ej] at hx
      rw [r_self, if_neg (by omega), r_self, if_neg (by omega), r_self, if_neg (by omega)]
      exact q4 j x hx
    · have hlt := (List.getElem?_eq_some_iff.mp hx).1
      rw [List.length_append] at hlt
      have hlt : j < tm.1.length + 1 := hlt
      have e : j = tm.1.length := by omega
      subst e
      have e8 : p = x := by simpa using hx
      rw [r_self, if_neg (by omega), r_self, if_pos (by omega), e8]
theorem w_clear (hn : n ≤ 10) (hH : mH (g.1 r) n H) (hP : mP (g.1 r) n S) : ∃ g', f_X10_clearTeam r 394 (nI 0) g = some ((), g') ∧ tW (g'.1 r) n H S ([], 0, 0) ∧ frm r (r + 1) g g' := by
  obtain ⟨g', e, a, b, c⟩ := m_clear_l r 0 (by decide) 13 g 0 gFuel (by omega) (by unfold gFuel; omega)
  refine ⟨g', ?_, ⟨?_, ?_, ?_, ?_, ?_, ?_⟩, c⟩
  · unfold f_X10_clearTeam
    exact e
  · refine mH_fr hn hH ?_
    intro j hj
    rw [b j (by omega)]
  · intro q hq
    rw [b _ (by omega), b _ (by omega)]; exact hP q hq
  · rw [a _ (by omega) (by omega)]; rfl
  · rw [a _ (by omega) (by omega)]
  · rw [a _ (by omega) (by omega)]
  · intro j x hx
    simp at hx
end WT
/-! the place that is drawn -/
def clrN : Nat → Nat → Nat
  | 0, O => O
  | k + 1, O => clrN k O &&& (clrN k O - 1)
def nthM (O : Nat) : Nat → Nat → Nat → Nat
  | 0, _, i => i
  | d + 1, k, i => if O.testBit i = true then (match k with
    | 0 => i
    | k + 1 => nthM O d k (i + 1)) else nthM O d k (i + 1)
def cntF (O : Nat) : Nat → Nat → Nat
  | 0, _ => 0
  | d + 1, i => (if O.testBit i = true then 1 else 0) + cntF O d (i + 1)
set_option maxRecDepth 100000 in
theorem nth_all : ∀ O, O < 1024 → ∀ k, k < 10 → k < cnt (fun i => O.testBit i) 10 → fLow (clrN k O) 10 0 = nI (nthM O 10 k 0) ∧ O.testBit (nthM O 10 k 0) = true ∧ cntF O 10 0 = cnt (fun i => O.testBit i) 10 := by decide +kernel
theorem cnt_pos : ∀ O, O < 1024 → O ≠ 0 → 0 < cnt (fun i => O.testBit i) 10 := by decide +kernel
theorem clrN_lt {O : Nat} (h : O < 1024) : ∀ k, clrN k O < 1024
  | 0 => h
  | k + 1 => Nat.lt_of_le_of_lt Nat.and_le_left (clrN_lt h k)
theorem clr_I {a : Nat} (h : a < 1024) : nI a &&& (nI a - (1 : Int32)) = nI (a &&& (a - 1)) := by
  cases a with
  | zero => decide
  | succ a =>
    rw [nI_pred, fa_and, Nat.add_sub_cancel]
theorem c_draw_l {O k : Nat} (hO : O < 1024) (hk : k < 10) (g : gG) (d : Nat) : ∀ i fu, i + d = k → d < fu → fb_X4_draw_46 fu (nI k) (nI (clrN i O)) (nI i) g = some (fLow (clrN k O) 10 0, g) := by
  induction d with
  | zero =>
    intro i fu hi hf
    obtain ⟨fu, rfl⟩ : ∃ f', fu = f' + 1 := ⟨fu - 1, by omega⟩
    have e : i = k := by omega
    subst e
    have := clrN_lt hO i
    unfold fb_X4_draw_46 fs_X4_draw_46
    rw [if_pos (nI_le (Nat.le_refl _) (by omega)), c_low (by omega)]
    simp only [ob_eq]
  | succ d ih =>
    intro i fu hi hf
    obtain ⟨fu, rfl⟩ : ∃ f', fu = f' + 1 := ⟨fu - 1, by omega⟩
    unfold fb_X4_draw_46 fs_X4_draw_46
    rw [if_neg (nI_ge (by omega) (by omega)), clr_I (clrN_lt hO i)]
    simp only [gl_eq, nI_1]
    exact ih (i + 1) fu (by omega) (by omega)
theorem m_nth_l {O : Nat} (g : gG) (d : Nat) : ∀ k i fu, i + d = 10 → d < fu → k < 10 → k < cntF O d i → fb_X10_nth_4 fu (nI O) (nI k) (nI i) g = some (nI (nthM O d k i), g) := by
  induction d with
  | zero => intro k i fu hi hf hk hc; exact absurd hc (Nat.not_lt_zero _)
  | succ d ih =>
    intro k i fu hi hf hk hc
    obtain ⟨fu, rfl⟩ : ∃ f', fu = f' + 1 := ⟨fu - 1, by omega⟩
    rw [cntF] at hc
    unfold fb_X10_nth_4 fs_X10_nth_4 nthM
    rw [m_has (by omega)]
    simp only [ob_eq]
    cases eb : O.testBit i with
    | false =>
      rw [eb, if_neg (by decide)] at hc
      rw [b2_f, if_pos zero0, if_neg (by decide)]
      unfold fs_X10_nth_16
      rw [m_has (by omega), eb]
      simp only [ob_eq]
      rw [b2_f, if_pos zero0]
      unfold fs_X10_nth_30
      simp only [gl_eq, nI_1]
      rw [show nI k - (0 : Int32) = nI k from pk_sub (a := k) (b := 0) (by omega)]
      exact ih k (i + 1) fu (by omega) (by omega) hk (by omega)
    | true =>
      rw [eb, if_pos rfl] at hc
      rw [b2_t, if_neg one0, if_pos rfl]
      cases k with
      | zero => rw [if_pos (by decide)]
      | succ k =>
        rw [if_neg (show ¬ (nI (k + 1) ≤ (0 : Int32)) from nI_ge (a := 0) (by omega) (by omega))]
        unfold fs_X10_nth_16
        rw [m_has (by omega), eb]
        simp only [ob_eq]
        rw [b2_t, if_neg one0]
        unfold fs_X10_nth_30
        simp only [gl_eq, nI_1, nI_pred]
        exact ih k (i + 1) fu (by omega) (by omega) (by omega) (by omega)
def nxt (x : Int64) : Int64 := (x * (6364136223846793005 : Int64)) + (1442695040888963407 : Int64)
def drw (x : Int64) (O : Nat) : Nat := uN x / 2 ^ 33 % cnt (fun i => O.testBit i) 10
theorem r_eq (x : Int64) : ((x.toUInt64 >>> ((33 : Int32).toInt64.toUInt64 &&& Int64.toUInt64 63)).toInt64).toInt32 = nI (uN x / 2 ^ 33) ∧ uN x / 2 ^ 33 < 2 ^ 31 := by
  obtain ⟨m, hm, rfl⟩ := wb_of x
  have e : uN (lN m) = m := by
    show (lN m).toBitVec.toNat = m
    exact wb_tn hm
  rw [e]
  refine ⟨?_, by omega⟩
  rw [show (33 : Int32) = nI 33 from rfl, wb_shr hm (by decide), lN_i]
theorem c_draw {O : Nat} (hO : O < 1024) (h0 : O ≠ 0) (g : gG) : f_X4_draw (nI O) g = some (nI (nthM O 10 (drw (nxt (g.2 173 1)) O) 0), gL1 g 173 1 (nxt (g.2 173 1))) := by
  have hp := cnt_pos O hO h0
  have hk10 := cnt_k (fun i => O.testBit i) 10
  have hk : drw (nxt (g.2 173 1)) O < cnt (fun i => O.testBit i) 10 := Nat.mod_lt _ hp
  obtain ⟨r1, r2⟩ := r_eq (nxt (g.2 173 1))
  unfold f_X4_draw
  simp only [gl_eq]
  rw [c_count hO]
  simp only [ob_eq]
  rw [if_neg (fun e => by have := (nI_z (by omega)).mp e; omega), if_neg (fun e => by have := (nI_z (by omega)).mp e; omega), gL1_2]
  rw [show ((g.2 173 1) * (6364136223846793005 : Int64)) + (1442695040888963407 : Int64) = nxt (g.2 173 1) from rfl, r1, pk_rem r2 hp (by omega)]
  unfold fs_X4_draw_39
  have h := c_draw_l (O := O) (k := drw (nxt (g.2 173 1)) O) hO (by omega) (gL1 g 173 1 (nxt (g.2 173 1))) (drw (nxt (g.2 173 1)) O) 0 gFuel (by omega) (by unfold gFuel; omega)
  rw [(nth_all O hO _ (by omega) hk).1] at h
  exact h
theorem m_nth {O : Nat} (hO : O < 1024) (h0 : O ≠ 0) (x : Int64) (g : gG) : f_X10_nth (nI O) (nI (drw x O)) g = some (nI (nthM O 10 (drw x O) 0), g) := by
  have hp := cnt_pos O hO h0
  have hk10 := cnt_k (fun i => O.testBit i) 10
  have hk : drw x O < cnt (fun i => O.testBit i) 10 := Nat.mod_lt _ hp
  unfold f_X10_nth
  exact m_nth_l g 10 (drw x O) 0 gFuel (by omega) (by unfold gFuel; omega) (by omega) (by rw [(nth_all O hO _ (by omega) hk).2.2]; exact hk)
