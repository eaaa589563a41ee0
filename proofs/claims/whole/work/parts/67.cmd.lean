/-! PURE: commands. -/
def cmdC (n : Nat) (hm : Nat → Nat) (S : aS) (c : Nat) (B : Bool) (S' : aS) : Prop := ∀ g, cH g n hm → cS g 165 S → ∃ g', f_X3_succeeds (nI c) g = some (b2 B, g') ∧ cS g' 165 S' ∧ frm 157 174 g g'
def cmdM (n : Nat) (hm : Nat → Nat) (S : aS) (c : Nat) (B : Bool) (S' : aS) : Prop := ∀ g, mS (g.1 184) n hm S → ∃ g', f_X10_does (nI c) g = some (b2 B, g') ∧ mS (g'.1 184) n hm S' ∧ (∀ j, j ≠ 184 → j ≠ 188 → g'.1 j = g.1 j) ∧ g'.2 = g.2
def cmdOK (n : Nat) (hm : Nat → Nat) (S : aS) (c : Nat) : Prop := ∃ B S', okS n S' ∧ cmdC n hm S c B S' ∧ cmdM n hm S c B S'
section CMD
variable {n : Nat} {hm : Nat → Nat} {X Y : Nat → Nat} {E : Nat} {T : List aT} {c : Nat}
theorem cmd_no {S : aS} (ok : okS n S) (h1 : ∀ g, cH g n hm → cS g 165 S → f_X3_succeeds (nI c) g = some (0, g)) (h2 : ∀ g, mS (g.1 184) n hm S → f_X10_does (nI c) g = some (0, g)) : cmdOK n hm S c := ⟨false, S, ok, fun g a b => ⟨g, h1 g a b, b, frm.rf⟩, fun g a => ⟨g, h2 g a, a, fun j _ _ => rfl, rfl⟩⟩
theorem c_hasT {g : gG} {k : Nat} (h : cS g k (X, Y, E, T)) (ok : okS n (X, Y, E, T)) {t : Nat} (ht : t < 10) : f_X5_hasTeam k (nI t) g = some (b2 (decide (t < T.length)), g) := by
  rw [c_hasTeam h ok.2.1, isT_nI (by omega)]
theorem c_hasP {g : gG} (h : cH g n hm) (hn : n ≤ 10) {p : Nat} (hp : p < 10) : f_X0_hasPlace (nI p) g = some (b2 (decide (p < n)), g) := by
  rw [c_hasPlace h hn, nI_toInt (by omega)]
  by_cases e : p < n
  · rw [decide_eq_true e, decide_eq_true (by omega)]
  · rw [decide_eq_false e, decide_eq_false (by omega)]
theorem c_canV_no {g : gG} {k : Nat} (hH : cH g n hm) (hn : n ≤ 10) (h : cS g k (X, Y, E, T)) (ok : okS n (X, Y, E, T)) {t p : Nat} (ht : t < 10) (hp : p < 10) (hno : ¬ (t < T.length ∧ p < n)) : f_X5_canVisit k (nI t) (nI p) g = some (0, g) := by
  unfold f_X5_canVisit
  rw [c_hasP hH hn hp]
  simp only [ob_eq]
  by_cases e : p < n
  · rw [decide_eq_true e, b2_t, if_neg one0]
    unfold f_X5_openTo
    rw [c_hasT h ok ht, decide_eq_false (fun e9 => hno ⟨e9, e⟩)]
    simp only [ob_eq]
    rw [b2_f, if_pos zero0]
    simp only [ob_eq]
    rw [show (0 : Int32) = nI 0 from rfl, c_isIn (by decide) (by omega)]
    simp only [ob_eq]
    rw [show Nat.testBit 0 p = false by simp, b2_f, if_pos (show (0 : Int32) = nI 0 from rfl)]
  · rw [decide_eq_false e, b2_f, if_pos zero0]
theorem b2_and (a b : Bool) : (b2 (a && b) = (0 : Int32)) ↔ ¬ (a = true ∧ b = true) := by cases a <;> cases b <;> decide
theorem does_T {k : Nat} {g : gG} (hc : c < 10000) (hk : c / 1000 = k) (h : mS (g.1 184) n hm (X, Y, E, T)) (hn : n ≤ 10) (ok : okS n (X, Y, E, T)) : f_X10_does (nI c) g = fs_X10_does_106 (nI c) (nI k) (nI (c / 100 % 10)) (nI (c / 10 % 10)) (nI (c % 10)) (b2 (decide (c / 100 % 10 < T.length))) (b2 (decide (c / 100 % 10 < n))) (b2 (decide (c / 100 % 10 < T.length) && (decide (c / 10 % 10 < n) && decide (c % 10 = 0)))) (b2 (decide (c / 10 % 10 = 0) && decide (c % 10 = 0))) g := by
  rw [← hk]
  exact does_eq hc h hn ok
theorem cmd_1 (ok : okS n (X, Y, E, T)) (h2 : 2 ≤ n) (hn : n ≤ 10) (hc : c < 10000) (hk : c / 1000 = 1) : cmdOK n hm (X, Y, E, T) c := by
  have hT : T.length ≤ 4 := ok.2.1
  have q1 : c / 100 % 10 < 10 := by omega
  have q2 : c / 10 % 10 < 10 := by omega
  have q3 : c % 10 < 10 := by omega
  have eC := fun g => succ_1 (c := c) hc hk g
  have eM := fun (g : gG) (h : mS (g.1 184) n hm (X, Y, E, T)) => does_T (k := 1) hc hk h hn ok
  generalize c / 100 % 10 = t at *
  generalize c / 10 % 10 = p at *
  generalize c % 10 = z at *
  by_cases hz : z = 0
  · by_cases hpt : t < T.length ∧ p < n
    · obtain ⟨ht, hp⟩ := hpt
      obtain ⟨tm, htm⟩ := get_lt ht
      have h1 := ok_get ok htm
      have hs := setOf_lt h1.1.2
      have h10 := lt1024 hs hn
      have xC : ∀ g, cH g n hm → cS g 165 (X, Y, E, T) → f_X3_succeeds (nI c) g = (f_X3_visits (nI t) (nI p) g).bind (fun u6 => if u6.1 = (0 : Int32) then (some ((0 : Int32), u6.2)) else (some ((1 : Int32), u6.2))) := by
        intro g hH hS
        rw [eC, if_pos ((nI_z (by omega)).mpr hz)]
      have xM : ∀ g, mS (g.1 184) n hm (X, Y, E, T) → f_X10_does (nI c) g = (if b2 (canV n (effH hm E) (setOf tm.1) p) = (0 : Int32) then (some ((0 : Int32), g)) else ((f_X10_visit 184 394 (nI t) (nI p) g).bind (fun u6 => some ((1 : Int32), u6.2)))) := by
        intro g hS
        rw [eM g hS, does_1, if_neg (fun e => (b2_and _ _).mp e ⟨decide_eq_true ht, by rw [decide_eq_true hp, decide_eq_true hz]; rfl⟩), m_visited hS ok hn htm]
        simp only [ob_eq]
        rw [m_canVisit hS.1 h2 hn hp h10]
        simp only [ob_eq]
      cases hv : canV n (effH hm E) (setOf tm.1) p with
      | false =>
        refine cmd_no ok (fun g hH hS => ?_) (fun g hS => ?_)
        · rw [xC g hH hS]
          unfold f_X3_visits
          rw [c_canVisit hH h2 hn hS ok htm hp, hv]
          simp only [ob_eq]
          rw [b2_f, if_pos zero0]
          simp only [ob_eq]
          rw [if_pos trivial]
        · rw [xM g hS, hv, b2_f, if_pos zero0]
      | true =>
        refine ⟨true, (X, Y, E, T.set t (tm.1 ++ [p], tm.2.1 + nI (mns (X, Y, E, T) tm.1.getLast? p), tm.2.2)), okS_set1 ok (okT_app h1.1 hp (canV_bit hv) _ _), fun g hH hS => ?_, fun g hS => ?_⟩
        · obtain ⟨g', e, a, f⟩ := c_visit (k := 165) hH h2 hn hS ok (by decide) htm hp hv
          refine ⟨g', ?_, a, f.wd (by decide) (by decide)⟩
          rw [xC g hH hS]
          unfold f_X3_visits
          rw [c_canVisit hH h2 hn hS ok htm hp, hv]
          simp only [ob_eq]
          rw [b2_t, if_neg one0, e]
          simp only [ob_eq]
          rw [if_neg one0]
        · obtain ⟨g', e, a, f⟩ := m_visit (r := 184) h2 hn hS ok htm hp (canV_bit hv)
          refine ⟨g', ?_, a, fun j h7 h8 => f.1 j (by omega), f.2⟩
          rw [xM g hS, hv, b2_t, if_neg one0, e]
          simp only [ob_eq]
    · refine cmd_no ok (fun g hH hS => ?_) (fun g hS => ?_)
      · rw [eC, if_pos ((nI_z (by omega)).mpr hz)]
        unfold f_X3_visits
        rw [c_canV_no hH hn hS ok q1 q2 hpt]
        simp only [ob_eq]
        rw [if_pos trivial]
        simp only [ob_eq]
        rw [if_pos trivial]
      · rw [eM g hS, does_1, if_pos ((b2_and _ _).mpr (fun e => hpt ⟨of_decide_eq_true e.1, of_decide_eq_true (Bool.and_eq_true_iff.mp e.2).1⟩))]
  · refine cmd_no ok (fun g hH hS => ?_) (fun g hS => ?_)
    · rw [eC, if_neg (fun e => hz ((nI_z (by omega)).mp e))]
    · rw [eM g hS, does_1, if_pos ((b2_and _ _).mpr (fun e => hz (of_decide_eq_true (Bool.and_eq_true_iff.mp e.2).2)))]
theorem cmd_2 (ok : okS n (X, Y, E, T)) (h2 : 2 ≤ n) (hn : n ≤ 10) (hc : c < 10000) (hk : c / 1000 = 2) : cmdOK n hm (X, Y, E, T) c := by
  have hT : T.length ≤ 4 := ok.2.1
  have q1 : c / 100 % 10 < 10 := by omega
  have q2 : c / 10 % 10 < 10 := by omega
  have q3 : c % 10 < 10 := by omega
  have eC := fun g => succ_2 (c := c) hc hk g
  have eM := fun (g : gG) (h : mS (g.1 184) n hm (X, Y, E, T)) => does_T (k := 2) hc hk h hn ok
  generalize c / 100 % 10 = t at *
  generalize c / 10 % 10 = p at *
  generalize c % 10 = z at *
  by_cases hb : p = 0 ∧ z = 0
  · have xb : (b2 (decide (p = 0) && decide (z = 0)) = (0 : Int32)) → False := fun e => (b2_and _ _).mp e ⟨decide_eq_true hb.1, decide_eq_true hb.2⟩
    by_cases ht : t < T.length
    · obtain ⟨tm, htm⟩ := get_lt ht
      have h1 := ok_get ok htm
      have hs := setOf_lt h1.1.2
      have h10 := lt1024 hs hn
      have hlen := okT_len h1.1
      have hsl : safe n (effH hm E) (setOf tm.1) < 2 ^ n := msk_lt _ _
      have hsl10 := lt1024 hsl hn
      have xC : ∀ g, cH g n hm → cS g 165 (X, Y, E, T) → ∃ g1, frm 157 162 g g1 ∧ f_X3_succeeds (nI c) g = (if nI (safe n (effH hm E) (setOf tm.1)) = (0 : Int32) then some (0, g1) else ((f_X5_countHint 165 (nI t) g1).bind (fun u5 => some ((1 : Int32), u5.2))).bind (fun u11 => if u11.1 = (0 : Int32) then (some ((0 : Int32), u11.2)) else (some ((1 : Int32), u11.2)))) := by
        intro g hH hS
        obtain ⟨g1, e, f⟩ := c_safeFor (k := 165) hH h2 hn hS ok htm
        refine ⟨g1, f, ?_⟩
        rw [eC, if_pos ((nI_z (by omega)).mpr hb.1), if_pos ((nI_z (by omega)).mpr hb.2)]
        unfold f_X3_getsHint
        rw [c_hasT hS ok q1, decide_eq_true ht]
        simp only [ob_eq]
        rw [b2_t, if_neg one0, e]
        simp only [ob_eq]
        by_cases hz : nI (safe n (effH hm E) (setOf tm.1)) = (0 : Int32)
        · rw [if_pos hz, if_pos hz]
          simp only [ob_eq]
          rw [if_pos trivial]
        · rw [if_neg hz, if_neg hz]
      have xM : ∀ g, mS (g.1 184) n hm (X, Y, E, T) → ∃ g1, frm 188 189 g g1 ∧ f_X10_does (nI c) g = (if nI (safe n (effH hm E) (setOf tm.1)) = (0 : Int32) then some (0, g1) else some (1, gI1 g1 184 (342 + 13 * t + 2) (tm.2.2 + 1))) := by
        intro g hS
        obtain ⟨g1, e, f⟩ := m_safe (g := g) (r := 184) h2 hn (by decide) hS ok htm
        have hS1 : mS (g1.1 184) n hm (X, Y, E, T) := by rw [f.1 184 (by omega)]; exact hS
        refine ⟨g1, f, ?_⟩
        rw [eM g hS, does_2, decide_eq_true ht, b2_t, if_neg one0, if_neg (fun e => xb e), e]
        simp only [ob_eq]
        by_cases hz : nI (safe n (effH hm E) (setOf tm.1)) = (0 : Int32)
        · rw [if_pos hz, if_pos hz]
        · rw [if_neg hz, if_neg hz, show f_X10_cell (nI t) (2 : Int32) g1 = _ from m_cell t 2 g1]
          simp only [ob_eq]
          rw [if_pos (inb_nI (by omega) (by decide)), if_pos (inb_nI (by omega) (by decide)), nI_clamp (by omega), (m_hint (r := 184) hn hS1 ok htm).1]
          simp only [gl_eq]
      by_cases hz : nI (safe n (effH hm E) (setOf tm.1)) = (0 : Int32)
      · refine ⟨false, (X, Y, E, T), ok, fun g hH hS => ?_, fun g hS => ?_⟩
        · obtain ⟨g1, f, e⟩ := xC g hH hS
          rw [if_pos hz] at e
          exact ⟨g1, e, cS_fr hS f (by omega), f.wd (by decide) (by decide)⟩
        · obtain ⟨g1, f, e⟩ := xM g hS
          rw [if_pos hz] at e
          exact ⟨g1, e, by rw [f.1 184 (by omega)]; exact hS, fun j h7 h8 => f.1 j (by omega), f.2⟩
      · refine ⟨true, (X, Y, E, T.set t (tm.1, tm.2.1, tm.2.2 + 1)), okS_set1 ok h1.1, fun g hH hS => ?_, fun g hS => ?_⟩
        · obtain ⟨g1, f, e⟩ := xC g hH hS
          rw [if_neg hz] at e
          obtain ⟨g2, e2, a2, f2⟩ := c_countHint (k := 165) (cS_fr hS f (by omega)) ok htm
          refine ⟨g2, ?_, a2, (f.wd (by decide) (by decide)).tr (f2.wd (by decide) (by decide))⟩
          rw [e, e2]
          simp only [ob_eq]
          rw [if_neg one0]; rfl
        · obtain ⟨g1, f, e⟩ := xM g hS
          rw [if_neg hz] at e
          have hS1 : mS (g1.1 184) n hm (X, Y, E, T) := by rw [f.1 184 (by omega)]; exact hS
          exact ⟨_, e, (m_hint (r := 184) hn hS1 ok htm).2, fun j h7 h8 => by rw [gI1_1, if_neg h7, f.1 j (by omega)], f.2⟩
    · refine cmd_no ok (fun g hH hS => ?_) (fun g hS => ?_)
      · rw [eC, if_pos ((nI_z (by omega)).mpr hb.1), if_pos ((nI_z (by omega)).mpr hb.2)]
        unfold f_X3_getsHint
        rw [c_hasT hS ok q1, decide_eq_false ht]
        simp only [ob_eq]
        rw [b2_f, if_pos zero0]
        simp only [ob_eq]
        rw [if_pos trivial]
      · rw [eM g hS, does_2, decide_eq_false ht, b2_f, if_pos zero0]
  · refine cmd_no ok (fun g hH hS => ?_) (fun g hS => ?_)
    · rw [eC]
      by_cases hp : p = 0
      · rw [if_pos ((nI_z (by omega)).mpr hp), if_neg (fun e => hb ⟨hp, (nI_z (by omega)).mp e⟩)]
      · rw [if_neg (fun e => hp ((nI_z (by omega)).mp e))]
    · rw [eM g hS, does_2, if_pos ((b2_and _ _).mpr (fun e => hb ⟨of_decide_eq_true e.1, of_decide_eq_true e.2⟩))]
      by_cases hx : b2 (decide (t < T.length)) = (0 : Int32)
      · rw [if_pos hx]
      · rw [if_neg hx]
theorem cmd_3 (ok : okS n (X, Y, E, T)) (h2 : 2 ≤ n) (hn : n ≤ 10) (hc : c < 10000) (hk : c / 1000 = 3) : cmdOK n hm (X, Y, E, T) c := by
  have hT : T.length ≤ 4 := ok.2.1
  have c1 : (1 : Int32).toNatClampNeg = 1 := by decide
  have eC := fun g => succ_3 (c := c) hc hk g
  have eM := fun (g : gG) (h : mS (g.1 184) n hm (X, Y, E, T)) => does_T (k := 3) hc hk h hn ok
  by_cases h3 : c = 3000
  · have xC : ∀ g, f_X3_succeeds (nI c) g = (f_X3_enrols g).bind (fun u17 => if u17.1 = (0 : Int32) then (some ((0 : Int32), u17.2)) else (some ((1 : Int32), u17.2))) := by
      intro g
      rw [eC, if_pos ((nI_z (by omega)).mpr (by omega)), if_pos ((nI_z (by omega)).mpr (by omega)), if_pos ((nI_z (by omega)).mpr (by omega))]
    have xM : ∀ g, mS (g.1 184) n hm (X, Y, E, T) → f_X10_does (nI c) g = (f_X10_adds 184 394 g).bind (fun u16 => if u16.1 = (0 : Int32) then (some ((0 : Int32), u16.2)) else (some ((1 : Int32), u16.2))) := by
      intro g hS
      rw [eM g hS, does_3, if_pos (show nI c = (3000 : Int32) by rw [h3]; rfl)]
    by_cases h4 : T.length = 4
    · refine cmd_no ok (fun g hH hS => ?_) (fun g hS => ?_)
      · rw [xC]
        unfold f_X3_enrols f_X5_hasRoom
        rw [show g.1 165 9 = nI T.length from hS.2.1, h4, if_pos (by decide)]
        simp only [ob_eq]
        rw [if_pos trivial]
        simp only [ob_eq]
        rw [if_pos trivial]
      · rw [xM g hS]
        unfold f_X10_adds
        rw [if_pos (show inb 1 394 = true by decide), c1, show g.1 184 1 = nI T.length from hS.2.1, h4, if_pos (show nI 4 = (4 : Int32) from rfl)]
        simp only [ob_eq]
        rw [if_pos trivial]
    · refine ⟨true, (X, Y, E, T ++ [([], 0, 0)]), ?_, fun g hH hS => ?_, fun g hS => ?_⟩
      · refine okS_T ok (by rw [List.length_append]; show T.length + 1 ≤ 4; omega) ?_
        intro tm htm
        rcases List.mem_append.mp htm with h | h
        · exact ok.2.2.2 tm h
        · rw [List.mem_singleton.mp h]
          exact ⟨List.nodup_nil, fun p hp => by simp at hp⟩
      · obtain ⟨g', e, a, f⟩ := c_enrol (k := 165) hS (by omega)
        refine ⟨g', ?_, a, f.wd (by decide) (by decide)⟩
        rw [xC]
        unfold f_X3_enrols f_X5_hasRoom
        rw [show g.1 165 9 = nI T.length from hS.2.1, if_neg (show ¬ ((4 : Int32) ≤ nI T.length) from nI_ge (b := 4) (by omega) (by decide))]
        simp only [ob_eq]
        rw [if_neg one0, e]
        simp only [ob_eq]
        rw [if_neg one0]; rfl
      · obtain ⟨g', e, a, f⟩ := m_adds (r := 184) hn hS ok (by omega)
        refine ⟨g', ?_, a, fun j h7 h8 => f.1 j (by omega), f.2⟩
        rw [xM g hS, e]
        simp only [ob_eq]
        rw [if_neg one0]; rfl
  · refine cmd_no ok (fun g hH hS => ?_) (fun g hS => ?_)
    · rw [eC]
      by_cases a1 : c / 100 % 10 = 0
      · by_cases a2 : c / 10 % 10 = 0
        · rw [if_pos ((nI_z (by omega)).mpr a1), if_pos ((nI_z (by omega)).mpr a2), if_neg (fun e => h3 (by have := (nI_z (by omega)).mp e; omega))]
        · rw [if_pos ((nI_z (by omega)).mpr a1), if_neg (fun e => a2 ((nI_z (by omega)).mp e))]
      · rw [if_neg (fun e => a1 ((nI_z (by omega)).mp e))]
    · rw [eM g hS, does_3, if_neg (show ¬ (nI c = (3000 : Int32)) from fun e => h3 ((nI_eq (b := 3000) (by omega) (by decide)).mp e))]
theorem cmd_4 (ok : okS n (X, Y, E, T)) (h2 : 2 ≤ n) (hn : n ≤ 10) (hc : c < 10000) (hk : c / 1000 = 4) : cmdOK n hm (X, Y, E, T) c := by
  have hT : T.length ≤ 4 := ok.2.1
  have q1 : c / 100 % 10 < 10 := by omega
  have q2 : c / 10 % 10 < 10 := by omega
  have q3 : c % 10 < 10 := by omega
  have eC := fun g => succ_4 (c := c) hc hk g
  have eM := fun (g : gG) (h : mS (g.1 184) n hm (X, Y, E, T)) => does_T (k := 4) hc hk h hn ok
  generalize c / 100 % 10 = t at *
  generalize c / 10 % 10 = p at *
  generalize c % 10 = z at *
  by_cases hb : p = 0 ∧ z = 0
  · have xb : (b2 (decide (p = 0) && decide (z = 0)) = (0 : Int32)) → False := fun e => (b2_and _ _).mp e ⟨decide_eq_true hb.1, decide_eq_true hb.2⟩
    by_cases ht : t < T.length
    · refine ⟨true, (X, Y, E, T.eraseIdx t), ?_, fun g hH hS => ?_, fun g hS => ?_⟩
      · refine okS_T ok (by rw [List.length_eraseIdx_of_lt ht]; omega) ?_
        intro tm htm
        exact ok.2.2.2 tm (List.mem_of_mem_eraseIdx htm)
      · obtain ⟨g', e, a, f⟩ := c_dismiss (k := 165) hS ok hn ht
        refine ⟨g', ?_, a, f.wd (by decide) (by decide)⟩
        rw [eC, if_pos ((nI_z (by omega)).mpr hb.1), if_pos ((nI_z (by omega)).mpr hb.2)]
        unfold f_X3_givesUp
        rw [c_hasT hS ok q1, decide_eq_true ht]
        simp only [ob_eq]
        rw [b2_t, if_neg one0, e]
        simp only [ob_eq]
        rw [if_neg one0]
      · obtain ⟨g', e, a, f⟩ := m_drop (r := 184) hn hS ok ht
        refine ⟨g', ?_, a, fun j h7 h8 => f.1 j (by omega), f.2⟩
        rw [eM g hS, does_4, decide_eq_true ht, b2_t, if_neg one0, if_neg (fun e => xb e), e]
        simp only [ob_eq]
    · refine cmd_no ok (fun g hH hS => ?_) (fun g hS => ?_)
      · rw [eC, if_pos ((nI_z (by omega)).mpr hb.1), if_pos ((nI_z (by omega)).mpr hb.2)]
        unfold f_X3_givesUp
        rw [c_hasT hS ok q1, decide_eq_false ht]
        simp only [ob_eq]
        rw [b2_f, if_pos zero0]
        simp only [ob_eq]
        rw [if_pos trivial]
      · rw [eM g hS, does_4, decide_eq_false ht, b2_f, if_pos zero0]
  · refine cmd_no ok (fun g hH hS => ?_) (fun g hS => ?_)
    · rw [eC]
      by_cases hp : p = 0
      · rw [if_pos ((nI_z (by omega)).mpr hp), if_neg (fun e => hb ⟨hp, (nI_z (by omega)).mp e⟩)]
      · rw [if_neg (fun e => hp ((nI_z (by omega)).mp e))]
    · rw [eM g hS, does_4, if_pos ((b2_and _ _).mpr (fun e => hb ⟨of_decide_eq_true e.1, of_decide_eq_true e.2⟩))]
      by_cases hx : b2 (decide (t < T.length)) = (0 : Int32)
      · rw [if_pos hx]
      · rw [if_neg hx]
theorem cmd_5 (ok : okS n (X, Y, E, T)) (h2 : 2 ≤ n) (hn : n ≤ 10) (hc : c < 10000) (hk : c / 1000 = 5) : cmdOK n hm (X, Y, E, T) c := by
  have hT : T.length ≤ 4 := ok.2.1
  have q1 : c / 100 % 10 < 10 := by omega
  have q2 : c / 10 % 10 < 10 := by omega
  have q3 : c % 10 < 10 := by omega
  have eC := fun g => succ_5 (c := c) hc hk g
  have eM := fun (g : gG) (h : mS (g.1 184) n hm (X, Y, E, T)) => does_T (k := 5) hc hk h hn ok
  generalize c / 100 % 10 = t at *
  generalize c / 10 % 10 = p at *
  generalize c % 10 = z at *
  by_cases hz : z = 0
  · by_cases hpt : t < T.length ∧ p < n
    · obtain ⟨ht, hp⟩ := hpt
      obtain ⟨tm, htm⟩ := get_lt ht
      have h1 := ok_get ok htm
      have hsl : safe n (effH hm E) (setOf tm.1) < 2 ^ n := msk_lt _ _
      have hsl10 := lt1024 hsl hn
      refine ⟨(safe n (effH hm E) (setOf tm.1)).testBit p, (X, Y, E, T), ok, fun g hH hS => ?_, fun g hS => ?_⟩
      · obtain ⟨g1, e, f⟩ := c_safeFor (k := 165) hH h2 hn hS ok htm
        refine ⟨g1, ?_, cS_fr hS f (by omega), f.wd (by decide) (by decide)⟩
        have eS : f_X3_isSafe (nI t) (nI p) g = some (b2 ((safe n (effH hm E) (setOf tm.1)).testBit p), g1) := by
          unfold f_X3_isSafe
          rw [c_hasT hS ok q1, decide_eq_true ht]
          simp only [ob_eq]
          rw [b2_t, if_neg one0, c_hasP hH hn q2, decide_eq_true hp]
          simp only [ob_eq]
          rw [b2_t, if_neg one0, e]
          simp only [ob_eq]
          rw [c_isIn (by omega) (by omega)]
          simp only [ob_eq]
          cases (safe n (effH hm E) (setOf tm.1)).testBit p with
          | true => rw [b2_t, if_neg one0]
          | false => rw [b2_f, if_pos zero0]
        rw [eC, if_pos ((nI_z (by omega)).mpr hz), eS]
        simp only [ob_eq]
        cases (safe n (effH hm E) (setOf tm.1)).testBit p with
        | true => rw [b2_t, if_neg one0]
        | false => rw [b2_f, if_pos zero0]
      · obtain ⟨g1, e, f⟩ := m_safe (g := g) (r := 184) h2 hn (by decide) hS ok htm
        refine ⟨g1, ?_, by rw [f.1 184 (by omega)]; exact hS, fun j h7 h8 => f.1 j (by omega), f.2⟩
        rw [eM g hS, does_5, if_neg (fun e => (b2_and _ _).mp e ⟨decide_eq_true ht, by rw [decide_eq_true hp, decide_eq_true hz]; rfl⟩), e]
        simp only [ob_eq]
        rw [m_has (by omega)]
        simp only [ob_eq]
        show (if b2 ((safe n (effH hm E) (setOf tm.1)).testBit p) = (0 : Int32) then _ else _) = _
        cases (safe n (effH hm E) (setOf tm.1)).testBit p with
        | true => rw [b2_t, if_neg one0]
        | false => rw [b2_f, if_pos zero0]
    · refine cmd_no ok (fun g hH hS => ?_) (fun g hS => ?_)
      · have eS : f_X3_isSafe (nI t) (nI p) g = some (0, g) := by
          unfold f_X3_isSafe
          rw [c_hasT hS ok q1]
          simp only [ob_eq]
          by_cases ht : t < T.length
          · rw [decide_eq_true ht, b2_t, if_neg one0, c_hasP hH hn q2, decide_eq_false (fun e => hpt ⟨ht, e⟩)]
            simp only [ob_eq]
            rw [b2_f, if_pos zero0]
          · rw [decide_eq_false ht, b2_f, if_pos zero0]
        rw [eC, if_pos ((nI_z (by omega)).mpr hz), eS]
        simp only [ob_eq]
        rw [if_pos trivial]
      · rw [eM g hS, does_5, if_pos ((b2_and _ _).mpr (fun e => hpt ⟨of_decide_eq_true e.1, of_decide_eq_true (Bool.and_eq_true_iff.mp e.2).1⟩))]
  · refine cmd_no ok (fun g hH hS => ?_) (fun g hS => ?_)
    · rw [eC, if_neg (fun e => hz ((nI_z (by omega)).mp e))]
    · rw [eM g hS, does_5, if_pos ((b2_and _ _).mpr (fun e => hz (of_decide_eq_true (Bool.and_eq_true_iff.mp e.2).2)))]
theorem cmd_6 (ok : okS n (X, Y, E, T)) (h2 : 2 ≤ n) (hn : n ≤ 10) (hc : c < 10000) (hk : c / 1000 = 6) : cmdOK n hm (X, Y, E, T) c := by
  have hT : T.length ≤ 4 := ok.2.1
  have q1 : c / 100 % 10 < 10 := by omega
  have eC := fun g => succ_6 (c := c) hc hk g
  have eM := fun (g : gG) (h : mS (g.1 184) n hm (X, Y, E, T)) => does_T (k := 6) hc hk h hn ok
  generalize c / 100 % 10 = t at *
  generalize c / 10 % 10 = p at *
  generalize c % 10 = z at *
  by_cases ht : t < T.length
  · obtain ⟨tm, htm⟩ := get_lt ht
    have h1 := ok_get ok htm
    have xC : ∀ g, cH g n hm → cS g 165 (X, Y, E, T) → f_X3_succeeds (nI c) g = if (((10 : Int32) * nI p) + nI z) < tm.2.1 then some (0, g) else some (1, g) := by
      intro g hH hS
      rw [eC, c_hasT hS ok q1, decide_eq_true ht]
      simp only [ob_eq]
      rw [b2_t, if_neg one0, c_minutesOf hS ok htm]
      simp only [ob_eq]
    have xM : ∀ g, mS (g.1 184) n hm (X, Y, E, T) → f_X10_does (nI c) g = if (((10 : Int32) * nI p) + nI z) < tm.2.1 then some (0, g) else some (1, g) := by
      intro g hS
      rw [eM g hS, does_6, decide_eq_true ht, b2_t, if_neg one0, show f_X10_cell (nI t) (1 : Int32) g = _ from m_cell t 1 g]
      simp only [ob_eq]
      rw [if_pos (inb_nI (by omega) (by decide)), nI_clamp (by omega), show 342 + 13 * t + 1 = 343 + 13 * t by omega, (hS.2.2.2 t tm htm).2.1]
    by_cases hx : (((10 : Int32) * nI p) + nI z) < tm.2.1
    · refine cmd_no ok (fun g hH hS => ?_) (fun g hS => ?_)
      · rw [xC g hH hS, if_pos hx]
      · rw [xM g hS, if_pos hx]
    · refine ⟨true, (X, Y, E, T), ok, fun g hH hS => ⟨g, ?_, hS, frm.rf⟩, fun g hS => ⟨g, ?_, hS, fun j _ _ => rfl, rfl⟩⟩
      · rw [xC g hH hS, if_neg hx]; rfl
      · rw [xM g hS, if_neg hx]; rfl
  · refine cmd_no ok (fun g hH hS => ?_) (fun g hS => ?_)
    · rw [eC, c_hasT hS ok q1, decide_eq_false ht]
      simp only [ob_eq]
      rw [b2_f, if_pos zero0]
    · rw [eM g hS, does_6, decide_eq_false ht, b2_f, if_pos zero0]
theorem okS_put {p a b : Nat} (ok : okS n (X, Y, E, T)) (ha : a ≤ 9) (hb : b ≤ 9) : okS n (fun q => if q = p then a else X q, fun q => if q = p then b else Y q, E, T) := by
  refine ⟨ok.1, ok.2.1, fun q hq => ?_, ok.2.2.2⟩
  have h3 := ok.2.2.1 q hq
  show (if q = p then a else X q) ≤ 9 ∧ (if q = p then b else Y q) ≤ 9
  by_cases e : q = p
  · rw [if_pos e, if_pos e]; exact ⟨ha, hb⟩
  · rw [if_neg e, if_neg e]; exact h3
theorem cmd_7 (ok : okS n (X, Y, E, T)) (h2 : 2 ≤ n) (hn : n ≤ 10) (hc : c < 10000) (hk : c / 1000 = 7) : cmdOK n hm (X, Y, E, T) c := by
  have q1 : c / 100 % 10 < 10 := by omega
  have q2 : c / 10 % 10 < 10 := by omega
  have q3 : c % 10 < 10 := by omega
  have eC := fun g => succ_7 (c := c) hc hk g
  have eM := fun (g : gG) (h : mS (g.1 184) n hm (X, Y, E, T)) => does_T (k := 7) hc hk h hn ok
  generalize c / 100 % 10 = t at *
  generalize c / 10 % 10 = p at *
  generalize c % 10 = z at *
  by_cases ht : t < n
  · refine ⟨true, (fun q => if q = t then p else X q, fun q => if q = t then z else Y q, E, T), okS_put ok (by omega) (by omega), fun g hH hS => ?_, fun g hS => ?_⟩
    · obtain ⟨g', e, a, f⟩ := c_put (k := 165) hH hn hS (by decide) (a := p) (b := z) ht
      refine ⟨g', ?_, a, f.wd (by decide) (by decide)⟩
      rw [eC]
      unfold f_X3_moves
      rw [c_hasP hH hn q1, decide_eq_true ht]
      simp only [ob_eq]
      rw [b2_t, if_neg one0, e]
      simp only [ob_eq]
      rw [if_pos (by decide)]
    · have q := m_put (r := 184) hn hS ht p z
      refine ⟨gI1 (gI1 g 184 (2 + 2 * t) (nI p)) 184 (3 + 2 * t) (nI z), ?_, q, fun j h7 h8 => by rw [gI1_1, if_neg h7, gI1_1, if_neg h7], rfl⟩
      have ei : (2 : Int32) + (2 : Int32) * nI t = nI (2 + 2 * t) := by
        show nI 2 + nI 2 * nI t = _
        rw [pk_mul, nI_add]
      rw [eM g hS, does_7, decide_eq_true ht, b2_t, if_neg one0, ei, nI_1, inb_nI (show 2 + 2 * t < 394 by omega) (by decide), inb_nI (show 2 + 2 * t + 1 < 394 by omega) (by decide)]
      simp only [if_true, gl_eq, nI_clamp (n := 2 + 2 * t) (show 2 + 2 * t < 2 ^ 31 by omega), nI_clamp (n := 2 + 2 * t + 1) (show 2 + 2 * t + 1 < 2 ^ 31 by omega)]
      rw [show 2 + 2 * t + 1 = 3 + 2 * t by omega]
  · refine cmd_no ok (fun g hH hS => ?_) (fun g hS => ?_)
    · rw [eC]
      unfold f_X3_moves
      rw [c_hasP hH hn q1, decide_eq_false ht]
      simp only [ob_eq]
      rw [b2_f, if_pos zero0]
      simp only [ob_eq]
      rw [if_pos (by decide)]
    · rw [eM g hS, does_7, decide_eq_false ht, b2_f, if_pos zero0]
theorem cmd_8 (ok : okS n (X, Y, E, T)) (h2 : 2 ≤ n) (hn : n ≤ 10) (hc : c < 10000) (hk : c / 1000 = 8) : cmdOK n hm (X, Y, E, T) c := by
  have q1 : c / 100 % 10 < 10 := by omega
  have q2 : c / 10 % 10 < 10 := by omega
  have q3 : c % 10 < 10 := by omega
  have eC := fun g => succ_8 (c := c) hc hk g
  have eM := fun (g : gG) (h : mS (g.1 184) n hm (X, Y, E, T)) => does_T (k := 8) hc hk h hn ok
  generalize c / 100 % 10 = t at *
  generalize c / 10 % 10 = p at *
  generalize c % 10 = z at *
  by_cases hb : p = 0 ∧ z = 0
  · have xb : (b2 (decide (p = 0) && decide (z = 0)) = (0 : Int32)) → False := fun e => (b2_and _ _).mp e ⟨decide_eq_true hb.1, decide_eq_true hb.2⟩
    by_cases ht : t < n
    · refine ⟨true, (X, Y, E ||| 2 ^ t, T), ⟨or_lt ok.1 ht, ok.2⟩, fun g hH hS => ?_, fun g hS => ?_⟩
      · obtain ⟨g', e, a, f⟩ := c_makeEasy (k := 165) hH hn hS (by decide) ht
        refine ⟨g', ?_, a, f.wd (by decide) (by decide)⟩
        rw [eC, if_pos ((nI_z (by omega)).mpr hb.1), if_pos ((nI_z (by omega)).mpr hb.2)]
        unfold f_X3_eases
        rw [c_hasP hH hn q1, decide_eq_true ht]
        simp only [ob_eq]
        rw [b2_t, if_neg one0, e]
        simp only [ob_eq]
        rw [if_neg one0]
      · obtain ⟨g', e, a, f⟩ := m_easy (r := 184) hn hS ok ht
        refine ⟨g', ?_, a, fun j h7 h8 => f.1 j (by omega), f.2⟩
        rw [eM g hS, does_8, decide_eq_true ht, b2_t, if_neg one0, if_neg (fun e => xb e), e]
        simp only [ob_eq]
    · refine cmd_no ok (fun g hH hS => ?_) (fun g hS => ?_)
      · rw [eC, if_pos ((nI_z (by omega)).mpr hb.1), if_pos ((nI_z (by omega)).mpr hb.2)]
        unfold f_X3_eases
        rw [c_hasP hH hn q1, decide_eq_false ht]
        simp only [ob_eq]
        rw [b2_f, if_pos zero0]
        simp only [ob_eq]
        rw [if_pos trivial]
      · rw [eM g hS, does_8, decide_eq_false ht, b2_f, if_pos zero0]
  · refine cmd_no ok (fun g hH hS => ?_) (fun g hS => ?_)
    · rw [eC]
      by_cases hp : p = 0
      · rw [if_pos ((nI_z (by omega)).mpr hp), if_neg (fun e => hb ⟨hp, (nI_z (by omega)).mp e⟩)]
      · rw [if_neg (fun e => hp ((nI_z (by omega)).mp e))]
    · rw [eM g hS, does_8, if_pos ((b2_and _ _).mpr (fun e => hb ⟨of_decide_eq_true e.1, of_decide_eq_true e.2⟩))]
      by_cases hx : b2 (decide (t < n)) = (0 : Int32)
      · rw [if_pos hx]
      · rw [if_neg hx]
theorem cmd_9 (ok : okS n (X, Y, E, T)) (h2 : 2 ≤ n) (hn : n ≤ 10) (hc : c < 10000) (hk : c / 1000 = 9) : cmdOK n hm (X, Y, E, T) c := by
  have hT : T.length ≤ 4 := ok.2.1
  have q1 : c / 100 % 10 < 10 := by omega
  have q2 : c / 10 % 10 < 10 := by omega
  have q3 : c % 10 < 10 := by omega
  have eC := fun g => succ_9 (c := c) hc hk g
  have eM := fun (g : gG) (h : mS (g.1 184) n hm (X, Y, E, T)) => does_T (k := 9) hc hk h hn ok
  generalize c / 100 % 10 = t at *
  generalize c / 10 % 10 = p at *
  generalize c % 10 = z at *
  by_cases hz : z = 0
  · by_cases ht : t < T.length
    · obtain ⟨tm, htm⟩ := get_lt ht
      have h1 := ok_get ok htm
      have xC : ∀ g, cH g n hm → cS g 165 (X, Y, E, T) → f_X3_succeeds (nI c) g = if nI tm.1.length < nI p then some (0, g) else some (1, g) := by
        intro g hH hS
        rw [eC, if_pos ((nI_z (by omega)).mpr hz), c_hasT hS ok q1, decide_eq_true ht]
        simp only [ob_eq]
        rw [b2_t, if_neg one0, c_visitsOf hS ok htm]
        simp only [ob_eq]
      have xM : ∀ g, mS (g.1 184) n hm (X, Y, E, T) → f_X10_does (nI c) g = if nI tm.1.length < nI p then some (0, g) else some (1, g) := by
        intro g hS
        rw [eM g hS, does_9, decide_eq_true ht, b2_t, if_neg one0, if_pos ((nI_z (by omega)).mpr hz), show f_X10_cell (nI t) (0 : Int32) g = _ from m_cell t 0 g]
        simp only [ob_eq]
        rw [if_pos (inb_nI (by omega) (by decide)), nI_clamp (by omega), Nat.add_zero, (hS.2.2.2 t tm htm).1]
      by_cases hx : nI tm.1.length < nI p
      · refine cmd_no ok (fun g hH hS => ?_) (fun g hS => ?_)
        · rw [xC g hH hS, if_pos hx]
        · rw [xM g hS, if_pos hx]
      · refine ⟨true, (X, Y, E, T), ok, fun g hH hS => ⟨g, ?_, hS, frm.rf⟩, fun g hS => ⟨g, ?_, hS, fun j _ _ => rfl, rfl⟩⟩
        · rw [xC g hH hS, if_neg hx]; rfl
        · rw [xM g hS, if_neg hx]; rfl
    · refine cmd_no ok (fun g hH hS => ?_) (fun g hS => ?_)
      · rw [eC, if_pos ((nI_z (by omega)).mpr hz), c_hasT hS ok q1, decide_eq_false ht]
        simp only [ob_eq]
        rw [b2_f, if_pos zero0]
      · rw [eM g hS, does_9, decide_eq_false ht, b2_f, if_pos zero0]
  · refine cmd_no ok (fun g hH hS => ?_) (fun g hS => ?_)
    · rw [eC, if_neg (fun e => hz ((nI_z (by omega)).mp e))]
    · rw [eM g hS, does_9, if_neg (fun e => hz ((nI_z (by omega)).mp e))]
      by_cases hx : b2 (decide (t < T.length)) = (0 : Int32)
      · rw [if_pos hx]
      · rw [if_neg hx]
theorem cmd_all {S : aS} (ok : okS n S) (h2 : 2 ≤ n) (hn : n ≤ 10) (hc : c < 10000) : cmdOK n hm S c := by
  obtain ⟨X, Y, E, T⟩ := S
  have hd : c / 1000 = 0 ∨ c / 1000 = 1 ∨ c / 1000 = 2 ∨ c / 1000 = 3 ∨ c / 1000 = 4 ∨ c / 1000 = 5 ∨ c / 1000 = 6 ∨ c / 1000 = 7 ∨ c / 1000 = 8 ∨ c / 1000 = 9 := by omega
  rcases hd with h | h | h | h | h | h | h | h | h | h
  · exact cmd_no ok (fun g _ _ => succ_0 hc h g) (fun g hS => (does_eq hc hS hn ok).trans (by rw [h]; exact does_0 _ _ _ _ _ _ _ _ g))
  · exact cmd_1 ok h2 hn hc h
  · exact cmd_2 ok h2 hn hc h
  · exact cmd_3 ok h2 hn hc h
  · exact cmd_4 ok h2 hn hc h
  · exact cmd_5 ok h2 hn hc h
  · exact cmd_6 ok h2 hn hc h
  · exact cmd_7 ok h2 hn hc h
  · exact cmd_8 ok h2 hn hc h
  · exact cmd_9 ok h2 hn hc h
end CMD
