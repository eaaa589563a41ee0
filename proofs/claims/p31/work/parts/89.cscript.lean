/-! PURE: scripts, of the class alone. -/
section CMK
variable {n : Nat} {hm : Nat → Nat} {X Y : Nat → Nat} {E : Nat} {T : List aT} {c : Nat}
def cmdK (n : Nat) (hm : Nat → Nat) (S : aS) (c : Nat) : Prop := ∃ B S', okS n S' ∧ cmdC n hm S c B S'
theorem cmk_no {S : aS} (ok : okS n S) (h1 : ∀ g, cH g n hm → cS g 165 S → f_X3_succeeds (nI c) g = some (0, g)) : cmdK n hm S c := ⟨false, S, ok, fun g a b => ⟨g, h1 g a b, b, frm.rf⟩⟩
theorem cmk_1 (ok : okS n (X, Y, E, T)) (h2 : 2 ≤ n) (hn : n ≤ 10) (hc : c < 10000) (hk : c / 1000 = 1) : cmdK n hm (X, Y, E, T) c := by
  have hT : T.length ≤ 4 := ok.2.1
  have q1 : c / 100 % 10 < 10 := by omega
  have q2 : c / 10 % 10 < 10 := by omega
  have q3 : c % 10 < 10 := by omega
  have eC := fun g => succ_1 (c := c) hc hk g
  generalize c / 100 % 10 = t at *
  generalize c / 10 % 10 = p at *
  generalize c % 10 = z at *
  by_cases hz : z = 0
  · by_cases hpt : t < T.length ∧ p < n
    · obtain ⟨ht, hp⟩ := hpt
      obtain ⟨tm, htm⟩ := get_lt ht
      have h1 := ok_get ok htm
      have hs := setOf_lt h1.1.2
      have h10 := lt1024 hs hn
      have xC : ∀ g, cH g n hm → cS g 165 (X, Y, E, T) → f_X3_succeeds (nI c) g = (f_X3_visits (nI t) (nI p) g).bind (fun u6 => if u6.1 = (0 : Int32) then (some ((0 : Int32), u6.2)) else (some ((1 : Int32), u6.2))) := by
        intro g hH hS
        rw [eC, if_pos ((nI_z (by omega)).mpr hz)]
      cases hv : canV n (effH hm E) (setOf tm.1) p with
      | false =>
        refine cmk_no ok (fun g hH hS => ?_)
        · rw [xC g hH hS]
          unfold f_X3_visits
          rw [c_canVisit hH h2 hn hS ok htm hp, hv]
          simp only [ob_eq]
          rw [b2_f, if_pos zero0]
          simp only [ob_eq]
          rw [if_pos trivial]
      | true =>
        refine ⟨true, (X, Y, E, T.set t (tm.1 ++ [p], tm.2.1 + nI (mns (X, Y, E, T) tm.1.getLast? p), tm.2.2)), okS_set1 ok (okT_app h1.1 hp (canV_bit hv) _ _), fun g hH hS => ?_⟩
        · obtain ⟨g', e, a, f⟩ := c_visit (k := 165) hH h2 hn hS ok (by decide) htm hp hv
          refine ⟨g', ?_, a, f.wd (by decide) (by decide)⟩
          rw [xC g hH hS]
          unfold f_X3_visits
          rw [c_canVisit hH h2 hn hS ok htm hp, hv]
          simp only [ob_eq]
          rw [b2_t, if_neg one0, e]
          simp only [ob_eq]
          rw [if_neg one0]
    · refine cmk_no ok (fun g hH hS => ?_)
      · rw [eC, if_pos ((nI_z (by omega)).mpr hz)]
        unfold f_X3_visits
        rw [c_canV_no hH hn hS ok q1 q2 hpt]
        simp only [ob_eq]
        rw [if_pos trivial]
        simp only [ob_eq]
        rw [if_pos trivial]
  · refine cmk_no ok (fun g hH hS => ?_)
    · rw [eC, if_neg (fun e => hz ((nI_z (by omega)).mp e))]
theorem cmk_2 (ok : okS n (X, Y, E, T)) (h2 : 2 ≤ n) (hn : n ≤ 10) (hc : c < 10000) (hk : c / 1000 = 2) : cmdK n hm (X, Y, E, T) c := by
  have hT : T.length ≤ 4 := ok.2.1
  have q1 : c / 100 % 10 < 10 := by omega
  have q2 : c / 10 % 10 < 10 := by omega
  have q3 : c % 10 < 10 := by omega
  have eC := fun g => succ_2 (c := c) hc hk g
  generalize c / 100 % 10 = t at *
  generalize c / 10 % 10 = p at *
  generalize c % 10 = z at *
  by_cases hb : p = 0 ∧ z = 0
  · have xb : (b2 (decide (p = 0) && decide (z = 0)) = (0 : Int32)) → False := fun e => (b2_and _ _).mp e ⟨decide_eq_true hb.1, decide_eq_true hb.2⟩
    by_cases ht : t < T.length
    · obtain ⟨tm, htm⟩ := get_lt ht
      have h1 := ok_get ok htm
      have hs := setOf_lt h1.1.2
      have h10 := lt1024 hs hn
      have hlen := okT_len h1.1
      have hsl : safe n (effH hm E) (setOf tm.1) < 2 ^ n := msk_lt _ _
      have hsl10 := lt1024 hsl hn
      have xC : ∀ g, cH g n hm → cS g 165 (X, Y, E, T) → ∃ g1, frm 157 162 g g1 ∧ f_X3_succeeds (nI c) g = (if nI (safe n (effH hm E) (setOf tm.1)) = (0 : Int32) then some (0, g1) else ((f_X5_countHint 165 (nI t) g1).bind (fun u5 => some ((1 : Int32), u5.2))).bind (fun u11 => if u11.1 = (0 : Int32) then (some ((0 : Int32), u11.2)) else (some ((1 : Int32), u11.2)))) := by
        intro g hH hS
        obtain ⟨g1, e, f⟩ := c_safeFor (k := 165) hH h2 hn hS ok htm
        refine ⟨g1, f, ?_⟩
        rw [eC, if_pos ((nI_z (by omega)).mpr hb.1), if_pos ((nI_z (by omega)).mpr hb.2)]
        unfold f_X3_getsHint
        rw [c_hasT hS ok q1, decide_eq_true ht]
        simp only [ob_eq]
        rw [b2_t, if_neg one0, e]
        simp only [ob_eq]
        by_cases hz : nI (safe n (effH hm E) (setOf tm.1)) = (0 : Int32)
        · rw [if_pos hz, if_pos hz]
          simp only [ob_eq]
          rw [if_pos trivial]
        · rw [if_neg hz, if_neg hz]
      by_cases hz : nI (safe n (effH hm E) (setOf tm.1)) = (0 : Int32)
      · refine ⟨false, (X, Y, E, T), ok, fun g hH hS => ?_⟩
        · obtain ⟨g1, f, e⟩ := xC g hH hS
          rw [if_pos hz] at e
          exact ⟨g1, e, cS_fr hS f (by omega), f.wd (by decide) (by decide)⟩
      · refine ⟨true, (X, Y, E, T.set t (tm.1, tm.2.1, tm.2.2 + 1)), okS_set1 ok h1.1, fun g hH hS => ?_⟩
        · obtain ⟨g1, f, e⟩ := xC g hH hS
          rw [if_neg hz] at e
          obtain ⟨g2, e2, a2, f2⟩ := c_countHint (k := 165) (cS_fr hS f (by omega)) ok htm
          refine ⟨g2, ?_, a2, (f.wd (by decide) (by decide)).tr (f2.wd (by decide) (by decide))⟩
          rw [e, e2]
          simp only [ob_eq]
          rw [if_neg one0]; rfl
    · refine cmk_no ok (fun g hH hS => ?_)
      · rw [eC, if_pos ((nI_z (by omega)).mpr hb.1), if_pos ((nI_z (by omega)).mpr hb.2)]
        unfold f_X3_getsHint
        rw [c_hasT hS ok q1, decide_eq_false ht]
        simp only [ob_eq]
        rw [b2_f, if_pos zero0]
        simp only [ob_eq]
        rw [if_pos trivial]
  · refine cmk_no ok (fun g hH hS => ?_)
    · rw [eC]
      by_cases hp : p = 0
      · rw [if_pos ((nI_z (by omega)).mpr hp), if_neg (fun e => hb ⟨hp, (nI_z (by omega)).mp e⟩)]
      · rw [if_neg (fun e => hp ((nI_z (by omega)).mp e))]
theorem cmk_3 (ok : okS n (X, Y, E, T)) (h2 : 2 ≤ n) (hn : n ≤ 10) (hc : c < 10000) (hk : c / 1000 = 3) : cmdK n hm (X, Y, E, T) c := by
  have hT : T.length ≤ 4 := ok.2.1
  have c1 : (1 : Int32).toNatClampNeg = 1 := by decide
  have eC := fun g => succ_3 (c := c) hc hk g
  by_cases h3 : c = 3000
  · have xC : ∀ g, f_X3_succeeds (nI c) g = (f_X3_enrols g).bind (fun u17 => if u17.1 = (0 : Int32) then (some ((0 : Int32), u17.2)) else (some ((1 : Int32), u17.2))) := by
      intro g
      rw [eC, if_pos ((nI_z (by omega)).mpr (by omega)), if_pos ((nI_z (by omega)).mpr (by omega)), if_pos ((nI_z (by omega)).mpr (by omega))]
    by_cases h4 : T.length = 4
    · refine cmk_no ok (fun g hH hS => ?_)
      · rw [xC]
        unfold f_X3_enrols f_X5_hasRoom
        rw [show g.1 165 9 = nI T.length from hS.2.1, h4, if_pos (by decide)]
        simp only [ob_eq]
        rw [if_pos trivial]
        simp only [ob_eq]
        rw [if_pos trivial]
    · refine ⟨true, (X, Y, E, T ++ [([], 0, 0)]), ?_, fun g hH hS => ?_⟩
      · refine okS_T ok (by rw [List.length_append]; show T.length + 1 ≤ 4; omega) ?_
        intro tm htm
        rcases List.mem_append.mp htm with h | h
        · exact ok.2.2.2 tm h
        · rw [List.mem_singleton.mp h]
          exact ⟨List.nodup_nil, fun p hp => by simp at hp⟩
      · obtain ⟨g', e, a, f⟩ := c_enrol (k := 165) hS (by omega)
        refine ⟨g', ?_, a, f.wd (by decide) (by decide)⟩
        rw [xC]
        unfold f_X3_enrols f_X5_hasRoom
        rw [show g.1 165 9 = nI T.length from hS.2.1, if_neg (show ¬ ((4 : Int32) ≤ nI T.length) from nI_ge (b := 4) (by omega) (by decide))]
        simp only [ob_eq]
        rw [if_neg one0, e]
        simp only [ob_eq]
        rw [if_neg one0]; rfl
  · refine cmk_no ok (fun g hH hS => ?_)
    · rw [eC]
      by_cases a1 : c / 100 % 10 = 0
      · by_cases a2 : c / 10 % 10 = 0
        · rw [if_pos ((nI_z (by omega)).mpr a1), if_pos ((nI_z (by omega)).mpr a2), if_neg (fun e => h3 (by have := (nI_z (by omega)).mp e; omega))]
        · rw [if_pos ((nI_z (by omega)).mpr a1), if_neg (fun e => a2 ((nI_z (by omega)).mp e))]
      · rw [if_neg (fun e => a1 ((nI_z (by omega)).mp e))]
theorem cmk_4 (ok : okS n (X, Y, E, T)) (h2 : 2 ≤ n) (hn : n ≤ 10) (hc : c < 10000) (hk : c / 1000 = 4) : cmdK n hm (X, Y, E, T) c := by
  have hT : T.length ≤ 4 := ok.2.1
  have q1 : c / 100 % 10 < 10 := by omega
  have q2 : c / 10 % 10 < 10 := by omega
  have q3 : c % 10 < 10 := by omega
  have eC := fun g => succ_4 (c := c) hc hk g
  generalize c / 100 % 10 = t at *
  generalize c / 10 % 10 = p at *
  generalize c % 10 = z at *
  by_cases hb : p = 0 ∧ z = 0
  · have xb : (b2 (decide (p = 0) && decide (z = 0)) = (0 : Int32)) → False := fun e => (b2_and _ _).mp e ⟨decide_eq_true hb.1, decide_eq_true hb.2⟩
    by_cases ht : t < T.length
    · refine ⟨true, (X, Y, E, T.eraseIdx t), ?_, fun g hH hS => ?_⟩
      · refine okS_T ok (by rw [List.length_eraseIdx_of_lt ht]; omega) ?_
        intro tm htm
        exact ok.2.2.2 tm (List.mem_of_mem_eraseIdx htm)
      · obtain ⟨g', e, a, f⟩ := c_dismiss (k := 165) hS ok hn ht
        refine ⟨g', ?_, a, f.wd (by decide) (by decide)⟩
        rw [eC, if_pos ((nI_z (by omega)).mpr hb.1), if_pos ((nI_z (by omega)).mpr hb.2)]
        unfold f_X3_givesUp
        rw [c_hasT hS ok q1, decide_eq_true ht]
        simp only [ob_eq]
        rw [b2_t, if_neg one0, e]
        simp only [ob_eq]
        rw [if_neg one0]
    · refine cmk_no ok (fun g hH hS => ?_)
      · rw [eC, if_pos ((nI_z (by omega)).mpr hb.1), if_pos ((nI_z (by omega)).mpr hb.2)]
        unfold f_X3_givesUp
        rw [c_hasT hS ok q1, decide_eq_false ht]
        simp only [ob_eq]
        rw [b2_f, if_pos zero0]
        simp only [ob_eq]
        rw [if_pos trivial]
  · refine cmk_no ok (fun g hH hS => ?_)
    · rw [eC]
      by_cases hp : p = 0
      · rw [if_pos ((nI_z (by omega)).mpr hp), if_neg (fun e => hb ⟨hp, (nI_z (by omega)).mp e⟩)]
      · rw [if_neg (fun e => hp ((nI_z (by omega)).mp e))]
theorem cmk_5 (ok : okS n (X, Y, E, T)) (h2 : 2 ≤ n) (hn : n ≤ 10) (hc : c < 10000) (hk : c / 1000 = 5) : cmdK n hm (X, Y, E, T) c := by
  have hT : T.length ≤ 4 := ok.2.1
  have q1 : c / 100 % 10 < 10 := by omega
  have q2 : c / 10 % 10 < 10 := by omega
  have q3 : c % 10 < 10 := by omega
  have eC := fun g => succ_5 (c := c) hc hk g
  generalize c / 100 % 10 = t at *
  generalize c / 10 % 10 = p at *
  generalize c % 10 = z at *
  by_cases hz : z = 0
  · by_cases hpt : t < T.length ∧ p < n
    · obtain ⟨ht, hp⟩ := hpt
      obtain ⟨tm, htm⟩ := get_lt ht
      have h1 := ok_get ok htm
      have hsl : safe n (effH hm E) (setOf tm.1) < 2 ^ n := msk_lt _ _
      have hsl10 := lt1024 hsl hn
      refine ⟨(safe n (effH hm E) (setOf tm.1)).testBit p, (X, Y, E, T), ok, fun g hH hS => ?_⟩
      · obtain ⟨g1, e, f⟩ := c_safeFor (k := 165) hH h2 hn hS ok htm
        refine ⟨g1, ?_, cS_fr hS f (by omega), f.wd (by decide) (by decide)⟩
        have eS : f_X3_isSafe (nI t) (nI p) g = some (b2 ((safe n (effH hm E) (setOf tm.1)).testBit p), g1) := by
          unfold f_X3_isSafe
          rw [c_hasT hS ok q1, decide_eq_true ht]
          simp only [ob_eq]
          rw [b2_t, if_neg one0, c_hasP hH hn q2, decide_eq_true hp]
          simp only [ob_eq]
          rw [b2_t, if_neg one0, e]
          simp only [ob_eq]
          rw [c_isIn (by omega) (by omega)]
          simp only [ob_eq]
          cases (safe n (effH hm E) (setOf tm.1)).testBit p with
          | true => rw [b2_t, if_neg one0]
          | false => rw [b2_f, if_pos zero0]
        rw [eC, if_pos ((nI_z (by omega)).mpr hz), eS]
        simp only [ob_eq]
        cases (safe n (effH hm E) (setOf tm.1)).testBit p with
        | true => rw [b2_t, if_neg one0]
        | false => rw [b2_f, if_pos zero0]
    · refine cmk_no ok (fun g hH hS => ?_)
      · have eS : f_X3_isSafe (nI t) (nI p) g = some (0, g) := by
          unfold f_X3_isSafe
          rw [c_hasT hS ok q1]
          simp only [ob_eq]
          by_cases ht : t < T.length
          · rw [decide_eq_true ht, b2_t, if_neg one0, c_hasP hH hn q2, decide_eq_false (fun e => hpt ⟨ht, e⟩)]
            simp only [ob_eq]
            rw [b2_f, if_pos zero0]
          · rw [decide_eq_false ht, b2_f, if_pos zero0]
        rw [eC, if_pos ((nI_z (by omega)).mpr hz), eS]
        simp only [ob_eq]
        rw [if_pos trivial]
  · refine cmk_no ok (fun g hH hS => ?_)
    · rw [eC, if_neg (fun e => hz ((nI_z (by omega)).mp e))]
theorem cmk_6 (ok : okS n (X, Y, E, T)) (h2 : 2 ≤ n) (hn : n ≤ 10) (hc : c < 10000) (hk : c / 1000 = 6) : cmdK n hm (X, Y, E, T) c := by
  have hT : T.length ≤ 4 := ok.2.1
  have q1 : c / 100 % 10 < 10 := by omega
  have eC := fun g => succ_6 (c := c) hc hk g
  generalize c / 100 % 10 = t at *
  generalize c / 10 % 10 = p at *
  generalize c % 10 = z at *
  by_cases ht : t < T.length
  · obtain ⟨tm, htm⟩ := get_lt ht
    have h1 := ok_get ok htm
    have xC : ∀ g, cH g n hm → cS g 165 (X, Y, E, T) → f_X3_succeeds (nI c) g = if (((10 : Int32) * nI p) + nI z) < tm.2.1 then some (0, g) else some (1, g) := by
      intro g hH hS
      rw [eC, c_hasT hS ok q1, decide_eq_true ht]
      simp only [ob_eq]
      rw [b2_t, if_neg one0, c_minutesOf hS ok htm]
      simp only [ob_eq]
    by_cases hx : (((10 : Int32) * nI p) + nI z) < tm.2.1
    · refine cmk_no ok (fun g hH hS => ?_)
      · rw [xC g hH hS, if_pos hx]
    · refine ⟨true, (X, Y, E, T), ok, fun g hH hS => ⟨g, ?_, hS, frm.rf⟩⟩
      · rw [xC g hH hS, if_neg hx]; rfl
  · refine cmk_no ok (fun g hH hS => ?_)
    · rw [eC, c_hasT hS ok q1, decide_eq_false ht]
      simp only [ob_eq]
      rw [b2_f, if_pos zero0]
theorem cmk_7 (ok : okS n (X, Y, E, T)) (h2 : 2 ≤ n) (hn : n ≤ 10) (hc : c < 10000) (hk : c / 1000 = 7) : cmdK n hm (X, Y, E, T) c := by
  have q1 : c / 100 % 10 < 10 := by omega
  have q2 : c / 10 % 10 < 10 := by omega
  have q3 : c % 10 < 10 := by omega
  have eC := fun g => succ_7 (c := c) hc hk g
  generalize c / 100 % 10 = t at *
  generalize c / 10 % 10 = p at *
  generalize c % 10 = z at *
  by_cases ht : t < n
  · refine ⟨true, (fun q => if q = t then p else X q, fun q => if q = t then z else Y q, E, T), okS_put ok (by omega) (by omega), fun g hH hS => ?_⟩
    · obtain ⟨g', e, a, f⟩ := c_put (k := 165) hH hn hS (by decide) (a := p) (b := z) ht
      refine ⟨g', ?_, a, f.wd (by decide) (by decide)⟩
      rw [eC]
      unfold f_X3_moves
      rw [c_hasP hH hn q1, decide_eq_true ht]
      simp only [ob_eq]
      rw [b2_t, if_neg one0, e]
      simp only [ob_eq]
      rw [if_pos (by decide)]
  · refine cmk_no ok (fun g hH hS => ?_)
    · rw [eC]
      unfold f_X3_moves
      rw [c_hasP hH hn q1, decide_eq_false ht]
      simp only [ob_eq]
      rw [b2_f, if_pos zero0]
      simp only [ob_eq]
      rw [if_pos (by decide)]
theorem cmk_8 (ok : okS n (X, Y, E, T)) (h2 : 2 ≤ n) (hn : n ≤ 10) (hc : c < 10000) (hk : c / 1000 = 8) : cmdK n hm (X, Y, E, T) c := by
  have q1 : c / 100 % 10 < 10 := by omega
  have q2 : c / 10 % 10 < 10 := by omega
  have q3 : c % 10 < 10 := by omega
  have eC := fun g => succ_8 (c := c) hc hk g
  generalize c / 100 % 10 = t at *
  generalize c / 10 % 10 = p at *
  generalize c % 10 = z at *
  by_cases hb : p = 0 ∧ z = 0
  · have xb : (b2 (decide (p = 0) && decide (z = 0)) = (0 : Int32)) → False := fun e => (b2_and _ _).mp e ⟨decide_eq_true hb.1, decide_eq_true hb.2⟩
    by_cases ht : t < n
    · refine ⟨true, (X, Y, E ||| 2 ^ t, T), ⟨or_lt ok.1 ht, ok.2⟩, fun g hH hS => ?_⟩
      · obtain ⟨g', e, a, f⟩ := c_makeEasy (k := 165) hH hn hS (by decide) ht
        refine ⟨g', ?_, a, f.wd (by decide) (by decide)⟩
        rw [eC, if_pos ((nI_z (by omega)).mpr hb.1), if_pos ((nI_z (by omega)).mpr hb.2)]
        unfold f_X3_eases
        rw [c_hasP hH hn q1, decide_eq_true ht]
        simp only [ob_eq]
        rw [b2_t, if_neg one0, e]
        simp only [ob_eq]
        rw [if_neg one0]
    · refine cmk_no ok (fun g hH hS => ?_)
      · rw [eC, if_pos ((nI_z (by omega)).mpr hb.1), if_pos ((nI_z (by omega)).mpr hb.2)]
        unfold f_X3_eases
        rw [c_hasP hH hn q1, decide_eq_false ht]
        simp only [ob_eq]
        rw [b2_f, if_pos zero0]
        simp only [ob_eq]
        rw [if_pos trivial]
  · refine cmk_no ok (fun g hH hS => ?_)
    · rw [eC]
      by_cases hp : p = 0
      · rw [if_pos ((nI_z (by omega)).mpr hp), if_neg (fun e => hb ⟨hp, (nI_z (by omega)).mp e⟩)]
      · rw [if_neg (fun e => hp ((nI_z (by omega)).mp e))]
theorem cmk_9 (ok : okS n (X, Y, E, T)) (h2 : 2 ≤ n) (hn : n ≤ 10) (hc : c < 10000) (hk : c / 1000 = 9) : cmdK n hm (X, Y, E, T) c := by
  have hT : T.length ≤ 4 := ok.2.1
  have q1 : c / 100 % 10 < 10 := by omega
  have q2 : c / 10 % 10 < 10 := by omega
  have q3 : c % 10 < 10 := by omega
  have eC := fun g => succ_9 (c := c) hc hk g
  generalize c / 100 % 10 = t at *
  generalize c / 10 % 10 = p at *
  generalize c % 10 = z at *
  by_cases hz : z = 0
  · by_cases ht : t < T.length
    · obtain ⟨tm, htm⟩ := get_lt ht
      have h1 := ok_get ok htm
      have xC : ∀ g, cH g n hm → cS g 165 (X, Y, E, T) → f_X3_succeeds (nI c) g = if nI tm.1.length < nI p then some (0, g) else some (1, g) := by
        intro g hH hS
        rw [eC, if_pos ((nI_z (by omega)).mpr hz), c_hasT hS ok q1, decide_eq_true ht]
        simp only [ob_eq]
        rw [b2_t, if_neg one0, c_visitsOf hS ok htm]
        simp only [ob_eq]
      by_cases hx : nI tm.1.length < nI p
      · refine cmk_no ok (fun g hH hS => ?_)
        · rw [xC g hH hS, if_pos hx]
      · refine ⟨true, (X, Y, E, T), ok, fun g hH hS => ⟨g, ?_, hS, frm.rf⟩⟩
        · rw [xC g hH hS, if_neg hx]; rfl
    · refine cmk_no ok (fun g hH hS => ?_)
      · rw [eC, if_pos ((nI_z (by omega)).mpr hz), c_hasT hS ok q1, decide_eq_false ht]
        simp only [ob_eq]
        rw [b2_f, if_pos zero0]
  · refine cmk_no ok (fun g hH hS => ?_)
    · rw [eC, if_neg (fun e => hz ((nI_z (by omega)).mp e))]
theorem cmk_all {S : aS} (ok : okS n S) (h2 : 2 ≤ n) (hn : n ≤ 10) (hc : c < 10000) : cmdK n hm S c := by
  obtain ⟨X, Y, E, T⟩ := S
  have hd : c / 1000 = 0 ∨ c / 1000 = 1 ∨ c / 1000 = 2 ∨ c / 1000 = 3 ∨ c / 1000 = 4 ∨ c / 1000 = 5 ∨ c / 1000 = 6 ∨ c / 1000 = 7 ∨ c / 1000 = 8 ∨ c / 1000 = 9 := by omega
  rcases hd with h | h | h | h | h | h | h | h | h | h
  · exact cmk_no ok (fun g _ _ => succ_0 hc h g)
  · exact cmk_1 ok h2 hn hc h
  · exact cmk_2 ok h2 hn hc h
  · exact cmk_3 ok h2 hn hc h
  · exact cmk_4 ok h2 hn hc h
  · exact cmk_5 ok h2 hn hc h
  · exact cmk_6 ok h2 hn hc h
  · exact cmk_7 ok h2 hn hc h
  · exact cmk_8 ok h2 hn hc h
  · exact cmk_9 ok h2 hn hc h
theorem scr_eq {i m v : Nat} (hi : i < m) (h4 : m ≤ 4) (hv : v < 2 ^ 62) (F : Nat) (g : gG) : fb_X9_runScript_61 (F + 1) (nI m) (lN v) (nI i) g = (f_X3_succeeds (nI (v / 10000 ^ (m - 1 - i) % 10000)) g).bind (fun u3 => if u3.1 = (0 : Int32) then (some (.inl (nI i), u3.2)) else (fb_X9_runScript_61 F (nI m) (lN v) (nI (i + 1)) u3.2)) := by
  show fs_X9_runScript_61 (fb_X9_runScript_61 F) (nI m) (lN v) (nI i) g = _
  unfold fs_X9_runScript_61
  rw [if_neg (nI_ge (by omega) (by omega)), c_group (by omega) h4 hv]
  simp only [ob_eq, gl_eq, nI_1]
theorem scr_end {m v : Nat} (h4 : m ≤ 4) (F : Nat) (g : gG) : fb_X9_runScript_61 (F + 1) (nI m) (lN v) (nI m) g = some (.inl (-9), g) := by
  unfold fb_X9_runScript_61 fs_X9_runScript_61
  rw [if_pos (nI_le (Nat.le_refl _) (by omega))]
theorem scr_loopC (h2 : 2 ≤ n) (hn : n ≤ 10) {m v : Nat} (h4 : m ≤ 4) (hv : v < 2 ^ 62) (d : Nat) : ∀ i (S : aS), i + d = m → okS n S → ∃ res, ∀ fu g, d < fu → cH g n hm → cS g 165 S → ∃ g', fb_X9_runScript_61 fu (nI m) (lN v) (nI i) g = some (.inl res, g') ∧ frm 157 174 g g' := by
  induction d with
  | zero =>
    intro i S hi ok
    have e : i = m := by omega
    subst e
    refine ⟨-9, fun fu g hf hH hS => ⟨g, ?_, frm.rf⟩⟩
    obtain ⟨fu, rfl⟩ : ∃ f', fu = f' + 1 := ⟨fu - 1, by omega⟩
    exact scr_end h4 fu g
  | succ d ih =>
    intro i S hi ok
    have hg : v / 10000 ^ (m - 1 - i) % 10000 < 10000 := Nat.mod_lt _ (by decide)
    obtain ⟨B, S', ok', xC⟩ := cmk_all (hm := hm) ok h2 hn hg
    obtain ⟨res', yC⟩ := ih (i + 1) S' (by omega) ok'
    cases B with
    | false =>
      refine ⟨nI i, fun fu g hf hH hS => ?_⟩
      obtain ⟨fu, rfl⟩ : ∃ f', fu = f' + 1 := ⟨fu - 1, by omega⟩
      obtain ⟨g1, e, a, f⟩ := xC g hH hS
      refine ⟨g1, ?_, f⟩
      rw [scr_eq (by omega) h4 hv, e]
      simp only [ob_eq]
      rw [b2_f, if_pos zero0]
    | true =>
      refine ⟨res', fun fu g hf hH hS => ?_⟩
      obtain ⟨fu, rfl⟩ : ∃ f', fu = f' + 1 := ⟨fu - 1, by omega⟩
      obtain ⟨g1, e, a, f⟩ := xC g hH hS
      obtain ⟨g2, e2, f2⟩ := yC fu g1 (by omega) (cH_fr hH f (by omega)) a
      refine ⟨g2, ?_, f.tr f2⟩
      rw [scr_eq (by omega) h4 hv, e]
      simp only [ob_eq]
      rw [b2_t, if_neg one0]
      exact e2
end CMK
section OSC
variable {tx : List Nat} {n : Nat} {hm : Nat → Nat} {S : aS} {L : List aS} {K : Nat → Option aS} {rd : aR} {t : Nat} {tm : aT}
theorem x_script_m (ok : okA tx n hm S L K) {a : Int32} {s : Int64} (hT : decide ((1 : Int64).toInt ≤ a.toInt64.toInt ∧ a.toInt64.toInt ≤ (lN 4).toInt) = false) : AC (tx, n, hm, S, L, K, rd) (f_X9_runScript a s) (.inr 1) (tx, n, hm, S, L, K, rd) := by
  refine AC.ro (fun g hC => ?_)
  unfold f_X9_runScript fs_X9_runScript_10
  rcases range14_no (by decide) hT with h | ⟨h, h3⟩
  · rw [if_pos h]
  · rw [if_neg h, if_neg (show ¬ a ≤ (4 : Int32) from h3)]
theorem script_eq {m : Nat} (hm1 : 1 ≤ m) (hm4 : m ≤ 4) (s : Int64) (g : gG) : f_X9_runScript (nI m) s g = if b2 (decide (0 ≤ s.toInt ∧ s.toInt < ((10000 ^ m : Nat) : Int))) = (0 : Int32) then some (.inr 1, g) else ((f_X3_begin 16 g).bind (fun u6 => fb_X9_runScript_61 gFuel (nI m) s (0 : Int32) u6.2)) := by
  have hp := pow_small hm4
  have e62 : (10000000000000000 : Nat) < 2 ^ 62 := by decide
  have eP : (lN (10000 ^ m)).toInt = ((10000 ^ m : Nat) : Int) := pf_lI (by omega)
  have e0 : (0 : Int64).toInt = 0 := by decide
  unfold f_X9_runScript fs_X9_runScript_36
  rw [if_neg (show ¬ (nI m < (1 : Int32)) from nI_nlt (b := 1) hm1 (by omega)), if_pos (show nI m ≤ (4 : Int32) from nI_le (b := 4) hm4 (by decide))]
  by_cases hneg : s.toInt < 0
  · rw [if_pos (by rw [lg_cmp_lt, Int64.lt_iff_toInt_lt, e0]; exact hneg), decide_eq_false (by omega), b2_f, if_pos zero0]
  · rw [if_neg (by rw [lg_cmp_lt, Int64.lt_iff_toInt_lt, e0]; exact hneg), c_past hm4]
    simp only [ob_eq]
    by_cases hlt : s.toInt < ((10000 ^ m : Nat) : Int)
    · rw [if_pos (by rw [lg_cmp_lt, Int64.lt_iff_toInt_lt, eP]; exact hlt), decide_eq_true (by omega), b2_t, if_neg one0]
    · rw [if_neg (by rw [lg_cmp_lt, Int64.lt_iff_toInt_lt, eP]; exact hlt), decide_eq_false (by omega), b2_f, if_pos zero0]
theorem x_script_bad (ok : okA tx n hm S L K) {m : Nat} (hm1 : 1 ≤ m) (hm4 : m ≤ 4) {s : Int64} (hR : decide (0 ≤ s.toInt ∧ s.toInt < ((10000 ^ m : Nat) : Int)) = false) : AC (tx, n, hm, S, L, K, rd) (f_X9_runScript (nI m) s) (.inr 1) (tx, n, hm, S, L, K, rd) := by
  refine AC.ro (fun g hC => ?_)
  rw [script_eq hm1 hm4, hR, b2_f, if_pos zero0]
theorem x_script_v (ok : okA tx n hm S L K) {m v : Nat} (hm1 : 1 ≤ m) (hm4 : m ≤ 4) (hv : v < 10000 ^ m) {res : Int32} (hres : ∀ g, cH g n hm → cS g 165 S → ∃ g', fb_X9_runScript_61 gFuel (nI m) (lN v) (nI 0) g = some (.inl res, g') ∧ frm 157 174 g g') : AC (tx, n, hm, S, L, K, rd) (f_X9_runScript (nI m) (lN v)) (.inl res) (tx, n, hm, S, L, K, rd) := by
  obtain ⟨o1, o2, h2, hn, o5, o6, o7, o8⟩ := id ok
  have hp := pow_small hm4
  have e62 : (10000000000000000 : Nat) < 2 ^ 62 := by decide
  refine AC.fr (a := 157) (b := 174) (by decide) (fun g hC => ?_)
  obtain ⟨g1, e1, a1, f1⟩ := c_copyS (k := 165) (r := 16) hC.2.2.1 o6 hn (by omega)
  obtain ⟨g2, e2, f2⟩ := hres g1 (cH_fr hC.2.1 f1 (by omega)) a1
  refine ⟨g2, ?_, (f1.wd (by decide) (by decide)).tr f2⟩
  rw [script_eq hm1 hm4, pf_lI (show v < 2 ^ 63 by omega), decide_eq_true (by omega), b2_t, if_neg one0]
  unfold f_X3_begin
  rw [e1]
  simp only [ob_eq]
  exact e2
theorem x_script (ok : okA tx n hm S L K) (a : Int32) (s : Int64) : ∃ res, (res = .inr 1 ∨ ∃ r, res = .inl r) ∧ AC (tx, n, hm, S, L, K, rd) (f_X9_runScript a s) res (tx, n, hm, S, L, K, rd) := by
  obtain ⟨o1, o2, h2, hn, o5, o6, o7, o8⟩ := id ok
  cases hT : decide ((1 : Int64).toInt ≤ a.toInt64.toInt ∧ a.toInt64.toInt ≤ (lN 4).toInt) with
  | false => exact ⟨_, Or.inl rfl, x_script_m ok hT⟩
  | true =>
    obtain ⟨m, hm1, hm4, rfl⟩ := range14 (by decide) hT
    have hp := pow_small hm4
    have e62 : (10000000000000000 : Nat) < 2 ^ 62 := by decide
    cases hR : decide (0 ≤ s.toInt ∧ s.toInt < ((10000 ^ m : Nat) : Int)) with
    | false => exact ⟨_, Or.inl rfl, x_script_bad ok hm1 hm4 hR⟩
    | true =>
      have hR' := of_decide_eq_true hR
      obtain ⟨v, hv, rfl⟩ : ∃ v, v < 10000 ^ m ∧ s = lN v := by
        refine ⟨s.toInt.toNat, by omega, ?_⟩
        apply Int64.toInt_inj.mp
        rw [pf_lI (by omega)]
        omega
      obtain ⟨res, yC⟩ := scr_loopC (hm := hm) h2 hn (m := m) (v := v) hm4 (by omega) m 0 S (by omega) o6
      exact ⟨_, Or.inr ⟨res, rfl⟩, x_script_v ok hm1 hm4 hv (fun g hH hS => yC gFuel g (by unfold gFuel; omega) hH hS)⟩
theorem x_simulate_bad (ok : okA tx n hm S L K) {s : Int64} {a : Int32} (hT : decide ((1 : Int64).toInt ≤ a.toInt64.toInt ∧ a.toInt64.toInt ≤ (lN 50).toInt) = false) : AC (tx, n, hm, S, L, K, rd) (f_X9_simulate s a) (.inr 1) (tx, n, hm, S, L, K, rd) := by
  refine AC.ro (fun g hC => ?_)
  unfold f_X9_simulate fs_X9_simulate_11
  rcases range14_no (by decide) hT with h | ⟨h, h3⟩
  · rw [if_pos h]
  · rw [if_neg h, if_neg (show ¬ a ≤ (50 : Int32) from h3)]
theorem x_simulate (ok : okA tx n hm S L K) (s : Int64) {M : Nat} (hm1 : 1 ≤ M) (hm4 : M ≤ 50) : AC (tx, n, hm, S, L, K, rd) (f_X9_simulate s (nI M)) (.inl (rnV (rn n (effH hm S.2.2.1) S M 0 0 s))) (tx, n, hm, S, L, K, rd) := by
  refine AC.st (fun g hC => ?_)
  obtain ⟨g1, e1, a1⟩ := c_run_l ok hm4 M (gL1 g 173 1 s) 0 0 0 gFuel (by omega) (by unfold gFuel; omega) (InvC_eq hC (fun j _ => rfl))
  rw [gL1_2] at e1
  refine ⟨g1, ?_, InvC_eq hC (fun j _ => by rw [a1]; rfl), fun j _ => by rw [a1]; rfl⟩
  unfold f_X9_simulate f_X4_run
  rw [if_neg (show ¬ (nI M < (1 : Int32)) from nI_nlt (b := 1) hm1 (by omega)), if_pos (show nI M ≤ (50 : Int32) from nI_le (b := 50) hm4 (by decide))]
  simp only [gl_eq]
  rw [show fb_X4_run_14 16 gFuel (nI M) (0 : Int32) (0 : Int32) (0 : Int32) (gL1 g 173 1 s) = _ from e1]
  simp only [ob_eq]
end OSC
