/-! PURE: actions of the class alone. -/
section ACT
variable {tx : List Nat} {n : Nat} {hm : Nat → Nat} {S S' : aS} {L : List aS} {K : Nat → Option aS} {rd : aR}
theorem AC.act {X FX : gG → Option ((Int32 ⊕ Nat) × gG)} {r : Int32} (ok : okA tx n hm S L K) (hX : ∀ g, InvC tx n hm S L K g → ∃ g1, frm 156 174 g g1 ∧ X g = (f_X1_keep 16 g1).bind (fun u => FX u.2)) (hFX : ∀ g, InvC tx n hm S ((S :: L).take 14) K g → ∃ g', FX g = some (.inl r, g') ∧ cS g' 16 S' ∧ frm 16 24 g g') : AC (tx, n, hm, S, L, K, rd) X (.inl r) (tx, n, hm, S', (S :: L).take 14, K, rd) := by
  refine AC.st (fun g hC => ?_)
  obtain ⟨g1, f1, e1⟩ := hX g hC
  obtain ⟨g2, e2, a2, c2⟩ := C_keep ok (InvC_fr hC f1 (by decide))
  obtain ⟨g3, e3, a3, c3⟩ := hFX g2 a2
  refine ⟨g3, ?_, C_16 a2 c3 a3, fun j hj => by rw [c3.1 j (by omega), c2 j hj, f1.1 j (by omega)]⟩
  rw [e1, e2, ob_eq]
  exact e3
end ACT
section ACU
variable {tx : List Nat} {n : Nat} {hm : Nat → Nat} {X Y : Nat → Nat} {E : Nat} {T : List aT} {L : List aS} {K : Nat → Option aS} {rd : aR} {t : Nat} {tm : aT}
theorem x_addTeam_full (ok : okA tx n hm (X, Y, E, T) L K) (h4 : T.length = 4) : AC (tx, n, hm, (X, Y, E, T), L, K, rd) f_X9_addTeam (.inr 2) (tx, n, hm, (X, Y, E, T), L, K, rd) := by
  obtain ⟨o1, o2, h2, hn, o5, o6, o7, o8⟩ := id ok
  refine AC.ro (fun g hC => ?_)
  unfold f_X9_addTeam f_X5_hasRoom
  rw [show g.1 16 9 = nI T.length from hC.2.2.1.2.1, h4, if_pos (by decide)]
  simp only [ob_eq]
  rw [if_pos trivial]
theorem x_addTeam (ok : okA tx n hm (X, Y, E, T) L K) (h4 : T.length < 4) : AC (tx, n, hm, (X, Y, E, T), L, K, rd) f_X9_addTeam (.inl (nI T.length)) (tx, n, hm, (X, Y, E, T ++ [([], 0, 0)]), ((X, Y, E, T) :: L).take 14, K, rd) := by
  obtain ⟨o1, o2, h2, hn, o5, o6, o7, o8⟩ := id ok
  refine AC.act (FX := fun g => (f_X5_enrol 16 g).bind (fun u4 => some (.inl u4.1, u4.2))) ok (fun g hC => ⟨g, frm.rf, ?_⟩) (fun g hC => ?_)
  · unfold f_X9_addTeam f_X5_hasRoom
    rw [show g.1 16 9 = nI T.length from hC.2.2.1.2.1, if_neg (show ¬ ((4 : Int32) ≤ nI T.length) from nI_ge (b := 4) h4 (by decide))]
    simp only [ob_eq]
    rw [if_neg one0]
  · obtain ⟨g', e, a, c⟩ := c_enrol (k := 16) hC.2.2.1 h4
    refine ⟨g', ?_, a, c⟩
    rw [e]
    simp only [ob_eq]
theorem x_go_place (ok : okA tx n hm (X, Y, E, T) L K) (htm : T[t]? = some tm) {b : Int32} (hP : decide (0 ≤ b.toInt ∧ b.toInt < n) = false) : AC (tx, n, hm, (X, Y, E, T), L, K, rd) (f_X9_go (nI t) b) (.inr 3) (tx, n, hm, (X, Y, E, T), L, K, rd) := by
  obtain ⟨o1, o2, h2, hn, o5, o6, o7, o8⟩ := id ok
  have h1 := ok_get o6 htm
  have ht : t < T.length := h1.2.1
  have hT : isT (X, Y, E, T) (nI t) = true := by rw [isT_nI (by omega)]; exact decide_eq_true h1.2.1
  have hs := setOf_lt h1.1.2
  have h10 := lt1024 hs hn
  have hlen := okT_len h1.1
  refine AC.ro (fun g hC => ?_)
  unfold f_X9_go
  rw [c_reqTeam hC.2.2.1 o6, hT, if_pos rfl, gXb_l, c_reqPlace hC.2.1 hn, hP, if_neg (by decide), gXb_r]
theorem x_go_eq (ok : okA tx n hm (X, Y, E, T) L K) (htm : T[t]? = some tm) {p : Nat} (hp : p < n) {g : gG} (hC : InvC tx n hm (X, Y, E, T) L K g) : f_X9_go (nI t) (nI p) g = (if b2 (canV n (effH hm E) (setOf tm.1) p) = (0 : Int32) then (some (.inr 2, g)) else ((f_X1_keep 16 g).bind (fun u5 => (f_X5_visit 16 (nI t) (nI p) u5.2).bind (fun u6 => some (.inl u6.1, u6.2))))) := by
  obtain ⟨o1, o2, h2, hn, o5, o6, o7, o8⟩ := id ok
  have h1 := ok_get o6 htm
  have ht : t < T.length := h1.2.1
  have hT : isT (X, Y, E, T) (nI t) = true := by rw [isT_nI (by omega)]; exact decide_eq_true h1.2.1
  have hs := setOf_lt h1.1.2
  have h10 := lt1024 hs hn
  have hlen := okT_len h1.1
  have hP : decide (0 ≤ (nI p).toInt ∧ (nI p).toInt < n) = true := by rw [nI_toInt (by omega)]; exact decide_eq_true (by omega)
  unfold f_X9_go
  rw [c_reqTeam hC.2.2.1 o6, hT, if_pos rfl, gXb_l, c_reqPlace hC.2.1 hn, hP, if_pos rfl, gXb_l, c_canVisit hC.2.1 h2 hn hC.2.2.1 o6 htm hp]
  simp only [ob_eq]
theorem x_go_cant (ok : okA tx n hm (X, Y, E, T) L K) (htm : T[t]? = some tm) {p : Nat} (hp : p < n) (hv : canV n (effH hm E) (setOf tm.1) p = false) : AC (tx, n, hm, (X, Y, E, T), L, K, rd) (f_X9_go (nI t) (nI p)) (.inr 2) (tx, n, hm, (X, Y, E, T), L, K, rd) := by
  refine AC.ro (fun g hC => ?_)
  rw [x_go_eq ok htm hp hC, hv, b2_f, if_pos zero0]
theorem x_go (ok : okA tx n hm (X, Y, E, T) L K) (htm : T[t]? = some tm) {p : Nat} (hp : p < n) (hv : canV n (effH hm E) (setOf tm.1) p = true) : AC (tx, n, hm, (X, Y, E, T), L, K, rd) (f_X9_go (nI t) (nI p)) (.inl (tm.2.1 + nI (mns (X, Y, E, T) tm.1.getLast? p))) (tx, n, hm, (X, Y, E, T.set t (tm.1 ++ [p], tm.2.1 + nI (mns (X, Y, E, T) tm.1.getLast? p), tm.2.2)), ((X, Y, E, T) :: L).take 14, K, rd) := by
  obtain ⟨o1, o2, h2, hn, o5, o6, o7, o8⟩ := id ok
  have h1 := ok_get o6 htm
  have ht : t < T.length := h1.2.1
  have hT : isT (X, Y, E, T) (nI t) = true := by rw [isT_nI (by omega)]; exact decide_eq_true h1.2.1
  have hs := setOf_lt h1.1.2
  have h10 := lt1024 hs hn
  have hlen := okT_len h1.1
  refine AC.act (FX := fun g => (f_X5_visit 16 (nI t) (nI p) g).bind (fun u6 => some (.inl u6.1, u6.2))) ok (fun g hC => ⟨g, frm.rf, ?_⟩) (fun g hC => ?_)
  · rw [x_go_eq ok htm hp hC, hv, b2_t, if_neg one0]
  · obtain ⟨g', e, a, c⟩ := c_visit (k := 16) hC.2.1 h2 hn hC.2.2.1 o6 (by decide) htm hp hv
    refine ⟨g', ?_, a, c⟩
    rw [e]
    simp only [ob_eq]
theorem x_hint_eq (ok : okA tx n hm (X, Y, E, T) L K) (htm : T[t]? = some tm) {g : gG} (hC : InvC tx n hm (X, Y, E, T) L K g) : ∃ g1, frm 157 162 g g1 ∧ f_X9_hint (nI t) g = (if nI (safe n (effH hm E) (setOf tm.1)) = (0 : Int32) then (some (.inr 2, g1)) else ((f_X1_keep 16 g1).bind (fun u5 => (f_X5_countHint 16 (nI t) u5.2).bind (fun u6 => (f_X9_smallestOf (nI (safe n (effH hm E) (setOf tm.1))) u6.2).bind (fun u7 => some (.inl u7.1, u7.2)))))) := by
  obtain ⟨o1, o2, h2, hn, o5, o6, o7, o8⟩ := id ok
  have h1 := ok_get o6 htm
  have ht : t < T.length := h1.2.1
  have hT : isT (X, Y, E, T) (nI t) = true := by rw [isT_nI (by omega)]; exact decide_eq_true h1.2.1
  have hs := setOf_lt h1.1.2
  have h10 := lt1024 hs hn
  have hlen := okT_len h1.1
  obtain ⟨g1, e, f⟩ := c_safeFor hC.2.1 h2 hn hC.2.2.1 o6 htm
  refine ⟨g1, f, ?_⟩
  unfold f_X9_hint
  rw [c_reqTeam hC.2.2.1 o6, hT, if_pos rfl, gXb_l, e]
  simp only [ob_eq, gl_eq]
theorem x_hint_none (ok : okA tx n hm (X, Y, E, T) L K) (htm : T[t]? = some tm) (hz : safe n (effH hm E) (setOf tm.1) = 0) : AC (tx, n, hm, (X, Y, E, T), L, K, rd) (f_X9_hint (nI t)) (.inr 2) (tx, n, hm, (X, Y, E, T), L, K, rd) := by
  refine AC.fr (a := 157) (b := 162) (by decide) (fun g hC => ?_)
  obtain ⟨g1, f, e⟩ := x_hint_eq ok htm hC
  refine ⟨g1, ?_, f⟩
  rw [e, hz, if_pos (show nI 0 = (0 : Int32) from rfl)]
theorem x_hint (ok : okA tx n hm (X, Y, E, T) L K) (htm : T[t]? = some tm) (hz : safe n (effH hm E) (setOf tm.1) ≠ 0) : AC (tx, n, hm, (X, Y, E, T), L, K, rd) (f_X9_hint (nI t)) (.inl (fLow (safe n (effH hm E) (setOf tm.1)) 10 0)) (tx, n, hm, (X, Y, E, T.set t (tm.1, tm.2.1, tm.2.2 + 1)), ((X, Y, E, T) :: L).take 14, K, rd) := by
  obtain ⟨o1, o2, h2, hn, o5, o6, o7, o8⟩ := id ok
  have h1 := ok_get o6 htm
  have ht : t < T.length := h1.2.1
  have hT : isT (X, Y, E, T) (nI t) = true := by rw [isT_nI (by omega)]; exact decide_eq_true h1.2.1
  have hs := setOf_lt h1.1.2
  have h10 := lt1024 hs hn
  have hlen := okT_len h1.1
  have hsl : safe n (effH hm E) (setOf tm.1) < 2 ^ n := msk_lt _ _
  have hsl10 := lt1024 hsl hn
  have hz' : ¬ (nI (safe n (effH hm E) (setOf tm.1)) = (0 : Int32)) := fun e => hz ((nI_z (by omega)).mp e)
  refine AC.act (FX := fun g => (f_X5_countHint 16 (nI t) g).bind (fun u6 => (f_X9_smallestOf (nI (safe n (effH hm E) (setOf tm.1))) u6.2).bind (fun u7 => some (.inl u7.1, u7.2)))) ok (fun g hC => ?_) (fun g hC => ?_)
  · obtain ⟨g1, f, e⟩ := x_hint_eq ok htm hC
    refine ⟨g1, f.wd (by omega) (by omega), ?_⟩
    rw [e, if_neg hz']
  · obtain ⟨g', e, a, c⟩ := c_countHint (k := 16) hC.2.2.1 o6 htm
    refine ⟨g', ?_, a, c⟩
    rw [e]
    simp only [ob_eq]
    rw [c_low (by omega)]
    simp only [ob_eq]
theorem x_giveUp (ok : okA tx n hm (X, Y, E, T) L K) (htm : T[t]? = some tm) : AC (tx, n, hm, (X, Y, E, T), L, K, rd) (f_X9_giveUp (nI t)) (.inl (nI (T.length - 1))) (tx, n, hm, (X, Y, E, T.eraseIdx t), ((X, Y, E, T) :: L).take 14, K, rd) := by
  obtain ⟨o1, o2, h2, hn, o5, o6, o7, o8⟩ := id ok
  have h1 := ok_get o6 htm
  have ht : t < T.length := h1.2.1
  have hT : isT (X, Y, E, T) (nI t) = true := by rw [isT_nI (by omega)]; exact decide_eq_true h1.2.1
  have hs := setOf_lt h1.1.2
  have h10 := lt1024 hs hn
  have hlen := okT_len h1.1
  refine AC.act (FX := fun g => (f_X5_dismiss 16 (nI t) g).bind (fun u3 => some (.inl u3.1, u3.2))) ok (fun g hC => ⟨g, frm.rf, ?_⟩) (fun g hC => ?_)
  · unfold f_X9_giveUp
    rw [c_reqTeam hC.2.2.1 o6, hT, if_pos rfl, gXb_l]
  · obtain ⟨g', e, a, c⟩ := c_dismiss (k := 16) hC.2.2.1 o6 hn ht
    refine ⟨g', ?_, a, c⟩
    rw [e]
    simp only [ob_eq]
theorem x_move_bad (ok : okA tx n hm (X, Y, E, T) L K) {p : Nat} (hp : p < n) {x y : Int32} (h : decide (0 ≤ x.toInt ∧ x.toInt ≤ ((9 : Nat) : Int)) = false ∨ decide (0 ≤ y.toInt ∧ y.toInt ≤ ((9 : Nat) : Int)) = false) : AC (tx, n, hm, (X, Y, E, T), L, K, rd) (f_X9_move (nI p) x y) (.inr 1) (tx, n, hm, (X, Y, E, T), L, K, rd) := by
  obtain ⟨o1, o2, h2, hn, o5, o6, o7, o8⟩ := id ok
  have hP : decide (0 ≤ (nI p).toInt ∧ (nI p).toInt < n) = true := by rw [nI_toInt (by omega)]; exact decide_eq_true (by omega)
  have lo : ∀ v : Int32, decide (0 ≤ v.toInt ∧ v.toInt ≤ ((9 : Nat) : Int)) = false → v < 0 ∨ (9 : Int32) < v := by
    intro v hv
    have h3 := of_decide_eq_false hv
    rw [Int32.lt_iff_toInt_lt, Int32.lt_iff_toInt_lt]
    have e1 : (0 : Int32).toInt = 0 := rfl
    have e2 : (9 : Int32).toInt = 9 := rfl
    omega
  refine AC.ro (fun g hC => ?_)
  unfold f_X9_move fs_X9_move_25
  rw [c_reqPlace hC.2.1 hn, hP, if_pos rfl, gXb_l]
  by_cases h0 : x < 0
  · rw [if_pos h0]
  · rw [if_neg h0]
    by_cases h9 : (9 : Int32) < x
    · rw [if_pos h9]
    · rw [if_neg h9]
      rcases h with h | h
      · rcases lo x h with h8 | h8
        · exact absurd h8 h0
        · exact absurd h8 h9
      · rcases lo y h with h8 | h8
        · rw [if_pos h8]
        · by_cases h7 : y < 0
          · rw [if_pos h7]
          · rw [if_neg h7, if_neg (fun e => by
              have a1 := Int32.le_iff_toInt_le.mp e
              have a2 := Int32.lt_iff_toInt_lt.mp h8
              omega)]
theorem x_move (ok : okA tx n hm (X, Y, E, T) L K) {p : Nat} (hp : p < n) {vx vy : Nat} (hvx : vx ≤ 9) (hvy : vy ≤ 9) : AC (tx, n, hm, (X, Y, E, T), L, K, rd) (f_X9_move (nI p) (nI vx) (nI vy)) (.inl (nI (10 * X p + Y p))) (tx, n, hm, (fun q => if q = p then vx else X q, fun q => if q = p then vy else Y q, E, T), ((X, Y, E, T) :: L).take 14, K, rd) := by
  obtain ⟨o1, o2, h2, hn, o5, o6, o7, o8⟩ := id ok
  have hP : decide (0 ≤ (nI p).toInt ∧ (nI p).toInt < n) = true := by rw [nI_toInt (by omega)]; exact decide_eq_true (by omega)
  refine AC.act (FX := fun g => (f_X5_put 16 (nI p) (nI vx) (nI vy) g).bind (fun u7 => some (.inl u7.1, u7.2))) ok (fun g hC => ⟨g, frm.rf, ?_⟩) (fun g hC => ?_)
  · unfold f_X9_move
    rw [c_reqPlace hC.2.1 hn, hP, if_pos rfl, gXb_l, if_neg (nI_pos (by omega)), if_neg (show ¬ ((9 : Int32) < nI vx) from nI_nlt (a := 9) hvx (by decide)), if_neg (nI_pos (by omega)), if_pos (show nI vy ≤ (9 : Int32) from nI_le (b := 9) hvy (by decide))]
  · obtain ⟨g', e, a, c⟩ := c_put (k := 16) hC.2.1 hn hC.2.2.1 (by decide) (a := vx) (b := vy) hp
    refine ⟨g', ?_, a, c⟩
    rw [e]
    simp only [ob_eq]
theorem x_ease (ok : okA tx n hm (X, Y, E, T) L K) {p : Nat} (hp : p < n) : AC (tx, n, hm, (X, Y, E, T), L, K, rd) (f_X9_ease (nI p)) (.inl (nI (fOpens (effH hm E) p (2 ^ n) 0 0))) (tx, n, hm, (X, Y, E ||| 2 ^ p, T), ((X, Y, E, T) :: L).take 14, K, rd) := by
  obtain ⟨o1, o2, h2, hn, o5, o6, o7, o8⟩ := id ok
  have hP : decide (0 ≤ (nI p).toInt ∧ (nI p).toInt < n) = true := by rw [nI_toInt (by omega)]; exact decide_eq_true (by omega)
  refine AC.act (FX := fun g => (f_X5_setsThatOpen 16 (nI p) g).bind (fun u3 => gLet u3.1 (fun x4 => (f_X5_makeEasy 16 (nI p) u3.2).bind (fun u5 => some (.inl x4, u5.2))))) ok (fun g hC => ⟨g, frm.rf, ?_⟩) (fun g hC => ?_)
  · unfold f_X9_ease
    rw [c_reqPlace hC.2.1 hn, hP, if_pos rfl, gXb_l]
  · obtain ⟨g', e, a, c⟩ := c_makeEasy (k := 16) hC.2.1 hn hC.2.2.1 (by decide) hp
    refine ⟨g', ?_, a, c⟩
    rw [c_opens hC.2.1 hC.2.2.1 o6 hn (by omega)]
    simp only [ob_eq, gl_eq]
    rw [e]
    simp only [ob_eq]
end ACU
