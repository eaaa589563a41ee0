/-! PURE: actions. -/
section AC
variable {tx : List Nat} {n : Nat} {hm : Nat → Nat} {S S' : aS} {L : List aS} {K : Nat → Option aS}
theorem okA_S (ok : okA tx n hm S L K) (h : okS n S') : okA tx n hm S' ((S :: L).take 14) K := by
  obtain ⟨o1, o2, h2, hn, o5, o6, o7, o8⟩ := ok
  refine ⟨o1, o2, h2, hn, o5, h, ?_, o8⟩
  intro S1 h1
  have h3 := List.mem_of_mem_take h1
  rcases List.mem_cons.mp h3 with h4 | h4
  · rw [h4]; exact o6
  · exact o7 S1 h4
theorem C_keep {g : gG} (ok : okA tx n hm S L K) (hC : InvC tx n hm S L K g) : ∃ g', f_X1_keep 16 g = some ((), g') ∧ InvC tx n hm S ((S :: L).take 14) K g' ∧ ∀ j, (174 ≤ j ∨ j = 6 ∨ j = 7) → g'.1 j = g.1 j := by
  obtain ⟨o1, o2, h2, hn, o5, o6, o7, o8⟩ := ok
  obtain ⟨h1, h3, h4, h5, h6⟩ := hC
  obtain ⟨g', e, a, c⟩ := c_keep (r := 16) h4 o6 hn h5 (by decide)
  refine ⟨g', e, ⟨⟨?_, ?_⟩, cH_fr h3 c (by decide), cS_fr h4 c (by decide), a, ?_⟩, fun j hj => c.1 j (by omega)⟩
  · rw [c.1 1 (by omega)]; exact h1.1
  · intro j x hx
    rw [c.1 2 (by omega)]; exact h1.2 j x hx
  · exact slC_eq h6 (fun j a b => c.1 j (by omega))
theorem C_16 {g g' : gG} (hC : InvC tx n hm S L K g) (f : frm 16 24 g g') (hS : cS g' 16 S') : InvC tx n hm S' L K g' := by
  obtain ⟨h1, h3, h4, h5, h6⟩ := hC
  refine ⟨⟨?_, ?_⟩, cH_fr h3 f (by decide), hS, cMem_eq h5 (fun j a b => f.1 j (by omega)), slC_eq h6 (fun j a b => f.1 j (by omega))⟩
  · rw [f.1 1 (by omega)]; exact h1.1
  · intro j x hx
    rw [f.1 2 (by omega)]; exact h1.2 j x hx
theorem M_note {g : gG} (ok : okA tx n hm S L K) (hM : InvM tx n hm S L K g) : ∃ g', f_X10_note g = some ((), g') ∧ InvM tx n hm S ((S :: L).take 14) K g' ∧ g'.1 174 0 = g.1 174 0 ∧ (∀ j, j < 174 → g'.1 j = g.1 j) ∧ g'.2 = g.2 := by
  obtain ⟨o1, o2, h2, hn, o5, o6, o7, o8⟩ := ok
  obtain ⟨h1, h3, h4, h5⟩ := hM
  obtain ⟨g', e, a, b, c, d⟩ := m_note hn o6 o7 h3 h4
  refine ⟨g', e, ⟨⟨?_, ?_⟩, ?_, a, ?_⟩, c 0 (by decide), fun j hj => b j (by omega) (by omega), d⟩
  · rw [c 2 (by decide)]; exact h1.1
  · intro j x hx
    rw [b 175 (by decide) (by decide)]; exact h1.2 j x hx
  · rw [b 183 (by decide) (by decide)]; exact h3
  · intro i hi
    rw [b 187 (by decide) (by decide), b 186 (by decide) (by decide)]; exact h5 i hi
theorem M_183 {g g' : gG} (hM : InvM tx n hm S L K g) (f : frm 183 184 g g') (hS : mS (g'.1 183) n hm S') : InvM tx n hm S' L K g' := by
  obtain ⟨h1, h3, h4, h5⟩ := hM
  refine ⟨⟨?_, ?_⟩, hS, ⟨h4.1, ?_, ?_⟩, ?_⟩
  · rw [f.1 174 (by omega)]; exact h1.1
  · intro j x hx
    rw [f.1 175 (by omega)]; exact h1.2 j x hx
  · rw [f.1 174 (by omega)]; exact h4.2.1
  · intro i S1 hS1
    rw [f.1 185 (by omega)]; exact h4.2.2 i S1 hS1
  · intro i hi
    rw [f.1 187 (by omega), f.1 186 (by omega)]; exact h5 i hi
/-- an action: the class's and the reference's change of the state -/
theorem opOK_act {X : gG → Option ((Int32 ⊕ Nat) × gG)} {Y : gG → Option (Int32 × gG)} {G : Nat → gG → Option (Int32 × gG)} {FX : gG → Option ((Int32 ⊕ Nat) × gG)} {FY : gG → Option (Int32 × gG)} (ok : okA tx n hm S L K) (ok' : okS n S') (r : Int32) (hX : ∀ g, InvC tx n hm S L K g → ∃ g1, frm 156 174 g g1 ∧ X g = (f_X1_keep 16 g1).bind (fun u => FX u.2)) (hY : ∀ g, InvM tx n hm S L K g → ∃ g1, frm 188 193 (gI1 g 174 0 0) g1 ∧ Y g = (f_X10_note g1).bind (fun u => FY u.2)) (hFX : ∀ g, InvC tx n hm S ((S :: L).take 14) K g → ∃ g', FX g = some (.inl r, g') ∧ cS g' 16 S' ∧ frm 16 24 g g') (hFY : ∀ g, InvM tx n hm S ((S :: L).take 14) K g → ∃ g', FY g = some (r, g') ∧ mS (g'.1 183) n hm S' ∧ (∀ j, (j < 183 ∨ (184 ≤ j ∧ j < 188)) → g'.1 j = g.1 j) ∧ g'.2 = g.2) : opOK tx n hm S L K X Y G := by
  refine ⟨.inl r, tx, n, hm, S', (S :: L).take 14, K, okA_S ok ok', fun g hC => ?_, fun g hM => ?_⟩
  · obtain ⟨g1, f1, e1⟩ := hX g hC
    obtain ⟨g2, e2, a2, c2⟩ := C_keep ok (InvC_fr hC f1 (by decide))
    obtain ⟨g3, e3, a3, c3⟩ := hFX g2 a2
    refine ⟨g3, ?_, C_16 a2 c3 a3, fun j hj => by rw [c3.1 j (by omega), c2 j hj, f1.1 j (by omega)]⟩
    rw [e1, e2, ob_eq]
    exact e3
  · obtain ⟨g1, f1, e1⟩ := hY g hM
    have hM1 := InvM_fr (InvM_r 0 hM) f1 (by decide)
    obtain ⟨g2, e2, a2, b2', c2, d2⟩ := M_note ok hM1
    obtain ⟨g3, e3, a3, c3, d3⟩ := hFY g2 a2
    refine ⟨g3, ?_, ?_, ?_, ?_, ?_⟩
    · rw [e1, e2, ob_eq]
      exact e3
    · obtain ⟨q1, q3, q4, q5⟩ := a2
      refine ⟨⟨?_, ?_⟩, a3, ⟨q4.1, ?_, ?_⟩, ?_⟩
      · rw [c3 174 (by omega)]; exact q1.1
      · intro j x hx
        rw [c3 175 (by omega)]; exact q1.2 j x hx
      · rw [c3 174 (by omega)]; exact q4.2.1
      · intro i S1 hS1
        rw [c3 185 (by omega)]; exact q4.2.2 i S1 hS1
      · intro i hi
        rw [c3 187 (by omega), c3 186 (by omega)]; exact q5 i hi
    · rw [c3 174 (by omega), b2', f1.1 174 (by omega), r_self, if_pos rfl]
    · intro j hj
      rw [c3 j (by omega), c2 j hj, f1.1 j (by omega), gI1_1, if_neg (by omega)]
    · rw [d3, d2, f1.2]; rfl
end AC
section AD
variable {tx : List Nat} {n : Nat} {hm : Nat → Nat} {X Y : Nat → Nat} {E : Nat} {T : List aT} {L : List aS} {K : Nat → Option aS}
theorem okS_T {T' : List aT} (ok : okS n (X, Y, E, T)) (hl : T'.length ≤ 4) (h : ∀ tm ∈ T', okT n tm) : okS n (X, Y, E, T') := ⟨ok.1, hl, ok.2.2.1, h⟩
theorem op_addTeam (ok : okA tx n hm (X, Y, E, T) L K) : opOK tx n hm (X, Y, E, T) L K f_X9_addTeam f_X10_addTeam G2 := by
  obtain ⟨o1, o2, h2, hn, o5, o6, o7, o8⟩ := id ok
  have hT : T.length ≤ 4 := o6.2.1
  have c1 : (1 : Int32).toNatClampNeg = 1 := by decide
  have eC : ∀ g, InvC tx n hm (X, Y, E, T) L K g → g.1 16 9 = nI T.length := fun g hC => hC.2.2.1.2.1
  have eM : ∀ g, InvM tx n hm (X, Y, E, T) L K g → g.1 183 1 = nI T.length := fun g hM => hM.2.1.2.1
  by_cases h4 : T.length = 4
  · refine opOK_same ok (.inr 2) (fun g hC => stC_rf hC ?_) (fun g hM => resM_r 0 1 one0 (fun _ => rfl) (stM_rf hM ?_))
    · unfold f_X9_addTeam f_X5_hasRoom
      rw [eC g hC, h4, if_pos (by decide)]
      simp only [ob_eq]
      rw [if_pos trivial]
    · unfold f_X10_addTeam
      rw [if_pos (show inb 1 394 = true by decide), c1, eM g hM, h4, if_pos (show nI 4 = (4 : Int32) from rfl)]
      unfold fs_X10_addTeam_16
      rw [ref1]
      simp only [ob_eq]
      rw [if_neg one0]
  · refine opOK_act (S' := (X, Y, E, T ++ [([], 0, 0)])) (FX := fun g => (f_X5_enrol 16 g).bind (fun u4 => some (.inl u4.1, u4.2))) (FY := fun g => (f_X10_adds 183 394 g).bind (fun u4 => if inb (1 : Int32) 394 = true then some (((u4.2.1 183 (1 : Int32).toNatClampNeg) - (1 : Int32)), u4.2) else none)) ok ?_ (nI T.length) (fun g hC => ⟨g, frm.rf, ?_⟩) (fun g hM => ⟨gI1 g 174 0 0, frm.rf, ?_⟩) (fun g hC => ?_) (fun g hM => ?_)
    · refine okS_T o6 (by rw [List.length_append]; show T.length + 1 ≤ 4; omega) ?_
      intro tm htm
      rcases List.mem_append.mp htm with h | h
      · exact o6.2.2.2 tm h
      · rw [List.mem_singleton.mp h]
        exact ⟨List.nodup_nil, fun p hp => by simp at hp⟩
    · unfold f_X9_addTeam f_X5_hasRoom
      rw [eC g hC, if_neg (show ¬ ((4 : Int32) ≤ nI T.length) from nI_ge (b := 4) (by omega) (by decide))]
      simp only [ob_eq]
      rw [if_neg one0]
    · unfold f_X10_addTeam
      rw [if_pos (show inb 1 394 = true by decide), c1, eM g hM, if_neg (show ¬ (nI T.length = (4 : Int32)) from fun e => h4 ((nI_eq (b := 4) (by omega) (by decide)).mp e))]
      unfold fs_X10_addTeam_16
      rw [ref0]
      simp only [ob_eq]
      rw [if_pos trivial]
      rfl
    · obtain ⟨g', e, a, c⟩ := c_enrol (k := 16) hC.2.2.1 (by omega)
      refine ⟨g', ?_, a, c⟩
      rw [e]
      simp only [ob_eq]
    · obtain ⟨g', e, a, c⟩ := m_adds (r := 183) hn hM.2.1 o6 (by omega)
      refine ⟨g', ?_, a, fun j hj => c.1 j (by omega), c.2⟩
      rw [e]
      simp only [ob_eq]
      rw [if_pos (show inb 1 394 = true by decide), c1, show g'.1 183 1 = nI (T ++ [([], 0, 0)]).length from a.2.1, List.length_append]
      show some (nI (T.length + 1) - 1, g') = _
      rw [nI_pred]
theorem okS_set1 {t : Nat} {tm : aT} (ok : okS n (X, Y, E, T)) (h : okT n tm) : okS n (X, Y, E, T.set t tm) := by
  refine okS_T ok (by rw [List.length_set]; exact ok.2.1) ?_
  intro tm' h'
  rcases List.mem_or_eq_of_mem_set h' with h1 | h1
  · exact ok.2.2.2 tm' h1
  · rw [h1]; exact h
theorem op_go (ok : okA tx n hm (X, Y, E, T) L K) (a b : Int32) : opOK tx n hm (X, Y, E, T) L K (f_X9_go a b) (f_X10_go a b) G32 := by
  obtain ⟨o1, o2, h2, hn, o5, o6, o7, o8⟩ := id ok
  cases hT : isT (X, Y, E, T) a with
  | false =>
    refine opOK_same ok (.inr 3) (fun g hC => stC_rf hC ?_) (fun g hM => resM_r 0 1 one0 (fun _ => rfl) (stM_rf hM ?_))
    · unfold f_X9_go
      rw [c_reqTeam hC.2.2.1 o6, hT, if_neg (by decide), gXb_r]
    · unfold f_X10_go
      rw [m_isTeam hM.2.1 o6, hT]
      simp only [ob_eq]
      rw [b2_f, if_pos zero0]
      unfold fs_X10_go_17 fs_X10_go_45
      rw [ref1]
      simp only [ob_eq]
      rw [if_neg one0]
  | true =>
    obtain ⟨t, ht, rfl⟩ := isT_t hT o6.2.1
    have ht : t < T.length := ht
    obtain ⟨tm, htm⟩ := get_lt ht
    have h1 := ok_get o6 htm
    have hs := setOf_lt h1.1.2
    have h10 := lt1024 hs hn
    have hlen := okT_len h1.1
    cases hP : decide (0 ≤ b.toInt ∧ b.toInt < n) with
    | false =>
      refine opOK_same ok (.inr 3) (fun g hC => stC_rf hC ?_) (fun g hM => resM_r 0 1 one0 (fun _ => rfl) (stM_rf hM ?_))
      · unfold f_X9_go
        rw [c_reqTeam hC.2.2.1 o6, hT, if_pos rfl, gXb_l, c_reqPlace hC.2.1 hn, hP, if_neg (by decide), gXb_r]
      · unfold f_X10_go
        rw [m_isTeam hM.2.1 o6, hT]
        simp only [ob_eq]
        rw [b2_t, if_neg one0, m_isPlace hM.2.1.1 hn, hP]
        simp only [ob_eq]
        rw [b2_f, if_pos zero0]
        unfold fs_X10_go_17 fs_X10_go_45
        rw [ref1]
        simp only [ob_eq]
        rw [if_neg one0]
    | true =>
      obtain ⟨p, hp, rfl⟩ := isP_p hn hP
      have xC : ∀ g, InvC tx n hm (X, Y, E, T) L K g → f_X9_go (nI t) (nI p) g = (if b2 (canV n (effH hm E) (setOf tm.1) p) = (0 : Int32) then (some (.inr 2, g)) else ((f_X1_keep 16 g).bind (fun u5 => (f_X5_visit 16 (nI t) (nI p) u5.2).bind (fun u6 => some (.inl u6.1, u6.2))))) := by
        intro g hC
        unfold f_X9_go
        rw [c_reqTeam hC.2.2.1 o6, hT, if_pos rfl, gXb_l, c_reqPlace hC.2.1 hn, hP, if_pos rfl, gXb_l, c_canVisit hC.2.1 h2 hn hC.2.2.1 o6 htm hp]
        simp only [ob_eq]
      have xM : ∀ g, InvM tx n hm (X, Y, E, T) L K g → f_X10_go (nI t) (nI p) g = (if b2 (canV n (effH hm E) (setOf tm.1) p) = (0 : Int32) then (fs_X10_go_45 (nI t) (nI p) (2 : Int32) g) else (fs_X10_go_45 (nI t) (nI p) (0 : Int32) g)) := by
        intro g hM
        unfold f_X10_go
        rw [m_isTeam hM.2.1 o6, hT]
        simp only [ob_eq]
        rw [b2_t, if_neg one0, m_isPlace hM.2.1.1 hn, hP]
        simp only [ob_eq]
        rw [b2_t, if_neg one0, m_visited hM.2.1 o6 hn htm]
        simp only [ob_eq]
        rw [m_canVisit hM.2.1.1 h2 hn hp h10]
        simp only [ob_eq]
      cases hv : canV n (effH hm E) (setOf tm.1) p with
      | false =>
        refine opOK_same ok (.inr 2) (fun g hC => stC_rf hC ?_) (fun g hM => resM_r 0 2 (by decide) (fun _ => rfl) (stM_rf hM ?_))
        · rw [xC g hC, hv, b2_f, if_pos zero0]
        · rw [xM g hM, hv, b2_f, if_pos zero0]
          unfold fs_X10_go_45
          rw [ref2]
          simp only [ob_eq]
          rw [if_neg one0]
      | true =>
        refine opOK_act (S' := (X, Y, E, T.set t (tm.1 ++ [p], tm.2.1 + nI (mns (X, Y, E, T) tm.1.getLast? p), tm.2.2))) (FX := fun g => (f_X5_visit 16 (nI t) (nI p) g).bind (fun u6 => some (.inl u6.1, u6.2))) (FY := fun g => (f_X10_visit 183 394 (nI t) (nI p) g).bind (fun u4 => (f_X10_cell (nI t) (1 : Int32) u4.2).bind (fun u5 => if inb u5.1 394 = true then some ((u5.2.1 183 u5.1.toNatClampNeg), u5.2) else none))) ok (okS_set1 o6 (okT_app h1.1 hp (canV_bit hv) _ _)) (tm.2.1 + nI (mns (X, Y, E, T) tm.1.getLast? p)) (fun g hC => ⟨g, frm.rf, ?_⟩) (fun g hM => ⟨gI1 g 174 0 0, frm.rf, ?_⟩) (fun g hC => ?_) (fun g hM => ?_)
        · rw [xC g hC, hv, b2_t, if_neg one0]
        · rw [xM g hM, hv, b2_t, if_neg one0]
          unfold fs_X10_go_45
          rw [ref0]
          simp only [ob_eq]
          rw [if_pos trivial]
        · obtain ⟨g', e, a, c⟩ := c_visit (k := 16) hC.2.1 h2 hn hC.2.2.1 o6 (by decide) htm hp hv
          refine ⟨g', ?_, a, c⟩
          rw [e]
          simp only [ob_eq]
        · obtain ⟨g', e, a, c⟩ := m_visit (r := 183) h2 hn hM.2.1 o6 htm hp (canV_bit hv)
          refine ⟨g', ?_, a, fun j hj => c.1 j (by omega), c.2⟩
          rw [e]
          simp only [ob_eq]
          rw [show f_X10_cell (nI t) (1 : Int32) g' = _ from m_cell t 1 g']
          simp only [ob_eq]
          rw [if_pos (inb_nI (by omega) (by decide)), nI_clamp (by omega), show 342 + 13 * t + 1 = 343 + 13 * t by omega]
          exact congrArg (fun v => some (v, g')) (a.2.2.2 t _ (List.getElem?_set_self ht)).2.1
theorem op_hint (ok : okA tx n hm (X, Y, E, T) L K) (a : Int32) : opOK tx n hm (X, Y, E, T) L K (f_X9_hint a) (f_X10_hint a) G32 := by
  obtain ⟨o1, o2, h2, hn, o5, o6, o7, o8⟩ := id ok
  cases hT : isT (X, Y, E, T) a with
  | false =>
    refine opOK_same ok (.inr 3) (fun g hC => stC_rf hC ?_) (fun g hM => resM_r 0 1 one0 (fun _ => rfl) (stM_rf hM ?_))
    · unfold f_X9_hint
      rw [c_reqTeam hC.2.2.1 o6, hT, if_neg (by decide), gXb_r]
    · unfold f_X10_hint
      rw [m_isTeam hM.2.1 o6, hT]
      simp only [ob_eq]
      rw [b2_f, if_pos zero0]
      unfold fs_X10_hint_30
      rw [ref1]
      simp only [ob_eq]
      rw [if_neg one0]
  | true =>
    obtain ⟨t, ht, rfl⟩ := isT_t hT o6.2.1
    have ht : t < T.length := ht
    obtain ⟨tm, htm⟩ := get_lt ht
    have h1 := ok_get o6 htm
    have hs := setOf_lt h1.1.2
    have h10 := lt1024 hs hn
    have hlen := okT_len h1.1
    have hsl : safe n (effH hm E) (setOf tm.1) < 2 ^ n := msk_lt _ _
    have hsl10 := lt1024 hsl hn
    have xC : ∀ g, InvC tx n hm (X, Y, E, T) L K g → ∃ g1, frm 157 162 g g1 ∧ f_X9_hint (nI t) g = (if nI (safe n (effH hm E) (setOf tm.1)) = (0 : Int32) then (some (.inr 2, g1)) else ((f_X1_keep 16 g1).bind (fun u5 => (f_X5_countHint 16 (nI t) u5.2).bind (fun u6 => (f_X9_smallestOf (nI (safe n (effH hm E) (setOf tm.1))) u6.2).bind (fun u7 => some (.inl u7.1, u7.2)))))) := by
      intro g hC
      obtain ⟨g1, e, f⟩ := c_safeFor hC.2.1 h2 hn hC.2.2.1 o6 htm
      refine ⟨g1, f, ?_⟩
      unfold f_X9_hint
      rw [c_reqTeam hC.2.2.1 o6, hT, if_pos rfl, gXb_l, e]
      simp only [ob_eq, gl_eq]
    have xM : ∀ g, InvM tx n hm (X, Y, E, T) L K g → ∃ g1, frm 188 189 g g1 ∧ f_X10_hint (nI t) g = (if nI (safe n (effH hm E) (setOf tm.1)) = (0 : Int32) then (fs_X10_hint_30 (nI t) (2 : Int32) g1) else (fs_X10_hint_30 (nI t) (0 : Int32) g1)) := by
      intro g hM
      obtain ⟨g1, e, c⟩ := m_safe (g := g) (r := 183) h2 hn (by decide) hM.2.1 o6 htm
      refine ⟨g1, c, ?_⟩
      unfold f_X10_hint
      rw [m_isTeam hM.2.1 o6, hT]
      simp only [ob_eq]
      rw [b2_t, if_neg one0, e]
      simp only [ob_eq]
    by_cases hz : safe n (effH hm E) (setOf tm.1) = 0
    · refine opOK_same ok (.inr 2) (fun g hC => ?_) (fun g hM => resM_r 0 2 (by decide) (fun _ => rfl) ?_)
      · obtain ⟨g1, f, e⟩ := xC g hC
        refine stC_fr (g' := g1) hC ?_ f (by decide) (by decide)
        rw [e, if_pos ((nI_z (by omega)).mpr hz)]
      · obtain ⟨g1, f, e⟩ := xM g hM
        have hM1 := InvM_fr hM f (by decide)
        refine ⟨gI1 g1 174 0 2, ?_, InvM_r 2 hM1, by rw [r_self, if_pos rfl], fun j hj => by rw [gI1_1, if_neg (by omega), f.1 j (by omega)], f.2⟩
        rw [e, if_pos ((nI_z (by omega)).mpr hz)]
        unfold fs_X10_hint_30
        rw [ref2]
        simp only [ob_eq]
        rw [if_neg one0]
    · have hz' : ¬ (nI (safe n (effH hm E) (setOf tm.1)) = (0 : Int32)) := fun e => hz ((nI_z (by omega)).mp e)
      refine opOK_act (S' := (X, Y, E, T.set t (tm.1, tm.2.1, tm.2.2 + 1))) (FX := fun g => (f_X5_countHint 16 (nI t) g).bind (fun u6 => (f_X9_smallestOf (nI (safe n (effH hm E) (setOf tm.1))) u6.2).bind (fun u7 => some (.inl u7.1, u7.2)))) (FY := fun g => (f_X10_cell (nI t) (2 : Int32) g).bind (fun u4 => if inb u4.1 394 = true then if inb u4.1 394 = true then gLet (gI1 u4.2 183 u4.1.toNatClampNeg ((u4.2.1 183 u4.1.toNatClampNeg) + (1 : Int32))) (fun g5 => (f_X10_safeOf 183 394 (nI t) g5).bind (fun u6 => (f_X10_smallest u6.1 u6.2).bind (fun u7 => some (u7.1, u7.2)))) else none else none)) ok (okS_set1 o6 h1.1) (fLow (safe n (effH hm E) (setOf tm.1)) 10 0) (fun g hC => ?_) (fun g hM => ?_) (fun g hC => ?_) (fun g hM => ?_)
      · obtain ⟨g1, f, e⟩ := xC g hC
        refine ⟨g1, f.wd (by omega) (by omega), ?_⟩
        rw [e, if_neg hz']
      · obtain ⟨g1, f, e⟩ := xM g hM
        refine ⟨gI1 g1 174 0 0, ⟨fun j hj => ?_, f.2⟩, ?_⟩
        · rw [gI1_1, gI1_1]
          by_cases e9 : j = 174
          · rw [if_pos e9, if_pos e9, f.1 174 (by omega)]
          · rw [if_neg e9, if_neg e9, f.1 j (by omega)]
        · rw [e, if_neg hz']
          unfold fs_X10_hint_30
          rw [ref0]
          simp only [ob_eq]
          rw [if_pos trivial]
      · obtain ⟨g', e, a, c⟩ := c_countHint (k := 16) hC.2.2.1 o6 htm
        refine ⟨g', ?_, a, c⟩
        rw [e]
        simp only [ob_eq]
        rw [c_low (by omega)]
        simp only [ob_eq]
      · obtain ⟨q1, q2⟩ := m_hint (r := 183) hn hM.2.1 o6 htm
        have hok' := okS_set1 (t := t) (tm := (tm.1, tm.2.1, tm.2.2 + 1)) o6 h1.1
        obtain ⟨g', e, c⟩ := m_safe (g := gI1 g 183 (342 + 13 * t + 2) (tm.2.2 + 1)) (r := 183) (t := t) h2 hn (by decide) q2 hok' (List.getElem?_set_self ht)
        refine ⟨g', ?_, by rw [c.1 183 (by omega)]; exact q2, fun j hj => by rw [c.1 j (by omega), gI1_1, if_neg (by omega)], c.2⟩
        rw [show f_X10_cell (nI t) (2 : Int32) g = _ from m_cell t 2 g]
        simp only [ob_eq]
        rw [if_pos (inb_nI (by omega) (by decide)), if_pos (inb_nI (by omega) (by decide)), nI_clamp (by omega), q1]
        simp only [gl_eq]
        rw [e]
        simp only [ob_eq]
        rw [m_low]
        simp only [ob_eq]
theorem op_giveUp (ok : okA tx n hm (X, Y, E, T) L K) (a : Int32) : opOK tx n hm (X, Y, E, T) L K (f_X9_giveUp a) (f_X10_giveUp a) G3 := by
  obtain ⟨o1, o2, h2, hn, o5, o6, o7, o8⟩ := id ok
  have c1 : (1 : Int32).toNatClampNeg = 1 := by decide
  cases hT : isT (X, Y, E, T) a with
  | false =>
    refine opOK_same ok (.inr 3) (fun g hC => stC_rf hC ?_) (fun g hM => resM_r 0 1 one0 (fun _ => rfl) (stM_rf hM ?_))
    · unfold f_X9_giveUp
      rw [c_reqTeam hC.2.2.1 o6, hT, if_neg (by decide), gXb_r]
    · unfold f_X10_giveUp
      rw [m_isTeam hM.2.1 o6, hT]
      simp only [ob_eq]
      rw [b2_f, if_pos zero0]
      unfold fs_X10_giveUp_14
      rw [ref1]
      simp only [ob_eq]
      rw [if_neg one0]
  | true =>
    obtain ⟨t, ht, rfl⟩ := isT_t hT o6.2.1
    have ht : t < T.length := ht
    have hT4 : T.length ≤ 4 := o6.2.1
    refine opOK_act (S' := (X, Y, E, T.eraseIdx t)) (FX := fun g => (f_X5_dismiss 16 (nI t) g).bind (fun u3 => some (.inl u3.1, u3.2))) (FY := fun g => (f_X10_drop 183 394 (nI t) g).bind (fun u4 => if inb (1 : Int32) 394 = true then some ((u4.2.1 183 (1 : Int32).toNatClampNeg), u4.2) else none)) ok ?_ (nI (T.length - 1)) (fun g hC => ⟨g, frm.rf, ?_⟩) (fun g hM => ⟨gI1 g 174 0 0, frm.rf, ?_⟩) (fun g hC => ?_) (fun g hM => ?_)
    · refine okS_T o6 (by rw [List.length_eraseIdx_of_lt ht]; omega) ?_
      intro tm htm
      exact o6.2.2.2 tm (List.mem_of_mem_eraseIdx htm)
    · unfold f_X9_giveUp
      rw [c_reqTeam hC.2.2.1 o6, hT, if_pos rfl, gXb_l]
    · unfold f_X10_giveUp
      rw [m_isTeam hM.2.1 o6, hT]
      simp only [ob_eq]
      rw [b2_t, if_neg one0]
      unfold fs_X10_giveUp_14
      rw [ref0]
      simp only [ob_eq]
      rw [if_pos trivial]
    · obtain ⟨g', e, a, c⟩ := c_dismiss (k := 16) hC.2.2.1 o6 hn ht
      refine ⟨g', ?_, a, c⟩
      rw [e]
      simp only [ob_eq]
    · obtain ⟨g', e, a, c⟩ := m_drop (r := 183) hn hM.2.1 o6 ht
      refine ⟨g', ?_, a, fun j hj => c.1 j (by omega), c.2⟩
      rw [e]
      simp only [ob_eq]
      rw [if_pos (show inb 1 394 = true by decide), c1, show g'.1 183 1 = nI (T.eraseIdx t).length from a.2.1, List.length_eraseIdx_of_lt ht]
theorem op_move (ok : okA tx n hm (X, Y, E, T) L K) (a x y : Int32) : opOK tx n hm (X, Y, E, T) L K (f_X9_move a x y) (f_X10_move a x y) G31 := by
  obtain ⟨o1, o2, h2, hn, o5, o6, o7, o8⟩ := id ok
  cases hP : decide (0 ≤ a.toInt ∧ a.toInt < n) with
  | false =>
    refine opOK_same ok (.inr 3) (fun g hC => stC_rf hC ?_) (fun g hM => resM_r 0 1 one0 (fun _ => rfl) (stM_rf hM ?_))
    · unfold f_X9_move
      rw [c_reqPlace hC.2.1 hn, hP, if_neg (by decide), gXb_r]
    · unfold f_X10_move
      rw [m_isPlace hM.2.1.1 hn, hP]
      simp only [ob_eq]
      rw [b2_f, if_pos zero0]
      unfold fs_X10_move_42
      rw [ref1]
      simp only [ob_eq]
      rw [if_neg one0]
  | true =>
    obtain ⟨p, hp, rfl⟩ := isP_p hn hP
    have lo : ∀ v : Int32, decide (0 ≤ v.toInt ∧ v.toInt ≤ ((9 : Nat) : Int)) = false → v < 0 ∨ (9 : Int32) < v := by
      intro v hv
      have h3 := of_decide_eq_false hv
      rw [Int32.lt_iff_toInt_lt, Int32.lt_iff_toInt_lt]
      have e1 : (0 : Int32).toInt = 0 := rfl
      have e2 : (9 : Int32).toInt = 9 := rfl
      omega
    have badM : ∀ g, InvM tx n hm (X, Y, E, T) L K g → (decide (0 ≤ x.toInt ∧ x.toInt ≤ ((9 : Nat) : Int)) = false ∨ decide (0 ≤ y.toInt ∧ y.toInt ≤ ((9 : Nat) : Int)) = false) → f_X10_move (nI p) x y g = some (0, gI1 g 174 0 2) := by
      intro g hM hb
      have e41 : fs_X10_move_41 (nI p) x y g = some (0, gI1 g 174 0 2) := by
        unfold fs_X10_move_41 fs_X10_move_42
        rw [ref2]
        simp only [ob_eq]
        rw [if_neg one0]
      unfold f_X10_move
      rw [m_isPlace hM.2.1.1 hn, hP]
      simp only [ob_eq]
      rw [b2_t, if_neg one0, show f_X10_in x.toInt64 (0 : Int64) (9 : Int64) g = _ from m_inL x 9 (by decide) g]
      simp only [ob_eq]
      cases hx : decide (0 ≤ x.toInt ∧ x.toInt ≤ ((9 : Nat) : Int)) with
      | false => rw [b2_f, if_pos zero0, e41]
      | true =>
        rw [b2_t, if_neg one0, show f_X10_in y.toInt64 (0 : Int64) (9 : Int64) g = _ from m_inL y 9 (by decide) g]
        simp only [ob_eq]
        rcases hb with h | h
        · rw [h] at hx; cases hx
        · rw [h, b2_f, if_pos zero0, e41]
    cases hx : decide (0 ≤ x.toInt ∧ x.toInt ≤ ((9 : Nat) : Int)) with
    | false =>
      refine opOK_same ok (.inr 1) (fun g hC => stC_rf hC ?_) (fun g hM => resM_r 0 2 (by decide) (fun _ => rfl) (stM_rf hM (badM g hM (Or.inl hx))))
      unfold f_X9_move fs_X9_move_25
      rw [c_reqPlace hC.2.1 hn, hP, if_pos rfl, gXb_l]
      rcases lo x hx with h | h
      · rw [if_pos h]
      · by_cases h0 : x < 0
        · rw [if_pos h0]
        · rw [if_neg h0, if_pos h]
    | true =>
      obtain ⟨vx, hvx, rfl⟩ := in_nI hx
      cases hy : decide (0 ≤ y.toInt ∧ y.toInt ≤ ((9 : Nat) : Int)) with
      | false =>
        refine opOK_same ok (.inr 1) (fun g hC => stC_rf hC ?_) (fun g hM => resM_r 0 2 (by decide) (fun _ => rfl) (stM_rf hM (badM g hM (Or.inr hy))))
        unfold f_X9_move fs_X9_move_25
        rw [c_reqPlace hC.2.1 hn, hP, if_pos rfl, gXb_l, if_neg (nI_pos (by omega)), if_neg (show ¬ ((9 : Int32) < nI vx) from nI_nlt (a := 9) hvx (by decide))]
        rcases lo y hy with h | h
        · rw [if_pos h]
        · by_cases h0 : y < 0
          · rw [if_pos h0]
          · rw [if_neg h0, if_neg (fun e => by
              have a1 := Int32.le_iff_toInt_le.mp e
              have a2 := Int32.lt_iff_toInt_lt.mp h
              omega)]
      | true =>
        obtain ⟨vy, hvy, rfl⟩ := in_nI hy
        have ei : (2 : Int32) + (2 : Int32) * nI p = nI (2 + 2 * p) := by
          show nI 2 + nI 2 * nI p = _
          rw [pk_mul, nI_add]
        refine opOK_act (S' := (fun q => if q = p then vx else X q, fun q => if q = p then vy else Y q, E, T)) (FX := fun g => (f_X5_put 16 (nI p) (nI vx) (nI vy) g).bind (fun u7 => some (.inl u7.1, u7.2))) (FY := fun g => if inb (nI (2 + 2 * p)) 394 = true then if inb ((nI (2 + 2 * p)) + (1 : Int32)) 394 = true then gLet (((10 : Int32) * (g.1 183 (nI (2 + 2 * p)).toNatClampNeg)) + (g.1 183 ((nI (2 + 2 * p)) + (1 : Int32)).toNatClampNeg)) (fun x4 => if inb (nI (2 + 2 * p)) 394 = true then gLet (gI1 g 183 (nI (2 + 2 * p)).toNatClampNeg (nI vx)) (fun g5 => if inb ((nI (2 + 2 * p)) + (1 : Int32)) 394 = true then gLet (gI1 g5 183 ((nI (2 + 2 * p)) + (1 : Int32)).toNatClampNeg (nI vy)) (fun g6 => some (x4, g6)) else none) else none) else none else none) ok ?_ (nI (10 * X p + Y p)) (fun g hC => ⟨g, frm.rf, ?_⟩) (fun g hM => ⟨gI1 g 174 0 0, frm.rf, ?_⟩) (fun g hC => ?_) (fun g hM => ?_)
        · refine ⟨o6.1, o6.2.1, fun q hq => ?_, o6.2.2.2⟩
          have h3 := o6.2.2.1 q hq
          show (if q = p then vx else X q) ≤ 9 ∧ (if q = p then vy else Y q) ≤ 9
          by_cases e : q = p
          · rw [if_pos e, if_pos e]; exact ⟨hvx, hvy⟩
          · rw [if_neg e, if_neg e]; exact h3
        · unfold f_X9_move
          rw [c_reqPlace hC.2.1 hn, hP, if_pos rfl, gXb_l, if_neg (nI_pos (by omega)), if_neg (show ¬ ((9 : Int32) < nI vx) from nI_nlt (a := 9) hvx (by decide)), if_neg (nI_pos (by omega)), if_pos (show nI vy ≤ (9 : Int32) from nI_le (b := 9) hvy (by decide))]
        · unfold f_X10_move
          rw [m_isPlace hM.2.1.1 hn, hP]
          simp only [ob_eq]
          rw [b2_t, if_neg one0, show f_X10_in (nI vx).toInt64 (0 : Int64) (9 : Int64) g = _ from m_inL (nI vx) 9 (by decide) g, hx]
          simp only [ob_eq]
          rw [b2_t, if_neg one0, show f_X10_in (nI vy).toInt64 (0 : Int64) (9 : Int64) g = _ from m_inL (nI vy) 9 (by decide) g, hy]
          simp only [ob_eq]
          rw [b2_t, if_neg one0]
          unfold fs_X10_move_42
          rw [ref0, ei]
          simp only [ob_eq]
          rw [if_pos trivial]
        · obtain ⟨g', e, a, c⟩ := c_put (k := 16) hC.2.1 hn hC.2.2.1 (by decide) (a := vx) (b := vy) hp
          refine ⟨g', ?_, a, c⟩
          rw [e]
          simp only [ob_eq]
        · have q := m_put (r := 183) hn hM.2.1 hp vx vy
          have q1 := (hM.2.1.2.2.1 p hp)
          refine ⟨gI1 (gI1 g 183 (2 + 2 * p) (nI vx)) 183 (3 + 2 * p) (nI vy), ?_, q, fun j hj => by rw [gI1_1, if_neg (by omega), gI1_1, if_neg (by omega)], rfl⟩
          rw [nI_1, inb_nI (show 2 + 2 * p < 394 by omega) (by decide), inb_nI (show 2 + 2 * p + 1 < 394 by omega) (by decide)]
          simp only [if_true, gl_eq, nI_clamp (n := 2 + 2 * p) (show 2 + 2 * p < 2 ^ 31 by omega), nI_clamp (n := 2 + 2 * p + 1) (show 2 + 2 * p + 1 < 2 ^ 31 by omega)]
          rw [show 2 + 2 * p + 1 = 3 + 2 * p by omega, q1.1, q1.2]
          show some (nI 10 * nI (X p) + nI (Y p), _) = _
          rw [pk_mul, nI_add]
theorem op_ease (ok : okA tx n hm (X, Y, E, T) L K) (a : Int32) : opOK tx n hm (X, Y, E, T) L K (f_X9_ease a) (f_X10_ease a) G3 := by
  obtain ⟨o1, o2, h2, hn, o5, o6, o7, o8⟩ := id ok
  cases hP : decide (0 ≤ a.toInt ∧ a.toInt < n) with
  | false =>
    refine opOK_same ok (.inr 3) (fun g hC => stC_rf hC ?_) (fun g hM => resM_r 0 1 one0 (fun _ => rfl) (stM_rf hM ?_))
    · unfold f_X9_ease
      rw [c_reqPlace hC.2.1 hn, hP, if_neg (by decide), gXb_r]
    · unfold f_X10_ease
      rw [m_isPlace hM.2.1.1 hn, hP]
      simp only [ob_eq]
      rw [b2_f, if_pos zero0]
      unfold fs_X10_ease_14
      rw [ref1]
      simp only [ob_eq]
      rw [if_neg one0]
  | true =>
    obtain ⟨p, hp, rfl⟩ := isP_p hn hP
    refine opOK_act (S' := (X, Y, E ||| 2 ^ p, T)) (FX := fun g => (f_X5_setsThatOpen 16 (nI p) g).bind (fun u3 => gLet u3.1 (fun x4 => (f_X5_makeEasy 16 (nI p) u3.2).bind (fun u5 => some (.inl x4, u5.2))))) (FY := fun g => (f_X10_heldBy 183 394 (nI p) g).bind (fun u4 => gLet u4.1 (fun x5 => (f_X10_makeEasy 183 394 (nI p) u4.2).bind (fun u6 => some (x5, u6.2))))) ok ⟨or_lt o6.1 hp, o6.2⟩ (nI (fOpens (effH hm E) p (2 ^ n) 0 0)) (fun g hC => ⟨g, frm.rf, ?_⟩) (fun g hM => ⟨gI1 g 174 0 0, frm.rf, ?_⟩) (fun g hC => ?_) (fun g hM => ?_)
    · unfold f_X9_ease
      rw [c_reqPlace hC.2.1 hn, hP, if_pos rfl, gXb_l]
    · unfold f_X10_ease
      rw [m_isPlace hM.2.1.1 hn, hP]
      simp only [ob_eq]
      rw [b2_t, if_neg one0]
      unfold fs_X10_ease_14
      rw [ref0]
      simp only [ob_eq]
      rw [if_pos trivial]
    · obtain ⟨g', e, a, c⟩ := c_makeEasy (k := 16) hC.2.1 hn hC.2.2.1 (by decide) hp
      refine ⟨g', ?_, a, c⟩
      rw [c_opens hC.2.1 hC.2.2.1 o6 hn (by omega)]
      simp only [ob_eq, gl_eq]
      rw [e]
      simp only [ob_eq]
    · obtain ⟨g', e, a, c⟩ := m_easy (r := 183) hn hM.2.1 o6 hp
      refine ⟨g', ?_, a, fun j hj => c.1 j (by omega), c.2⟩
      rw [m_opens hM.2.1.1 h2 hn hp]
      simp only [ob_eq, gl_eq]
      rw [e]
      simp only [ob_eq]
end AD
