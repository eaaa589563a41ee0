/-! PURE: numbers, places, conditions; calls that never throw. -/
theorem fAny_lt {n : Nat} : ∀ (T : List aT) (s : Nat), s < 2 ^ n → (∀ tm ∈ T, okT n tm) → fAny T s < 2 ^ n
  | [], s, hs, _ => hs
  | tm :: T, s, hs, h => fAny_lt T (s ||| setOf tm.1) (Nat.or_lt_two_pow hs (setOf_lt (h tm (by simp)).2)) (fun tm' h' => h tm' (by simp [h']))
def abEnd (l1 l2 l3 l4 : Int32) (g : gG) : Option (Int32 × gG) := if (2 : Int32) ≤ l1 then (if l1 = (2 : Int32) then (some (l2, g)) else (if l1 = (3 : Int32) then (some (l3, g)) else (if l1 = (4 : Int32) then ((f_X10_allVisited g).bind (fun u6 => (f_X10_count u6.1 u6.2).bind (fun u7 => some (u7.1, u7.2)))) else (some (l4, g))))) else (if inb l1 394 = true then some ((g.1 183 l1.toNatClampNeg), g) else none)
section RA
variable {n : Nat} {hm : Nat → Nat} {S : aS}
theorem m_about_l {g : gG} (h2 : 2 ≤ n) (hn : n ≤ 10) (h : mS (g.1 183) n hm S) (ok : okS n S) (a : Int32) (d : Nat) : ∀ i c b hh fu, i + d = S.2.2.2.length → d < fu → fb_X10_about_36 fu a (nI c) b hh (nI i) g = abEnd a (nI (fTeamsAt (n - 1) (S.2.2.2.drop i) c)) (fBest n (S.2.2.2.drop i) b) (fHints (S.2.2.2.drop i) hh) g := by
  have h1 : g.1 183 1 = nI S.2.2.2.length := h.2.1
  have c1 : (1 : Int32).toNatClampNeg = 1 := by decide
  have hT := ok.2.1
  induction d with
  | zero =>
    intro i c b hh fu hi hf
    obtain ⟨fu, rfl⟩ : ∃ f', fu = f' + 1 := ⟨fu - 1, by omega⟩
    have e : i = S.2.2.2.length := by omega
    subst e
    unfold fb_X10_about_36 fs_X10_about_36
    rw [if_pos (show inb 1 394 = true by decide), c1, h1, if_pos (nI_le (Nat.le_refl _) (by omega)), List.drop_length]
    rfl
  | succ d ih =>
    intro i c b hh fu hi hf
    obtain ⟨fu, rfl⟩ : ∃ f', fu = f' + 1 := ⟨fu - 1, by omega⟩
    obtain ⟨tm, htm⟩ := get_lt (l := S.2.2.2) (t := i) (by omega)
    have h9 := ok_get ok htm
    obtain ⟨d1, d2, d3, d4⟩ := h.2.2.2 i tm htm
    have e93 : ∀ (c' : Nat) (b' : Int32), fs_X10_about_93 (fb_X10_about_36 fu) a (nI c') hh (nI i) b' g = fb_X10_about_36 fu a (nI c') b' (hh + tm.2.2) (nI (i + 1)) g := by
      intro c' b'
      unfold fs_X10_about_93
      rw [show f_X10_cell (nI i) (2 : Int32) g = _ from m_cell i 2 g]
      simp only [ob_eq]
      rw [if_pos (inb_nI (by omega) (by decide)), nI_clamp (by omega), show 342 + 13 * i + 2 = 344 + 13 * i by omega, d3]
      simp only [gl_eq, nI_1]
    have e65 : ∀ (z : Bool), fs_X10_about_65 (fb_X10_about_36 fu) a b hh (nI i) (nI c) (b2 z) g = fb_X10_about_36 fu a (nI (if z = true then c + 1 else c)) (if b < scr n tm then scr n tm else b) (hh + tm.2.2) (nI (i + 1)) g := by
      intro z
      have ez : nI c + b2 z = nI (if z = true then c + 1 else c) := by
        cases z with
        | true => exact nI_1 c
        | false => exact nI_add c 0
      unfold fs_X10_about_65
      simp only [gl_eq]
      rw [m_score h ok h2 hn htm]
      simp only [ob_eq]
      rw [ez]
      by_cases hle : scr n tm ≤ b
      · have hb : (if b < scr n tm then scr n tm else b) = b := if_neg (fun e => by
          have a1 := Int32.le_iff_toInt_le.mp hle
          have a2 := Int32.lt_iff_toInt_lt.mp e
          omega)
        rw [if_pos hle, e93, hb]
      · rw [if_neg hle, m_score h ok h2 hn htm]
        simp only [ob_eq]
        have hb : (if b < scr n tm then scr n tm else b) = scr n tm := if_pos (fa_of_nle hle)
        rw [e93, hb]
    unfold fb_X10_about_36 fs_X10_about_36
    rw [if_pos (show inb 1 394 = true by decide), c1, h1, if_neg (nI_ge (by omega) (by omega)), m_isThere h ok h2 hn htm]
    simp only [ob_eq]
    rw [dropC htm]
    have fin : fs_X10_about_65 (fb_X10_about_36 fu) a b hh (nI i) (nI c) (b2 ((setOf tm.1).testBit (n - 1))) g = abEnd a (nI (fTeamsAt (n - 1) (tm :: S.2.2.2.drop (i + 1)) c)) (fBest n (tm :: S.2.2.2.drop (i + 1)) b) (fHints (tm :: S.2.2.2.drop (i + 1)) hh) g := by
      rw [e65, ih (i + 1) _ _ _ fu (by omega) (by omega)]
      rfl
    cases ec : (setOf tm.1).testBit (n - 1) with
    | true => rw [ec] at fin; rw [b2_t, if_neg one0]; exact fin
    | false => rw [ec] at fin; rw [b2_f, if_pos zero0]; exact fin
end RA
section RB
variable {tx : List Nat} {n : Nat} {hm : Nat → Nat} {S : aS} {L : List aS} {K : Nat → Option aS}
theorem op_about (ok : okA tx n hm S L K) (i : Int32) : opOK tx n hm S L K (f_X9_about i) (f_X10_about i) G1 := by
  obtain ⟨o1, o2, h2, hn, o5, o6, o7, o8⟩ := id ok
  cases hi : decide (0 ≤ i.toInt ∧ i.toInt ≤ ((5 : Nat) : Int)) with
  | false =>
    have q : ∀ j, j ≤ 5 → ¬ i = nI j := fun j hj => nin_ne (by decide) hi hj
    refine opOK_same ok (.inr 1) (fun g hC => stC_rf hC ?_) (fun g hM => resM_r 0 1 one0 (fun _ => rfl) (stM_rf hM ?_))
    · unfold f_X9_about
      rw [if_neg (show ¬ i = (0 : Int32) from q 0 (by decide)), if_neg (show ¬ i = (1 : Int32) from q 1 (by decide)), if_neg (show ¬ i = (2 : Int32) from q 2 (by decide)), if_neg (show ¬ i = (3 : Int32) from q 3 (by decide)), if_neg (show ¬ i = (4 : Int32) from q 4 (by decide)), if_neg (show ¬ i = (5 : Int32) from q 5 (by decide))]
    · unfold f_X10_about
      rw [show f_X10_in i.toInt64 (0 : Int64) (5 : Int64) g = _ from m_inL i 5 (by decide) g, hi]
      simp only [ob_eq]
      rw [b2_f, if_pos zero0]
      unfold fs_X10_about_18
      rw [ref1]
      simp only [ob_eq]
      rw [if_neg one0]
  | true =>
    have hmod : ∀ (v : Int32), (∀ g, InvM tx n hm S L K g → abEnd i (nI (fTeamsAt (n - 1) S.2.2.2 0)) (fBest n S.2.2.2 0) (fHints S.2.2.2 0) g = some (v, g)) → ∀ g, InvM tx n hm S L K g → resM (.inl v) (f_X10_about i g) g G1 (InvM tx n hm S L K) := by
      intro v hv g hM
      have hM' := InvM_r 0 hM
      refine resM_l (stM_rf hM ?_)
      unfold f_X10_about
      rw [show f_X10_in i.toInt64 (0 : Int64) (5 : Int64) g = _ from m_inL i 5 (by decide) g, hi]
      simp only [ob_eq]
      rw [b2_t, if_neg one0]
      unfold fs_X10_about_18
      rw [ref0]
      simp only [ob_eq]
      rw [if_pos trivial]
      have h9 := m_about_l h2 hn hM'.2.1 o6 i S.2.2.2.length 0 0 0 0 gFuel (by omega) (by have := o6.2.1; unfold gFuel; omega)
      exact h9.trans (hv _ hM')
    obtain ⟨j, hj, rfl⟩ := in_nI hi
    have hj6 : j = 0 ∨ j = 1 ∨ j = 2 ∨ j = 3 ∨ j = 4 ∨ j = 5 := by omega
    rcases hj6 with rfl | rfl | rfl | rfl | rfl | rfl
    · refine opOK_same ok (.inl (nI n)) (fun g hC => stC_rf hC ?_) (hmod _ (fun g hM => ?_))
      · unfold f_X9_about f_X0_count
        rw [if_pos (show nI 0 = (0 : Int32) from rfl), hC.2.1.1]
        simp only [ob_eq]
      · unfold abEnd
        rw [if_neg (by decide), if_pos (by decide)]
        exact congrArg (fun v => some (v, g)) hM.2.1.1.1
    · refine opOK_same ok (.inl (nI S.2.2.2.length)) (fun g hC => stC_rf hC ?_) (hmod _ (fun g hM => ?_))
      · unfold f_X9_about f_X5_teamCount
        rw [if_neg (show ¬ (nI 1 = (0 : Int32)) by decide), if_pos (show nI 1 = (1 : Int32) from rfl), show g.1 16 9 = _ from hC.2.2.1.2.1]
        simp only [ob_eq]
      · unfold abEnd
        rw [if_neg (by decide), if_pos (by decide)]
        exact congrArg (fun v => some (v, g)) hM.2.1.2.1
    · refine opOK_same ok (.inl (nI (fTeamsAt (n - 1) S.2.2.2 0))) (fun g hC => stC_rf hC ?_) (hmod _ (fun g hM => ?_))
      · unfold f_X9_about f_X0_chest
        rw [if_neg (show ¬ (nI 2 = (0 : Int32)) by decide), if_neg (show ¬ (nI 2 = (1 : Int32)) by decide), if_pos (show nI 2 = (2 : Int32) from rfl), hC.2.1.1, show nI n - (1 : Int32) = nI (n - 1) from pk_sub (a := n) (b := 1) (by omega)]
        simp only [ob_eq]
        rw [c_teamsAt hC.2.2.1 o6 hn (by omega)]
        simp only [ob_eq]
      · unfold abEnd
        rw [if_pos (by decide), if_pos (show nI 2 = (2 : Int32) from rfl)]
    · refine opOK_same ok (.inl (fBest n S.2.2.2 0)) (fun g hC => stC_rf hC ?_) (hmod _ (fun g hM => ?_))
      · unfold f_X9_about
        rw [if_neg (show ¬ (nI 3 = (0 : Int32)) by decide), if_neg (show ¬ (nI 3 = (1 : Int32)) by decide), if_neg (show ¬ (nI 3 = (2 : Int32)) by decide), if_pos (show nI 3 = (3 : Int32) from rfl), c_best hC.2.1 h2 hC.2.2.1 o6 hn]
        simp only [ob_eq]
      · unfold abEnd
        rw [if_pos (by decide), if_neg (by decide), if_pos (show nI 3 = (3 : Int32) from rfl)]
    · have hlt : fAny S.2.2.2 0 < 2 ^ n := fAny_lt S.2.2.2 0 (Nat.two_pow_pos n) o6.2.2.2
      have h10 := lt1024 hlt hn
      refine opOK_same ok (.inl (nI (cnt (fun i => (fAny S.2.2.2 0).testBit i) 10))) (fun g hC => stC_rf hC ?_) (hmod _ (fun g hM => ?_))
      · unfold f_X9_about
        rw [if_neg (show ¬ (nI 4 = (0 : Int32)) by decide), if_neg (show ¬ (nI 4 = (1 : Int32)) by decide), if_neg (show ¬ (nI 4 = (2 : Int32)) by decide), if_neg (show ¬ (nI 4 = (3 : Int32)) by decide), if_pos (show nI 4 = (4 : Int32) from rfl), c_any hC.2.2.1 o6]
        simp only [ob_eq]
        rw [c_count h10]
        simp only [ob_eq]
      · unfold abEnd
        rw [if_pos (by decide), if_neg (by decide), if_neg (by decide), if_pos (show nI 4 = (4 : Int32) from rfl), m_any hM.2.1 o6 hn]
        simp only [ob_eq]
        rw [m_count (by omega)]
        simp only [ob_eq]
    · refine opOK_same ok (.inl (fHints S.2.2.2 0)) (fun g hC => stC_rf hC ?_) (hmod _ (fun g hM => ?_))
      · unfold f_X9_about
        rw [if_neg (show ¬ (nI 5 = (0 : Int32)) by decide), if_neg (show ¬ (nI 5 = (1 : Int32)) by decide), if_neg (show ¬ (nI 5 = (2 : Int32)) by decide), if_neg (show ¬ (nI 5 = (3 : Int32)) by decide), if_neg (show ¬ (nI 5 = (4 : Int32)) by decide), if_pos (show nI 5 = (5 : Int32) from rfl), c_hints hC.2.2.1 o6]
        simp only [ob_eq]
      · unfold abEnd
        rw [if_pos (by decide), if_neg (by decide), if_neg (by decide), if_neg (by decide)]
theorem isP_p {a : Int32} (hn : n ≤ 10) (h : decide (0 ≤ a.toInt ∧ a.toInt < n) = true) : ∃ p, p < n ∧ a = nI p := by
  have h1 := of_decide_eq_true h
  refine ⟨a.toInt.toNat, by omega, ?_⟩
  apply Int32.toInt_inj.mp
  rw [nI_toInt (by omega)]
  omega
theorem m_place_l {g : gG} (hn : n ≤ 10) (h : mS (g.1 183) n hm S) (ok : okS n S) {p : Nat} (hp : p < n) (a : Int32) (d : Nat) : ∀ i c fu, i + d = S.2.2.2.length → d < fu → fb_X10_place_61 fu (nI p) a (nI c) (nI i) g = if a = (2 : Int32) then (some (nI (fTeamsAt p (S.2.2.2.drop i) c), g)) else ((f_X10_heldBy 183 394 (nI p) g).bind (fun u3 => some (u3.1, u3.2))) := by
  have h1 : g.1 183 1 = nI S.2.2.2.length := h.2.1
  have c1 : (1 : Int32).toNatClampNeg = 1 := by decide
  have hT := ok.2.1
  induction d with
  | zero =>
    intro i c fu hi hf
    obtain ⟨fu, rfl⟩ : ∃ f', fu = f' + 1 := ⟨fu - 1, by omega⟩
    have e : i = S.2.2.2.length := by omega
    subst e
    unfold fb_X10_place_61 fs_X10_place_61
    rw [if_pos (show inb 1 394 = true by decide), c1, h1, if_pos (nI_le (Nat.le_refl _) (by omega)), List.drop_length]
    rfl
  | succ d ih =>
    intro i c fu hi hf
    obtain ⟨fu, rfl⟩ : ∃ f', fu = f' + 1 := ⟨fu - 1, by omega⟩
    obtain ⟨tm, htm⟩ := get_lt (l := S.2.2.2) (t := i) (by omega)
    unfold fb_X10_place_61 fs_X10_place_61
    rw [if_pos (show inb 1 394 = true by decide), c1, h1, if_neg (nI_ge (by omega) (by omega)), m_visited h ok hn htm]
    simp only [ob_eq]
    rw [m_has (by omega)]
    simp only [ob_eq]
    unfold fs_X10_place_94
    simp only [gl_eq, nI_1]
    rw [dropC htm]
    cases ec : (setOf tm.1).testBit p with
    | true =>
      rw [b2_t, if_neg one0, ih (i + 1) _ fu (by omega) (by omega)]
      unfold fTeamsAt
      rw [List.foldl_cons, ec, if_pos rfl]
    | false =>
      rw [b2_f, if_pos zero0, show nI c + (0 : Int32) = nI c from nI_add c 0, ih (i + 1) _ fu (by omega) (by omega)]
      unfold fTeamsAt
      rw [List.foldl_cons, ec, if_neg (show ¬ (false = true) by decide)]
theorem op_place (ok : okA tx n hm S L K) (a i : Int32) : opOK tx n hm S L K (f_X9_place a i) (f_X10_place a i) G31 := by
  obtain ⟨o1, o2, h2, hn, o5, o6, o7, o8⟩ := id ok
  cases hP : decide (0 ≤ a.toInt ∧ a.toInt < n) with
  | false =>
    refine opOK_same ok (.inr 3) (fun g hC => stC_rf hC ?_) (fun g hM => resM_r 0 1 one0 (fun _ => rfl) (stM_rf hM ?_))
    · unfold f_X9_place
      rw [c_reqPlace hC.2.1 hn, hP, if_neg (by decide), gXb_r]
    · unfold f_X10_place
      rw [m_isPlace hM.2.1.1 hn, hP]
      simp only [ob_eq]
      rw [b2_f, if_pos zero0]
      unfold fs_X10_place_30
      rw [ref1]
      simp only [ob_eq]
      rw [if_neg one0]
  | true =>
    obtain ⟨p, hp, rfl⟩ := isP_p hn hP
    cases hi : decide (0 ≤ i.toInt ∧ i.toInt ≤ ((3 : Nat) : Int)) with
    | false =>
      have q : ∀ j, j ≤ 3 → ¬ i = nI j := fun j hj => nin_ne (by decide) hi hj
      refine opOK_same ok (.inr 1) (fun g hC => stC_rf hC ?_) (fun g hM => resM_r 0 2 (by decide) (fun _ => rfl) (stM_rf hM ?_))
      · unfold f_X9_place
        rw [c_reqPlace hC.2.1 hn, hP, if_pos rfl, gXb_l, if_neg (show ¬ i = (0 : Int32) from q 0 (by decide)), if_neg (show ¬ i = (1 : Int32) from q 1 (by decide)), if_neg (show ¬ i = (2 : Int32) from q 2 (by decide)), if_neg (show ¬ i = (3 : Int32) from q 3 (by decide))]
      · unfold f_X10_place
        rw [m_isPlace hM.2.1.1 hn, hP]
        simp only [ob_eq]
        rw [b2_t, if_neg one0, show f_X10_in i.toInt64 (0 : Int64) (3 : Int64) g = _ from m_inL i 3 (by decide) g, hi]
        simp only [ob_eq]
        rw [b2_f, if_pos zero0]
        unfold fs_X10_place_30
        rw [ref2]
        simp only [ob_eq]
        rw [if_neg one0]
    | true =>
      have hmod : ∀ (v : Int32), (∀ g, InvM tx n hm S L K g → (if (2 : Int32) ≤ i then (fb_X10_place_61 gFuel (nI p) i (0 : Int32) (0 : Int32) g) else (if inb (((2 : Int32) + ((2 : Int32) * nI p)) + i) 394 = true then some ((g.1 183 (((2 : Int32) + ((2 : Int32) * nI p)) + i).toNatClampNeg), g) else none)) = some (v, g)) → ∀ g, InvM tx n hm S L K g → resM (.inl v) (f_X10_place (nI p) i g) g G31 (InvM tx n hm S L K) := by
        intro v hv g hM
        have hM' := InvM_r 0 hM
        refine resM_l (stM_rf hM ?_)
        unfold f_X10_place
        rw [m_isPlace hM.2.1.1 hn, hP]
        simp only [ob_eq]
        rw [b2_t, if_neg one0, show f_X10_in i.toInt64 (0 : Int64) (3 : Int64) g = _ from m_inL i 3 (by decide) g, hi]
        simp only [ob_eq]
        rw [b2_t, if_neg one0]
        unfold fs_X10_place_30
        rw [ref0]
        simp only [ob_eq]
        rw [if_pos trivial]
        exact hv _ hM'
      have hidx : ∀ j, (2 : Int32) + (2 : Int32) * nI p + nI j = nI (2 + 2 * p + j) := fun j => by
        show nI 2 + nI 2 * nI p + nI j = _
        rw [pk_mul, nI_add, nI_add]
      have hlo : ∀ g, InvM tx n hm S L K g → ∀ c fu, S.2.2.2.length < fu → fb_X10_place_61 fu (nI p) i (nI c) (nI 0) g = if i = (2 : Int32) then (some (nI (fTeamsAt p S.2.2.2 c), g)) else ((f_X10_heldBy 183 394 (nI p) g).bind (fun u3 => some (u3.1, u3.2))) := fun g hM c fu hf => m_place_l hn hM.2.1 o6 hp i S.2.2.2.length 0 c fu (by omega) hf
      have hfl : S.2.2.2.length < gFuel := by have := o6.2.1; unfold gFuel; omega
      obtain ⟨j, hj, rfl⟩ := in_nI hi
      have hj4 : j = 0 ∨ j = 1 ∨ j = 2 ∨ j = 3 := by omega
      rcases hj4 with rfl | rfl | rfl | rfl
      · refine opOK_same ok (.inl (nI (S.1 p))) (fun g hC => stC_rf hC ?_) (hmod _ (fun g hM => ?_))
        · unfold f_X9_place
          rw [c_reqPlace hC.2.1 hn, hP, if_pos rfl, gXb_l, if_pos (show nI 0 = (0 : Int32) from rfl), c_xOf (X := S.1) (Y := S.2.1) (E := S.2.2.1) (T := S.2.2.2) hC.2.2.1 (by omega)]
          simp only [ob_eq]
        · rw [if_neg (by decide), hidx, if_pos (inb_nI (by omega) (by decide)), nI_clamp (by omega)]
          exact congrArg (fun v => some (v, g)) (hM.2.1.2.2.1 p hp).1
      · refine opOK_same ok (.inl (nI (S.2.1 p))) (fun g hC => stC_rf hC ?_) (hmod _ (fun g hM => ?_))
        · unfold f_X9_place
          rw [c_reqPlace hC.2.1 hn, hP, if_pos rfl, gXb_l, if_neg (show ¬ (nI 1 = (0 : Int32)) by decide), if_pos (show nI 1 = (1 : Int32) from rfl), c_yOf (X := S.1) (Y := S.2.1) (E := S.2.2.1) (T := S.2.2.2) hC.2.2.1 (by omega)]
          simp only [ob_eq]
        · rw [if_neg (by decide), hidx, if_pos (inb_nI (by omega) (by decide)), nI_clamp (by omega), show 2 + 2 * p + 1 = 3 + 2 * p by omega]
          exact congrArg (fun v => some (v, g)) (hM.2.1.2.2.1 p hp).2
      · refine opOK_same ok (.inl (nI (fTeamsAt p S.2.2.2 0))) (fun g hC => stC_rf hC ?_) (hmod _ (fun g hM => ?_))
        · unfold f_X9_place
          rw [c_reqPlace hC.2.1 hn, hP, if_pos rfl, gXb_l, if_neg (show ¬ (nI 2 = (0 : Int32)) by decide), if_neg (show ¬ (nI 2 = (1 : Int32)) by decide), if_pos (show nI 2 = (2 : Int32) from rfl), c_teamsAt hC.2.2.1 o6 hn (by omega)]
          simp only [ob_eq]
        · rw [if_pos (by decide), show (0 : Int32) = nI 0 from rfl, hlo g hM 0 gFuel hfl, if_pos (show nI 2 = (2 : Int32) from rfl)]
      · refine opOK_same ok (.inl (nI (fOpens (effH hm S.2.2.1) p (2 ^ n) 0 0))) (fun g hC => stC_rf hC ?_) (hmod _ (fun g hM => ?_))
        · unfold f_X9_place
          rw [c_reqPlace hC.2.1 hn, hP, if_pos rfl, gXb_l, if_neg (show ¬ (nI 3 = (0 : Int32)) by decide), if_neg (show ¬ (nI 3 = (1 : Int32)) by decide), if_neg (show ¬ (nI 3 = (2 : Int32)) by decide), if_pos (show nI 3 = (3 : Int32) from rfl), c_opens hC.2.1 hC.2.2.1 o6 hn (by omega)]
          simp only [ob_eq]
        · rw [if_pos (by decide), show (0 : Int32) = nI 0 from rfl, hlo g hM 0 gFuel hfl, if_neg (by decide), m_opens hM.2.1.1 h2 hn hp]
          simp only [ob_eq]
theorem op_holds (ok : okA tx n hm S L K) (a i : Int32) : opOK tx n hm S L K (f_X9_holds a i) (f_X10_holds a i) G31 := by
  obtain ⟨o1, o2, h2, hn, o5, o6, o7, o8⟩ := id ok
  have h1024 : 2 ^ n ≤ 1024 := Nat.pow_le_pow_right (n := 2) (j := 10) (by decide) hn
  have hpos : 0 < 2 ^ n := Nat.two_pow_pos n
  cases hP : decide (0 ≤ a.toInt ∧ a.toInt < n) with
  | false =>
    refine opOK_same ok (.inr 3) (fun g hC => stC_rf hC ?_) (fun g hM => resM_r 0 1 one0 (fun _ => rfl) (stM_rf hM ?_))
    · unfold f_X9_holds
      rw [c_reqPlace hC.2.1 hn, hP, if_neg (by decide), gXb_r]
    · unfold f_X10_holds
      rw [m_isPlace hM.2.1.1 hn, hP]
      simp only [ob_eq]
      rw [b2_f, if_pos zero0]
      unfold fs_X10_holds_38
      rw [ref1]
      simp only [ob_eq]
      rw [if_neg one0]
  | true =>
    obtain ⟨p, hp, rfl⟩ := isP_p hn hP
    have hin : ∀ g, InvM tx n hm S L K g → f_X10_holds (nI p) i g = if decide (0 ≤ i.toInt ∧ i.toInt ≤ ((2 ^ n - 1 : Nat) : Int)) = true then fs_X10_holds_38 (nI p) i (0 : Int32) g else fs_X10_holds_38 (nI p) i (2 : Int32) g := by
      intro g hM
      unfold f_X10_holds
      rw [m_isPlace hM.2.1.1 hn, hP]
      simp only [ob_eq]
      rw [b2_t, if_neg one0, if_pos (inb0 (by decide) (by decide)), clamp0, hM.2.1.1.1, show (1 : Int32) <<< (nI n &&& 31) = nI (2 ^ n) from nI_shl1 (by omega), show nI (2 ^ n) - (1 : Int32) = nI (2 ^ n - 1) from pk_sub (a := 2 ^ n) (b := 1) hpos, nI_l (by omega), m_inL i (2 ^ n - 1) (by omega)]
      simp only [ob_eq]
      cases decide (0 ≤ i.toInt ∧ i.toInt ≤ ((2 ^ n - 1 : Nat) : Int)) with
      | true => rw [b2_t, if_neg one0, if_pos rfl]
      | false => rw [b2_f, if_pos zero0, if_neg (by decide)]
    cases hi : decide (0 ≤ i.toInt ∧ i.toInt ≤ ((2 ^ n - 1 : Nat) : Int)) with
    | false =>
      refine opOK_same ok (.inr 1) (fun g hC => stC_rf hC ?_) (fun g hM => resM_r 0 2 (by decide) (fun _ => rfl) (stM_rf hM ?_))
      · unfold f_X9_holds fs_X9_holds_20
        rw [c_reqPlace hC.2.1 hn, hP, if_pos rfl, gXb_l]
        by_cases hneg : i < 0
        · rw [if_pos hneg]
        · rw [if_neg hneg, c_allPlaces hC.2.1 hn]
          simp only [ob_eq]
          rw [if_neg]
          intro hle
          obtain ⟨j, hj, rfl⟩ := nI_of hneg
          have h3 := of_decide_eq_false hi
          have h4 := Int32.le_iff_toInt_le.mp hle
          rw [nI_toInt hj, nI_toInt (by omega)] at h4
          rw [nI_toInt hj] at h3
          omega
      · rw [hin g hM, hi, if_neg (by decide)]
        unfold fs_X10_holds_38
        rw [ref2]
        simp only [ob_eq]
        rw [if_neg one0]
    | true =>
      obtain ⟨j, hj, rfl⟩ := in_nI hi
      refine opOK_same ok (.inl (b2 (effH hm S.2.2.1 p j))) (fun g hC => stC_rf hC ?_) (fun g hM => resM_l (stM_rf hM ?_))
      · unfold f_X9_holds
        rw [c_reqPlace hC.2.1 hn, hP, if_pos rfl, gXb_l, if_neg (nI_pos (by omega)), c_allPlaces hC.2.1 hn]
        simp only [ob_eq]
        rw [if_pos (nI_le hj (by omega)), c_eased hC.2.2.1]
        simp only [ob_eq]
        rw [c_isHeld hC.2.1 hn (by omega) (lt1024 o6.1 hn)]
        simp only [ob_eq, b2_gZb, if_true]
      · have hM' := InvM_r 0 hM
        rw [hin g hM, hi, if_pos rfl]
        unfold fs_X10_holds_38
        rw [ref0]
        simp only [ob_eq]
        rw [if_pos trivial, m_isHeld hM'.2.1.1 hn hp (by omega)]
        simp only [ob_eq]
        cases effH hm S.2.2.1 p j with
        | true => rw [b2_t, if_neg one0]
        | false => rw [b2_f, if_pos zero0]
end RB
/-- calls that never throw -/
def opV (tx : List Nat) (n : Nat) (hm : Nat → Nat) (S : aS) (L : List aS) (K : Nat → Option aS) (X Y : gG → Option (Int32 × gG)) : Prop := ∃ v tx', okA tx' n hm S L K ∧ (∀ g, InvC tx n hm S L K g → ∃ g', X g = some (v, g') ∧ InvC tx' n hm S L K g' ∧ ∀ j, (174 ≤ j ∨ j = 6 ∨ j = 7) → g'.1 j = g.1 j) ∧ ∀ g, InvM tx n hm S L K g → ∃ g', Y g = some (v, g') ∧ InvM tx' n hm S L K g' ∧ ∀ j, j < 174 → g'.1 j = g.1 j
theorem law_void {tx : List Nat} {n : Nat} {hm : Nat → Nat} {S : aS} {L : List aS} {K : Nat → Option aS} {X Y : gG → Option (Int32 × gG)} (h : opV tx n hm S L K X Y) {g : gG} (hC : InvC tx n hm S L K g) (hM : InvM tx n hm S L K g) (hr : rdC g) (l4 : Int32) (F : Int32 → gG → Option Unit) : ∃ g2, Inv g2 ∧ (X g).bind (fun u1 => (Y u1.2).bind (fun u2 => if u1.1 = u2.1 then (gLet (l4 + (4 : Int32)) (fun x4 => F x4 u2.2)) else (none))) = F (l4 + (4 : Int32)) g2 := by
  obtain ⟨v, tx', ok', h1, h2⟩ := h
  obtain ⟨g', e1, c1, f1⟩ := h1 g hC
  obtain ⟨g2, e2, c2, f2⟩ := h2 g' (InvM_eq hM (by rw [f1 174 (by omega)]) (by rw [f1 174 (by omega)]) (fun j hj => by rw [f1 j (by omega)]))
  refine ⟨g2, ⟨tx', n, hm, S, L, K, ok', InvC_eq c1 (fun j hj => f2 j (by omega)), c2, rdC_eq hr (by rw [f2 6 (by decide), f1 6 (by decide)]) (by rw [f2 7 (by decide), f1 7 (by decide)])⟩, ?_⟩
  rw [e1]
  simp only [ob_eq, gl_eq]
  rw [e2]
  simp only [ob_eq]
  rw [if_pos trivial]
section VO
variable {tx : List Nat} {n : Nat} {hm : Nat → Nat} {S : aS} {L : List aS} {K : Nat → Option aS}
theorem op_clearText (ok : okA tx n hm S L K) : opV tx n hm S L K f_X9_clearText f_X10_clearText := by
  refine ⟨nI tx.length, [], ⟨by simp, fun c hc => by simp at hc, ok.2.2⟩, fun g hC => ?_, fun g hM => ?_⟩
  · refine ⟨gI1 g 1 1 0, ?_, ⟨⟨?_, fun j c hc => by simp at hc⟩, ?_, ?_, ?_, ?_⟩, fun j hj => by rw [gI1_1, if_neg (by omega)]⟩
    · unfold f_X9_clearText f_X6_empty
      simp only [gl_eq, ob_eq]
      rw [hC.1.1]
    · rw [r_self, if_pos rfl]; rfl
    · have fr : frm 1 2 g (gI1 g 1 1 0) := frm.rf.i1 (by omega) (by omega)
      exact cH_fr hC.2.1 fr (by omega)
    · exact cS_eq hC.2.2.1 (fun j hj => by rw [gI1_1, if_neg (by omega)])
    · exact cMem_eq hC.2.2.2.1 (fun j a b => by rw [gI1_1, if_neg (by omega)])
    · exact slC_eq hC.2.2.2.2 (fun j a b => by rw [gI1_1, if_neg (by omega)])
  · have fr : ∀ j, j ≠ 174 → (gI1 (gI1 g 174 0 0) 174 2 0).1 j = g.1 j := fun j hj => by rw [gI1_1, if_neg hj, gI1_1, if_neg hj]
    refine ⟨gI1 (gI1 g 174 0 0) 174 2 0, ?_, ⟨⟨?_, fun j c hc => by simp at hc⟩, ?_, ⟨hM.2.2.1.1, ?_, ?_⟩, ?_⟩, fun j hj => fr j (by omega)⟩
    · unfold f_X10_clearText
      simp only [gl_eq]
      rw [r_self, if_neg (by decide), hM.1.1]
    · rw [r_self, if_pos rfl]; rfl
    · rw [fr 183 (by omega)]; exact hM.2.1
    · rw [r_self, if_neg (by decide), r_self, if_neg (by decide)]; exact hM.2.2.1.2.1
    · intro i S' hS
      rw [fr 185 (by omega)]; exact hM.2.2.1.2.2 i S' hS
    · intro i hi
      rw [fr 187 (by omega), fr 186 (by omega)]; exact hM.2.2.2 i hi
theorem op_deadEnds (ok : okA tx n hm S L K) : opV tx n hm S L K f_X9_deadEnds f_X10_deadEnds := by
  obtain ⟨o1, o2, h2, hn, o5, o6, o7, o8⟩ := id ok
  refine ⟨nI (dedN n (effH hm S.2.2.1)), tx, ok, fun g hC => ?_, fun g hM => ?_⟩
  · obtain ⟨g', e, c⟩ := c_dead hC.2.1 h2 hn o6.1
    refine ⟨g', ?_, InvC_fr hC c (by decide), fun j hj => c.1 j (by omega)⟩
    unfold f_X9_deadEnds
    rw [c_eased hC.2.2.1]
    simp only [ob_eq]
    rw [e]
    simp only [ob_eq]
  · have hM' := InvM_r 0 hM
    obtain ⟨g', e, c⟩ := m_dead (g := gI1 g 174 0 0) (r := 183) h2 hn (by decide) hM'.2.1.1
    refine ⟨g', ?_, InvM_fr hM' c (by decide), fun j hj => by rw [c.1 j (by omega), gI1_1, if_neg (by omega)]⟩
    unfold f_X10_deadEnds
    simp only [gl_eq]
    rw [e]
    simp only [ob_eq]
noncomputable def ezP (n : Nat) (hm : Nat → Nat) (E p : Nat) : Bool := decide (dedN n (effH hm (E ||| 2 ^ p)) = 0)
theorem c_easeBy_l {E : Nat} (h2 : 2 ≤ n) (hn : n ≤ 10) (hE : E < 2 ^ n) (d : Nat) : ∀ (g : gG) i fu, i + d = n → d < fu → cH g n hm → ∃ g', fb_X9_easeBy_24 fu (nI E) (nI i) g = some (fFirst (ezP n hm E) d i, g') ∧ frm 157 162 g g' := by
  induction d with
  | zero =>
    intro g i fu hi hf hH
    obtain ⟨fu, rfl⟩ : ∃ f', fu = f' + 1 := ⟨fu - 1, by omega⟩
    have e : i = n := by omega
    subst e
    refine ⟨g, ?_, frm.rf⟩
    unfold fb_X9_easeBy_24 fs_X9_easeBy_24 f_X0_count
    simp only [ob_eq]
    rw [hH.1, if_pos (nI_le (Nat.le_refl _) (by omega))]
    rfl
  | succ d ih =>
    intro g i fu hi hf hH
    obtain ⟨fu, rfl⟩ : ∃ f', fu = f' + 1 := ⟨fu - 1, by omega⟩
    have hlt : E ||| 2 ^ i < 2 ^ n := or_lt hE (by omega)
    obtain ⟨g1, e1, c1⟩ := c_dead hH h2 hn hlt
    have hcl := cnt_k (ded n (effH hm (E ||| 2 ^ i))) (2 ^ n)
    have h1024 : 2 ^ n ≤ 1024 := Nat.pow_le_pow_right (n := 2) (j := 10) (by decide) hn
    have hcl : dedN n (effH hm (E ||| 2 ^ i)) ≤ 2 ^ n := hcl
    unfold fb_X9_easeBy_24 fs_X9_easeBy_24 f_X0_count fFirst
    simp only [ob_eq]
    rw [hH.1, if_neg (nI_ge (by omega) (by omega)), show (1 : Int32) <<< (nI i &&& 31) = nI (2 ^ i) from nI_shl1 (by omega), fa_or, e1]
    simp only [ob_eq, gl_eq, nI_1]
    by_cases e9 : dedN n (effH hm (E ||| 2 ^ i)) = 0
    · have ez : ezP n hm E i = true := decide_eq_true e9
      rw [if_pos ((nI_z (by omega)).mpr e9), ez, if_pos rfl]
      exact ⟨g1, rfl, c1⟩
    · have ez : ezP n hm E i = false := decide_eq_false e9
      obtain ⟨g2, e2, c2⟩ := ih g1 (i + 1) fu (by omega) (by omega) (cH_fr hH c1 (by omega))
      rw [if_neg (fun e8 => e9 ((nI_z (by omega)).mp e8)), ez, if_neg (by decide)]
      exact ⟨g2, e2, c1.tr c2⟩
theorem m_easeBy_l (h2 : 2 ≤ n) (hn : n ≤ 10) (ok : okS n S) (d : Nat) : ∀ (g : gG) i fu, i + d = n → d < fu → mS (g.1 183) n hm S → ∃ g', fb_X10_easeBy_21 fu (nI i) g = some (fFirst (ezP n hm S.2.2.1) d i, g') ∧ frm 184 190 g g' ∧ (∀ j, 185 ≤ j → j < 188 → g'.1 j = g.1 j) := by
  induction d with
  | zero =>
    intro g i fu hi hf h
    obtain ⟨fu, rfl⟩ : ∃ f', fu = f' + 1 := ⟨fu - 1, by omega⟩
    have e : i = n := by omega
    subst e
    refine ⟨g, ?_, frm.rf, fun j _ _ => rfl⟩
    unfold fb_X10_easeBy_21 fs_X10_easeBy_21
    rw [if_pos (inb0 (by decide) (by decide)), clamp0, h.1.1, if_pos (nI_le (Nat.le_refl _) (by omega))]
    rfl
  | succ d ih =>
    intro g i fu hi hf h
    obtain ⟨fu, rfl⟩ : ∃ f', fu = f' + 1 := ⟨fu - 1, by omega⟩
    obtain ⟨X, Y, E, T⟩ := S
    obtain ⟨g1, e1, a1, b1, c1⟩ := m_begin hn ok h
    obtain ⟨g2, e2, a2, b2'⟩ := m_easy (r := 184) hn a1 ok (p := i) (by omega)
    obtain ⟨g3, e3, c3⟩ := m_dead (g := g2) (r := 184) h2 hn (by decide) a2.1
    have hcl := cnt_k (ded n (effH hm (E ||| 2 ^ i))) (2 ^ n)
    have h1024 : 2 ^ n ≤ 1024 := Nat.pow_le_pow_right (n := 2) (j := 10) (by decide) hn
    have hcl : dedN n (effH hm (E ||| 2 ^ i)) ≤ 2 ^ n := hcl
    have fr3 : frm 184 190 g g3 := ⟨fun j hj => by rw [c3.1 j (by omega), b2'.1 j (by omega), b1 j (by omega)], c3.2.trans (b2'.2.trans c1)⟩
    have fr4 : ∀ j, 185 ≤ j → j < 188 → g3.1 j = g.1 j := fun j h7 h8 => by rw [c3.1 j (by omega), b2'.1 j (by omega), b1 j (by omega)]
    have e3 : f_X10_deadOf 184 394 g2 = some (nI (dedN n (effH hm (E ||| 2 ^ i))), g3) := e3
    unfold fb_X10_easeBy_21 fs_X10_easeBy_21 fFirst
    rw [if_pos (inb0 (by decide) (by decide)), clamp0, h.1.1, if_neg (nI_ge (by omega) (by omega)), e1]
    simp only [ob_eq]
    rw [e2]
    simp only [ob_eq]
    rw [e3]
    simp only [ob_eq, gl_eq, nI_1]
    by_cases e9 : dedN n (effH hm (E ||| 2 ^ i)) = 0
    · have ez : ezP n hm E i = true := decide_eq_true e9
      rw [if_pos ((nI_z (by omega)).mpr e9)]
      show ∃ g', some (nI i, g3) = some (if ezP n hm E i = true then _ else _, g') ∧ _
      rw [ez, if_pos rfl]
      exact ⟨g3, rfl, fr3, fr4⟩
    · have ez : ezP n hm E i = false := decide_eq_false e9
      obtain ⟨g4, e4, c4, d4⟩ := ih g3 (i + 1) fu (by omega) (by omega) (by rw [fr3.1 183 (by omega)]; exact h)
      rw [if_neg (fun e8 => e9 ((nI_z (by omega)).mp e8))]
      show ∃ g', fb_X10_easeBy_21 fu (nI (i + 1)) g3 = some (if ezP n hm E i = true then _ else _, g') ∧ _
      rw [ez, if_neg (by decide)]
      exact ⟨g4, e4, fr3.tr c4, fun j h7 h8 => by rw [d4 j h7 h8, fr4 j h7 h8]⟩
theorem op_easeBy (ok : okA tx n hm S L K) : opV tx n hm S L K f_X9_easeBy f_X10_easeBy := by
  obtain ⟨o1, o2, h2, hn, o5, o6, o7, o8⟩ := id ok
  have hcl := cnt_k (ded n (effH hm S.2.2.1)) (2 ^ n)
  have h1024 : 2 ^ n ≤ 1024 := Nat.pow_le_pow_right (n := 2) (j := 10) (by decide) hn
  have hcl : dedN n (effH hm S.2.2.1) ≤ 2 ^ n := hcl
  refine ⟨if dedN n (effH hm S.2.2.1) = 0 then -9 else fFirst (ezP n hm S.2.2.1) n 0, tx, ok, fun g hC => ?_, fun g hM => ?_⟩
  · obtain ⟨g1, e, c⟩ := c_dead hC.2.1 h2 hn o6.1
    have est : f_X9_easeBy g = if nI (dedN n (effH hm S.2.2.1)) = (0 : Int32) then (some ((-9 : Int32), g1)) else (fb_X9_easeBy_24 gFuel (nI S.2.2.1) (0 : Int32) g1) := by
      unfold f_X9_easeBy
      rw [c_eased hC.2.2.1]
      simp only [ob_eq, gl_eq]
      rw [e]
      simp only [ob_eq]
    rw [est]
    by_cases e9 : dedN n (effH hm S.2.2.1) = 0
    · rw [if_pos ((nI_z (by omega)).mpr e9), if_pos e9]
      exact ⟨g1, rfl, InvC_fr hC c (by decide), fun j hj => c.1 j (by omega)⟩
    · obtain ⟨g2, e2, c2⟩ := c_easeBy_l (hm := hm) h2 hn o6.1 n g1 0 gFuel (by omega) (by unfold gFuel; omega) (cH_fr hC.2.1 c (by omega))
      rw [if_neg (fun e8 => e9 ((nI_z (by omega)).mp e8)), if_neg e9]
      have fr := c.tr c2
      exact ⟨g2, e2, InvC_fr hC fr (by decide), fun j hj => fr.1 j (by omega)⟩
  · have hM' := InvM_r 0 hM
    obtain ⟨g1, e, c⟩ := m_dead (g := gI1 g 174 0 0) (r := 183) h2 hn (by decide) hM'.2.1.1
    have hM1 := InvM_fr hM' c (by decide)
    have f1 : ∀ j, j < 174 → g1.1 j = g.1 j := fun j hj => by rw [c.1 j (by omega), gI1_1, if_neg (by omega)]
    have est : f_X10_easeBy g = if nI (dedN n (effH hm S.2.2.1)) = (0 : Int32) then (some ((-9 : Int32), g1)) else (fb_X10_easeBy_21 gFuel (0 : Int32) g1) := by
      unfold f_X10_easeBy
      simp only [gl_eq]
      rw [e]
      simp only [ob_eq]
    rw [est]
    by_cases e9 : dedN n (effH hm S.2.2.1) = 0
    · rw [if_pos ((nI_z (by omega)).mpr e9), if_pos e9]
      exact ⟨g1, rfl, hM1, f1⟩
    · obtain ⟨g2, e2, c2, d2⟩ := m_easeBy_l (hm := hm) h2 hn o6 n g1 0 gFuel (by omega) (by unfold gFuel; omega) hM1.2.1
      rw [if_neg (fun e8 => e9 ((nI_z (by omega)).mp e8)), if_neg e9]
      refine ⟨g2, e2, InvM_eq hM1 (by rw [c2.1 174 (by omega)]) (by rw [c2.1 174 (by omega)]) (fun j hj => ?_), fun j hj => by rw [c2.1 j (by omega), f1 j hj]⟩
      by_cases h183 : j < 184
      · exact c2.1 j (by omega)
      · exact d2 j (by omega) (by omega)
end VO
