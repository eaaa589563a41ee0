/-! PURE: calls that only read: ways of a team, numbers, places, conditions. -/
section RP
variable {tx : List Nat} {n : Nat} {hm : Nat → Nat} {S : aS} {L : List aS} {K : Nat → Option aS}
theorem op_shortest (ok : okA tx n hm S L K) (a i : Int32) : opOK tx n hm S L K (f_X9_shortest a i) (f_X10_shortest a i) G31 := by
  obtain ⟨o1, o2, h2, hn, o5, o6, o7, o8⟩ := id ok
  cases hT : isT S a with
  | false =>
    refine opOK_same ok (.inr 3) (fun g hC => stC_rf hC ?_) (fun g hM => resM_r 0 1 one0 (fun _ => rfl) (stM_rf hM ?_))
    · unfold f_X9_shortest
      rw [c_reqTeam hC.2.2.1 o6, hT, if_neg (by decide), gXb_r]
    · unfold f_X10_shortest
      rw [m_isTeam hM.2.1 o6, hT]
      simp only [ob_eq]
      rw [b2_f, if_pos zero0]
      unfold fs_X10_shortest_28
      rw [ref1]
      simp only [ob_eq]
      rw [if_neg one0]
  | true =>
    obtain ⟨t, ht, rfl⟩ := isT_t hT o6.2.1
    obtain ⟨tm, htm⟩ := get_lt ht
    have h1 := ok_get o6 htm
    have hs := setOf_lt h1.1.2
    have h10 := lt1024 hs hn
    have hlen := okT_len h1.1
    cases hi : decide (0 ≤ i.toInt ∧ i.toInt ≤ ((1 : Nat) : Int)) with
    | false =>
      have q : ∀ j, j ≤ 1 → ¬ i = nI j := fun j hj => nin_ne (by decide) hi hj
      refine opOK_same ok (.inr 1) (fun g hC => stC_rf hC ?_) (fun g hM => resM_r 0 2 (by decide) (fun _ => rfl) (stM_rf hM ?_))
      · unfold f_X9_shortest f_X9_requireZeroOrOne
        rw [c_reqTeam hC.2.2.1 o6, hT, if_pos rfl, gXb_l, if_neg (show ¬ i = (0 : Int32) from q 0 (by decide)), if_neg (show ¬ i = (1 : Int32) from q 1 (by decide)), gXb_r]
      · unfold f_X10_shortest
        rw [m_isTeam hM.2.1 o6, hT]
        simp only [ob_eq]
        rw [b2_t, if_neg one0, show f_X10_in i.toInt64 (0 : Int64) (1 : Int64) g = _ from m_inL i 1 (by decide) g, hi]
        simp only [ob_eq]
        rw [b2_f, if_pos zero0]
        unfold fs_X10_shortest_28
        rw [ref2]
        simp only [ob_eq]
        rw [if_neg one0]
    | true =>
      have hmod : ∀ (v : Int32), (∀ g, InvM tx n hm S L K g → stM (fs_X10_shortest_28 (nI t) i (0 : Int32) g) g v 0 (InvM tx n hm S L K)) → ∀ g, InvM tx n hm S L K g → resM (.inl v) (f_X10_shortest (nI t) i g) g G31 (InvM tx n hm S L K) := by
        intro v hv g hM
        refine resM_l ?_
        unfold f_X10_shortest
        rw [m_isTeam hM.2.1 o6, hT]
        simp only [ob_eq]
        rw [b2_t, if_neg one0, show f_X10_in i.toInt64 (0 : Int64) (1 : Int64) g = _ from m_inL i 1 (by decide) g, hi]
        simp only [ob_eq]
        rw [b2_t, if_neg one0]
        exact hv g hM
      obtain ⟨j, hj, rfl⟩ := in_nI hi
      have hj2 : j = 0 ∨ j = 1 := by omega
      rcases hj2 with rfl | rfl
      · refine opOK_same ok (.inl (if fin n (effH hm S.2.2.1) none (setOf tm.1) = true then nI (wOf n (effH hm S.2.2.1) (setOf tm.1)).2.2.1 else -9)) (fun g hC => ?_) (hmod _ (fun g hM => ?_))
        · obtain ⟨g', e, f⟩ := c_fewest hC.2.1 h2 hn hC.2.2.1 o6 htm
          refine stC_fr (g' := g') hC ?_ f (by decide) (by decide)
          unfold f_X9_shortest f_X9_requireZeroOrOne
          rw [c_reqTeam hC.2.2.1 o6, hT, if_pos rfl, gXb_l, if_pos (show nI 0 = (0 : Int32) from rfl), gXb_l, if_pos (show nI 0 = (0 : Int32) from rfl), e]
          simp only [ob_eq]
        · have hM' := InvM_r 0 hM
          unfold fs_X10_shortest_28
          rw [ref0]
          simp only [ob_eq]
          rw [if_pos trivial, m_visited hM'.2.1 o6 hn htm]
          simp only [ob_eq, gl_eq]
          rw [m_isThere hM'.2.1 o6 h2 hn htm]
          simp only [ob_eq]
          cases ec : (setOf tm.1).testBit (n - 1) with
          | true =>
            refine stM_rf hM ?_
            have ef : fin n (effH hm S.2.2.1) none (setOf tm.1) = true := by unfold fin; rw [ec]; rfl
            rw [b2_t, if_neg one0, if_pos (show nI 0 = (0 : Int32) from rfl), ef, if_pos rfl, wOf_end hs ec]
            rfl
          | false =>
            have h512 : 2 ^ (n - 1) ≤ 512 := Nat.pow_le_pow_right (n := 2) (j := 9) (by decide) (by omega)
            have hs9 := bit_split h2 hs ec
            obtain ⟨g1, e, b, c⟩ := m_layFewest (g := gI1 g 174 0 0) (r := 183) h2 hn (by decide) hM'.2.1.1
            refine stM_fr (g' := g1) hM ?_ c (by decide)
            have hno := fewO_none (H := effH hm S.2.2.1) h2 hn hs ec
            have hw := wOf_few (H := effH hm S.2.2.1) hn hs
            have hsm := (wOf_small (effH hm S.2.2.1) h2 hn hs).2.2.1
            rw [b2_f, if_pos zero0, e]
            simp only [ob_eq]
            rw [inb_nI (show setOf tm.1 < 512 by omega) (by decide)]
            simp only [if_true, nI_clamp (n := setOf tm.1) (show setOf tm.1 < 2 ^ 31 by omega)]
            rw [(b _ hs9).1]
            cases eo : fewO n (effH hm S.2.2.1) (setOf tm.1) with
            | none => rw [hno.mp eo, if_neg (show ¬ (nI (FARv none) < (99999999 : Int32)) from nI_nlt (b := 99999999) (Nat.le_refl _) (by decide)), if_neg (by decide)]
            | some m =>
              rw [eo] at hw
              have hw : (wOf n (effH hm S.2.2.1) (setOf tm.1)).2.2.1 = m := hw
              have ef : fin n (effH hm S.2.2.1) none (setOf tm.1) = true := by
                cases e8 : fin n (effH hm S.2.2.1) none (setOf tm.1) with
                | true => rfl
                | false => rw [hno.mpr e8] at eo; cases eo
              rw [ef, hw, show FARv (some m) = m from rfl, if_pos (show nI m < (99999999 : Int32) from nI_lt (b := 99999999) (by omega) (by decide)), if_pos rfl, if_pos (show nI 0 = (0 : Int32) from rfl)]
      · refine opOK_same ok (.inl (shF n (effH hm S.2.2.1) (setOf tm.1))) (fun g hC => ?_) (hmod _ (fun g hM => ?_))
        · obtain ⟨g', e, f⟩ := c_firstS hC.2.1 h2 hn hC.2.2.1 o6 htm
          refine stC_fr (g' := g') hC ?_ f (by decide) (by decide)
          unfold f_X9_shortest f_X9_requireZeroOrOne
          rw [c_reqTeam hC.2.2.1 o6, hT, if_pos rfl, gXb_l, if_neg (show ¬ (nI 1 = (0 : Int32)) by decide), if_pos (show nI 1 = (1 : Int32) from rfl), gXb_l, if_neg (show ¬ (nI 1 = (0 : Int32)) by decide), e]
          simp only [ob_eq]
        · have hM' := InvM_r 0 hM
          unfold fs_X10_shortest_28
          rw [ref0]
          simp only [ob_eq]
          rw [if_pos trivial, m_visited hM'.2.1 o6 hn htm]
          simp only [ob_eq, gl_eq]
          rw [m_isThere hM'.2.1 o6 h2 hn htm]
          simp only [ob_eq]
          cases ec : (setOf tm.1).testBit (n - 1) with
          | true =>
            refine stM_rf hM ?_
            rw [b2_t, if_neg one0, if_neg (show ¬ (nI 1 = (0 : Int32)) by decide), shP_no h2 hs (Or.inl ec)]
          | false =>
            have h512 : 2 ^ (n - 1) ≤ 512 := Nat.pow_le_pow_right (n := 2) (j := 9) (by decide) (by omega)
            have hs9 := bit_split h2 hs ec
            obtain ⟨g1, e, b, c⟩ := m_layFewest (g := gI1 g 174 0 0) (r := 183) h2 hn (by decide) hM'.2.1.1
            refine stM_fr (g' := g1) hM ?_ c (by decide)
            have hM2 := InvM_fr hM' c (by decide)
            have hno := fewO_none (H := effH hm S.2.2.1) h2 hn hs ec
            have hw := wOf_few (H := effH hm S.2.2.1) hn hs
            have hsm := (wOf_small (effH hm S.2.2.1) h2 hn hs).2.2.1
            rw [b2_f, if_pos zero0, e]
            simp only [ob_eq]
            rw [inb_nI (show setOf tm.1 < 512 by omega) (by decide)]
            simp only [if_true, nI_clamp (n := setOf tm.1) (show setOf tm.1 < 2 ^ 31 by omega)]
            rw [(b _ hs9).1]
            cases eo : fewO n (effH hm S.2.2.1) (setOf tm.1) with
            | none => rw [if_neg (show ¬ (nI (FARv none) < (99999999 : Int32)) from nI_nlt (b := 99999999) (Nat.le_refl _) (by decide)), shP_no h2 hs (Or.inr (hno.mp eo))]
            | some m =>
              rw [eo] at hw
              have hw : (wOf n (effH hm S.2.2.1) (setOf tm.1)).2.2.1 = m := hw
              rw [show FARv (some m) = m from rfl, if_pos (show nI m < (99999999 : Int32) from nI_lt (b := 99999999) (by omega) (by decide)), if_neg (show ¬ (nI 1 = (0 : Int32)) by decide)]
              exact m_short_l hM2.2.1.1 h2 hn hs9 b eo n 0 gFuel (by omega) (by unfold gFuel; omega) (shP_ex h2 hn hs eo)

theorem op_quickest (ok : okA tx n hm S L K) (a i : Int32) : opOK tx n hm S L K (f_X9_quickest a i) (f_X10_quickest a i) G31 := by
  obtain ⟨o1, o2, h2, hn, o5, o6, o7, o8⟩ := id ok
  cases hT : isT S a with
  | false =>
    refine opOK_same ok (.inr 3) (fun g hC => stC_rf hC ?_) (fun g hM => resM_r 0 1 one0 (fun _ => rfl) (stM_rf hM ?_))
    · unfold f_X9_quickest
      rw [c_reqTeam hC.2.2.1 o6, hT, if_neg (by decide), gXb_r]
    · unfold f_X10_quickest
      rw [m_isTeam hM.2.1 o6, hT]
      simp only [ob_eq]
      rw [b2_f, if_pos zero0]
      unfold fs_X10_quickest_28
      rw [ref1]
      simp only [ob_eq]
      rw [if_neg one0]
  | true =>
    obtain ⟨t, ht, rfl⟩ := isT_t hT o6.2.1
    obtain ⟨tm, htm⟩ := get_lt ht
    have h1 := ok_get o6 htm
    have hs := setOf_lt h1.1.2
    have h10 := lt1024 hs hn
    have hlen := okT_len h1.1
    cases hi : decide (0 ≤ i.toInt ∧ i.toInt ≤ ((1 : Nat) : Int)) with
    | false =>
      have q : ∀ j, j ≤ 1 → ¬ i = nI j := fun j hj => nin_ne (by decide) hi hj
      refine opOK_same ok (.inr 1) (fun g hC => stC_rf hC ?_) (fun g hM => resM_r 0 2 (by decide) (fun _ => rfl) (stM_rf hM ?_))
      · unfold f_X9_quickest f_X9_requireZeroOrOne
        rw [c_reqTeam hC.2.2.1 o6, hT, if_pos rfl, gXb_l, if_neg (show ¬ i = (0 : Int32) from q 0 (by decide)), if_neg (show ¬ i = (1 : Int32) from q 1 (by decide)), gXb_r]
      · unfold f_X10_quickest
        rw [m_isTeam hM.2.1 o6, hT]
        simp only [ob_eq]
        rw [b2_t, if_neg one0, show f_X10_in i.toInt64 (0 : Int64) (1 : Int64) g = _ from m_inL i 1 (by decide) g, hi]
        simp only [ob_eq]
        rw [b2_f, if_pos zero0]
        unfold fs_X10_quickest_28
        rw [ref2]
        simp only [ob_eq]
        rw [if_neg one0]
    | true =>
      have hmod : ∀ (v : Int32), (∀ g, InvM tx n hm S L K g → stM (fs_X10_quickest_28 (nI t) i (0 : Int32) g) g v 0 (InvM tx n hm S L K)) → ∀ g, InvM tx n hm S L K g → resM (.inl v) (f_X10_quickest (nI t) i g) g G31 (InvM tx n hm S L K) := by
        intro v hv g hM
        refine resM_l ?_
        unfold f_X10_quickest
        rw [m_isTeam hM.2.1 o6, hT]
        simp only [ob_eq]
        rw [b2_t, if_neg one0, show f_X10_in i.toInt64 (0 : Int64) (1 : Int64) g = _ from m_inL i 1 (by decide) g, hi]
        simp only [ob_eq]
        rw [b2_t, if_neg one0]
        exact hv g hM
      obtain ⟨j, hj, rfl⟩ := in_nI hi
      have hj2 : j = 0 ∨ j = 1 := by omega
      rcases hj2 with rfl | rfl
      · refine opOK_same ok (.inl (qkT n hm S tm)) (fun g hC => ?_) (hmod _ (fun g hM => ?_))
        · obtain ⟨g', e, f⟩ := c_fewMin (X := S.1) (Y := S.2.1) (E := S.2.2.1) (T := S.2.2.2) hC.2.1 h2 hn (by decide) hC.2.2.1 o6 htm
          refine stC_fr (g' := g') hC ?_ f (by decide) (by decide)
          unfold f_X9_quickest f_X9_requireZeroOrOne
          rw [c_reqTeam hC.2.2.1 o6, hT, if_pos rfl, gXb_l, if_pos (show nI 0 = (0 : Int32) from rfl), gXb_l, if_pos (show nI 0 = (0 : Int32) from rfl), e]
          simp only [ob_eq]
        · have hM' := InvM_r 0 hM
          unfold fs_X10_quickest_28
          rw [ref0]
          simp only [ob_eq]
          rw [if_pos trivial, m_visited hM'.2.1 o6 hn htm]
          simp only [ob_eq, gl_eq]
          rw [m_last hM'.2.1 o6 hn htm]
          simp only [ob_eq]
          rw [m_isThere hM'.2.1 o6 h2 hn htm]
          simp only [ob_eq]
          have hfr : ∀ q, tm.1.getLast? = some q → q < n := fun q hq => h1.1.2 q (List.mem_of_getLast? hq)
          cases ec : (setOf tm.1).testBit (n - 1) with
          | true =>
            refine stM_rf hM ?_
            rw [b2_t, if_neg one0, if_pos (show nI 0 = (0 : Int32) from rfl)]; unfold qkT; rw [ec, if_pos rfl]
          | false =>
            have h512 : 2 ^ (n - 1) ≤ 512 := Nat.pow_le_pow_right (n := 2) (j := 9) (by decide) (by omega)
            have hs9 := bit_split h2 hs ec
            obtain ⟨g1, e, b, c⟩ := m_layCost (g := gI1 g 174 0 0) (r := 183) h2 hn (by decide) hM'.2.1 o6
            refine stM_fr (g' := g1) hM ?_ c (by decide)
            have hM2 := InvM_fr hM' c (by decide)
            have hG : ∀ s', setOf tm.1 < s' → s' < 2 ^ (n - 1) → coR n (effH hm S.2.2.1) S g1 s' := fun s' _ h3 => b s' h3
            have ecf := m_costFrom (r := 183) (g := g1) h2 hn hM2.2.1 o6 hs9 hfr hG
            have hle := qOf_190 (H := effH hm S.2.2.1) h2 hn o6.2.2.1 hs9 (fr := tm.1.getLast?) (fun q hq => by have := hfr q hq; omega)
            rw [b2_f, if_pos zero0, e]
            simp only [ob_eq]
            rw [lastP_fr, ecf]
            simp only [ob_eq]
            unfold qkT
            rw [ec, if_neg (show ¬ (false = true) by decide)]
            unfold fs_X10_quickest_109
            cases eo : qOf n (effH hm S.2.2.1) S (setOf tm.1) tm.1.getLast? with
            | none => rw [if_pos (show (99999999 : Int32) ≤ nI (FARv none) from nI_le (b := 99999999) (Nat.le_refl _) (by decide)), if_neg (show ¬ (nI (FARv none) < (99999999 : Int32)) from nI_nlt (b := 99999999) (Nat.le_refl _) (by decide))]; rfl
            | some m =>
              have hm9 := hle m eo
              rw [show FARv (some m) = m from rfl, if_neg (show ¬ ((99999999 : Int32) ≤ nI m) from nI_ge (b := 99999999) (by omega) (by decide))]
              rw [if_pos (show nI 0 = (0 : Int32) from rfl), if_pos (show nI m < (99999999 : Int32) from nI_lt (b := 99999999) (by omega) (by decide))]; rfl
      · refine opOK_same ok (.inl (qkF n hm S tm)) (fun g hC => ?_) (hmod _ (fun g hM => ?_))
        · obtain ⟨g', e, f⟩ := c_firstQ (X := S.1) (Y := S.2.1) (E := S.2.2.1) (T := S.2.2.2) hC.2.1 h2 hn (by decide) hC.2.2.1 o6 htm
          refine stC_fr (g' := g') hC ?_ f (by decide) (by decide)
          unfold f_X9_quickest f_X9_requireZeroOrOne
          rw [c_reqTeam hC.2.2.1 o6, hT, if_pos rfl, gXb_l, if_neg (show ¬ (nI 1 = (0 : Int32)) by decide), if_pos (show nI 1 = (1 : Int32) from rfl), gXb_l, if_neg (show ¬ (nI 1 = (0 : Int32)) by decide), e]
          simp only [ob_eq]
        · have hM' := InvM_r 0 hM
          unfold fs_X10_quickest_28
          rw [ref0]
          simp only [ob_eq]
          rw [if_pos trivial, m_visited hM'.2.1 o6 hn htm]
          simp only [ob_eq, gl_eq]
          rw [m_last hM'.2.1 o6 hn htm]
          simp only [ob_eq]
          rw [m_isThere hM'.2.1 o6 h2 hn htm]
          simp only [ob_eq]
          have hfr : ∀ q, tm.1.getLast? = some q → q < n := fun q hq => h1.1.2 q (List.mem_of_getLast? hq)
          cases ec : (setOf tm.1).testBit (n - 1) with
          | true =>
            refine stM_rf hM ?_
            rw [b2_t, if_neg one0, if_neg (show ¬ (nI 1 = (0 : Int32)) by decide)]; unfold qkF; rw [ec, if_pos rfl]
          | false =>
            have h512 : 2 ^ (n - 1) ≤ 512 := Nat.pow_le_pow_right (n := 2) (j := 9) (by decide) (by omega)
            have hs9 := bit_split h2 hs ec
            obtain ⟨g1, e, b, c⟩ := m_layCost (g := gI1 g 174 0 0) (r := 183) h2 hn (by decide) hM'.2.1 o6
            refine stM_fr (g' := g1) hM ?_ c (by decide)
            have hM2 := InvM_fr hM' c (by decide)
            have hG : ∀ s', setOf tm.1 < s' → s' < 2 ^ (n - 1) → coR n (effH hm S.2.2.1) S g1 s' := fun s' _ h3 => b s' h3
            have ecf := m_costFrom (r := 183) (g := g1) h2 hn hM2.2.1 o6 hs9 hfr hG
            have hle := qOf_190 (H := effH hm S.2.2.1) h2 hn o6.2.2.1 hs9 (fr := tm.1.getLast?) (fun q hq => by have := hfr q hq; omega)
            rw [b2_f, if_pos zero0, e]
            simp only [ob_eq]
            rw [lastP_fr, ecf]
            simp only [ob_eq]
            unfold qkF
            rw [ec, if_neg (show ¬ (false = true) by decide)]
            unfold fs_X10_quickest_109
            cases eo : qOf n (effH hm S.2.2.1) S (setOf tm.1) tm.1.getLast? with
            | none => rw [if_pos (show (99999999 : Int32) ≤ nI (FARv none) from nI_le (b := 99999999) (Nat.le_refl _) (by decide)), if_neg (show ¬ (nI (FARv none) < (99999999 : Int32)) from nI_nlt (b := 99999999) (Nat.le_refl _) (by decide))]; rfl
            | some m =>
              have hm9 := hle m eo
              rw [show FARv (some m) = m from rfl, if_neg (show ¬ ((99999999 : Int32) ≤ nI m) from nI_ge (b := 99999999) (by omega) (by decide))]
              rw [if_neg (show ¬ (nI 1 = (0 : Int32)) by decide)]
              rw [qOf_eq n _ _ hs9] at eo
              obtain ⟨⟨p, hp, hv⟩, _⟩ := minO_some eo
              exact m_quick_l h2 hn hM2.2.1 o6 hs9 hfr hG hm9 n 0 gFuel (by omega) (by unfold gFuel; omega) ⟨p, Nat.zero_le _, hp, hv⟩

end RP
