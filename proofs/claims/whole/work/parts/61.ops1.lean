/-! PURE: calls that only read, of a team. -/
section RO
variable {tx : List Nat} {n : Nat} {hm : Nat → Nat} {S : aS} {L : List aS} {K : Nat → Option aS}
theorem op_open (ok : okA tx n hm S L K) (a : Int32) : opOK tx n hm S L K (f_X9_open a) (f_X10_open a) G3 := by
  obtain ⟨o1, o2, h2, hn, o5, o6, o7, o8⟩ := id ok
  cases hT : isT S a with
  | false =>
    refine opOK_same ok (.inr 3) (fun g hC => stC_rf hC ?_) (fun g hM => resM_r 0 1 one0 (fun _ => rfl) (stM_rf hM ?_))
    · unfold f_X9_open
      rw [c_reqTeam hC.2.2.1 o6, hT, if_neg (by decide), gXb_r]
    · unfold f_X10_open
      rw [m_isTeam hM.2.1 o6, hT]
      simp only [ob_eq]
      rw [b2_f, if_pos zero0]
      unfold fs_X10_open_14
      rw [ref1]
      simp only [ob_eq]
      rw [if_neg one0]
  | true =>
    obtain ⟨t, ht, rfl⟩ := isT_t hT o6.2.1
    obtain ⟨tm, htm⟩ := get_lt ht
    have h1 := ok_get o6 htm
    have hs := setOf_lt h1.1.2
    have h10 := lt1024 hs hn
    have hlen := okT_len h1.1
    refine opOK_same ok (.inl (nI (opn n (effH hm S.2.2.1) (setOf tm.1)))) (fun g hC => stC_rf hC ?_) (fun g hM => resM_l (stM_rf hM ?_))
    · unfold f_X9_open
      rw [c_reqTeam hC.2.2.1 o6, hT, if_pos rfl, gXb_l, c_openTo hC.2.1 h2 hn hC.2.2.1 o6 htm]
      simp only [ob_eq]
    · have hM' := InvM_r 0 hM
      unfold f_X10_open
      rw [m_isTeam hM.2.1 o6, hT]
      simp only [ob_eq]
      rw [b2_t, if_neg one0]
      unfold fs_X10_open_14
      rw [ref0]
      simp only [ob_eq]
      rw [if_pos trivial, m_visited hM'.2.1 o6 hn htm]
      simp only [ob_eq]
      rw [m_openOf hM'.2.1.1 h2 hn h10]
      simp only [ob_eq]

theorem op_orders (ok : okA tx n hm S L K) (a : Int32) : opOK tx n hm S L K (f_X9_orders a) (f_X10_orders a) G3 := by
  obtain ⟨o1, o2, h2, hn, o5, o6, o7, o8⟩ := id ok
  cases hT : isT S a with
  | false =>
    refine opOK_same ok (.inr 3) (fun g hC => stC_rf hC ?_) (fun g hM => resM_r 0 1 one0 (fun _ => rfl) (stM_rf hM ?_))
    · unfold f_X9_orders
      rw [c_reqTeam hC.2.2.1 o6, hT, if_neg (by decide), gXb_r]
    · unfold f_X10_orders
      rw [m_isTeam hM.2.1 o6, hT]
      simp only [ob_eq]
      rw [b2_f, if_pos zero0]
      unfold fs_X10_orders_14
      rw [ref1]
      simp only [ob_eq]
      rw [if_neg one0]
  | true =>
    obtain ⟨t, ht, rfl⟩ := isT_t hT o6.2.1
    obtain ⟨tm, htm⟩ := get_lt ht
    have h1 := ok_get o6 htm
    have hs := setOf_lt h1.1.2
    have h10 := lt1024 hs hn
    have hlen := okT_len h1.1
    refine opOK_same ok (.inl (nI (wOf n (effH hm S.2.2.1) (setOf tm.1)).2.1)) (fun g hC => ?_) (fun g hM => ?_)
    · obtain ⟨g', e, f⟩ := c_ordersOf hC.2.1 h2 hn hC.2.2.1 o6 htm
      refine stC_fr (g' := g') hC ?_ f (by decide) (by decide)
      unfold f_X9_orders
      rw [c_reqTeam hC.2.2.1 o6, hT, if_pos rfl, gXb_l, e]
      simp only [ob_eq]
    · have hM' := InvM_r 0 hM
      cases ec : (setOf tm.1).testBit (n - 1) with
      | true =>
        refine resM_l (stM_rf hM ?_)
        unfold f_X10_orders
        rw [m_isTeam hM.2.1 o6, hT]
        simp only [ob_eq]
        rw [b2_t, if_neg one0]
        unfold fs_X10_orders_14
        rw [ref0]
        simp only [ob_eq]
        rw [if_pos trivial, m_isThere hM'.2.1 o6 h2 hn htm, ec]
        simp only [ob_eq]
        rw [b2_t, if_neg one0, wOf_end hs ec]
        rfl
      | false =>
        have h512 : 2 ^ (n - 1) ≤ 512 := Nat.pow_le_pow_right (n := 2) (j := 9) (by decide) (by omega)
        have hs9 := bit_split h2 hs ec
        obtain ⟨g', e, b, c⟩ := m_layFewest (g := gI1 g 174 0 0) (r := 183) h2 hn (by decide) hM'.2.1.1
        refine resM_l (stM_fr (g' := g') hM ?_ c (by decide))
        have hM2 := InvM_fr hM' c (by decide)
        unfold f_X10_orders
        rw [m_isTeam hM.2.1 o6, hT]
        simp only [ob_eq]
        rw [b2_t, if_neg one0]
        unfold fs_X10_orders_14
        rw [ref0]
        simp only [ob_eq]
        rw [if_pos trivial, m_isThere hM'.2.1 o6 h2 hn htm, ec]
        simp only [ob_eq]
        rw [b2_f, if_pos zero0, e]
        simp only [ob_eq]
        rw [m_visited hM2.2.1 o6 hn htm]
        simp only [ob_eq]
        rw [if_pos (inb_nI (by omega) (by decide)), nI_clamp (by omega), (b _ hs9).2]

theorem op_safe (ok : okA tx n hm S L K) (a : Int32) : opOK tx n hm S L K (f_X9_safe a) (f_X10_safe a) G3 := by
  obtain ⟨o1, o2, h2, hn, o5, o6, o7, o8⟩ := id ok
  cases hT : isT S a with
  | false =>
    refine opOK_same ok (.inr 3) (fun g hC => stC_rf hC ?_) (fun g hM => resM_r 0 1 one0 (fun _ => rfl) (stM_rf hM ?_))
    · unfold f_X9_safe
      rw [c_reqTeam hC.2.2.1 o6, hT, if_neg (by decide), gXb_r]
    · unfold f_X10_safe
      rw [m_isTeam hM.2.1 o6, hT]
      simp only [ob_eq]
      rw [b2_f, if_pos zero0]
      unfold fs_X10_safe_14
      rw [ref1]
      simp only [ob_eq]
      rw [if_neg one0]
  | true =>
    obtain ⟨t, ht, rfl⟩ := isT_t hT o6.2.1
    obtain ⟨tm, htm⟩ := get_lt ht
    have h1 := ok_get o6 htm
    have hs := setOf_lt h1.1.2
    have h10 := lt1024 hs hn
    have hlen := okT_len h1.1
    refine opOK_same ok (.inl (nI (safe n (effH hm S.2.2.1) (setOf tm.1)))) (fun g hC => ?_) (fun g hM => ?_)
    · obtain ⟨g', e, f⟩ := c_safeFor hC.2.1 h2 hn hC.2.2.1 o6 htm
      refine stC_fr (g' := g') hC ?_ f (by decide) (by decide)
      unfold f_X9_safe
      rw [c_reqTeam hC.2.2.1 o6, hT, if_pos rfl, gXb_l, e]
      simp only [ob_eq]
    · have hM' := InvM_r 0 hM
      obtain ⟨g', e, c⟩ := m_safe (g := gI1 g 174 0 0) (r := 183) h2 hn (by decide) hM'.2.1 o6 htm
      refine resM_l (stM_fr (g' := g') hM ?_ c (by decide))
      unfold f_X10_safe
      rw [m_isTeam hM.2.1 o6, hT]
      simp only [ob_eq]
      rw [b2_t, if_neg one0]
      unfold fs_X10_safe_14
      rw [ref0]
      simp only [ob_eq]
      rw [if_pos trivial, e]
      simp only [ob_eq]

theorem op_needed (ok : okA tx n hm S L K) (a : Int32) : opOK tx n hm S L K (f_X9_needed a) (f_X10_needed a) G3 := by
  obtain ⟨o1, o2, h2, hn, o5, o6, o7, o8⟩ := id ok
  cases hT : isT S a with
  | false =>
    refine opOK_same ok (.inr 3) (fun g hC => stC_rf hC ?_) (fun g hM => resM_r 0 1 one0 (fun _ => rfl) (stM_rf hM ?_))
    · unfold f_X9_needed
      rw [c_reqTeam hC.2.2.1 o6, hT, if_neg (by decide), gXb_r]
    · unfold f_X10_needed
      rw [m_isTeam hM.2.1 o6, hT]
      simp only [ob_eq]
      rw [b2_f, if_pos zero0]
      unfold fs_X10_needed_14
      rw [ref1]
      simp only [ob_eq]
      rw [if_neg one0]
  | true =>
    obtain ⟨t, ht, rfl⟩ := isT_t hT o6.2.1
    obtain ⟨tm, htm⟩ := get_lt ht
    have h1 := ok_get o6 htm
    have hs := setOf_lt h1.1.2
    have h10 := lt1024 hs hn
    have hlen := okT_len h1.1
    refine opOK_same ok (.inl (if fin n (effH hm S.2.2.1) none (setOf tm.1) = true then nI (wOf n (effH hm S.2.2.1) (setOf tm.1)).2.2.2 else -9)) (fun g hC => ?_) (fun g hM => ?_)
    · obtain ⟨g', e, f⟩ := c_needed hC.2.1 h2 hn hC.2.2.1 o6 htm
      refine stC_fr (g' := g') hC ?_ f (by decide) (by decide)
      unfold f_X9_needed
      rw [c_reqTeam hC.2.2.1 o6, hT, if_pos rfl, gXb_l, e]
      simp only [ob_eq]
    · have hM' := InvM_r 0 hM
      have hst : f_X10_needed (nI t) g = (f_X10_isThere 183 394 (nI t) (gI1 g 174 0 0)).bind (fun u5 => if u5.1 = (0 : Int32) then ((f_X10_layGood 183 394 (-9 : Int32) u5.2).bind (fun u7 => if inb (nI (setOf tm.1)) 512 = true then if (u7.2.1 188 (nI (setOf tm.1)).toNatClampNeg) = (0 : Int32) then (some ((-9 : Int32), u7.2)) else (fb_X10_needed_71 gFuel (nI (setOf tm.1)) (0 : Int32) (0 : Int32) u7.2) else none)) else (some ((0 : Int32), u5.2))) := by
        unfold f_X10_needed
        rw [m_isTeam hM.2.1 o6, hT]
        simp only [ob_eq]
        rw [b2_t, if_neg one0]
        unfold fs_X10_needed_14
        rw [ref0]
        simp only [ob_eq]
        rw [if_pos trivial, m_visited hM'.2.1 o6 hn htm]
        simp only [ob_eq, gl_eq]
      rw [hst, m_isThere hM'.2.1 o6 h2 hn htm]
      simp only [ob_eq]
      cases ec : (setOf tm.1).testBit (n - 1) with
      | true =>
        refine resM_l (stM_rf hM ?_)
        have ef : fin n (effH hm S.2.2.1) none (setOf tm.1) = true := by unfold fin; rw [ec]; rfl
        rw [b2_t, if_neg one0, ef, if_pos rfl, wOf_end hs ec]
        rfl
      | false =>
        have h512 : 2 ^ (n - 1) ≤ 512 := Nat.pow_le_pow_right (n := 2) (j := 9) (by decide) (by omega)
        have hs9 := bit_split h2 hs ec
        obtain ⟨g1, e, b, c⟩ := m_layGood (g := gI1 g 174 0 0) (r := 183) (H := effH hm S.2.2.1) (b := none) h2 hn (fun q hq => by cases hq) (by decide) hM'.2.1.1
        have e : f_X10_layGood 183 394 (-9 : Int32) (gI1 g 174 0 0) = some ((), g1) := e
        have ef : fin n (effH hm S.2.2.1) none (setOf tm.1) = good n (effH hm S.2.2.1) none (setOf tm.1) := by unfold fin; rw [ec, Bool.false_or]
        cases eg : good n (effH hm S.2.2.1) none (setOf tm.1) with
        | false =>
          refine resM_l (stM_fr (g' := g1) hM ?_ c (by decide))
          rw [b2_f, if_pos zero0, e]
          simp only [ob_eq]
          rw [if_pos (inb_nI (by omega) (by decide)), nI_clamp (by omega), b _ hs9, eg, b2_f, if_pos zero0, ef, eg, if_neg (by decide)]
        | true =>
          have hM2 := InvM_fr hM' c (by decide)
          obtain ⟨g2, e2, c2⟩ := m_need_l (H := effH hm S.2.2.1) h2 hn hs9 n g1 0 gFuel (by omega) (by unfold gFuel; omega) hM2.2.1.1
          refine resM_l (stM_fr (g' := g2) hM ?_ (c.tr c2) (by decide))
          rw [b2_f, if_pos zero0, e]
          simp only [ob_eq]
          rw [if_pos (inb_nI (by omega) (by decide)), nI_clamp (by omega), b _ hs9, eg, b2_t, if_neg one0, ef, eg, if_pos rfl, need_msk h2 hn hs (by rw [ef, eg])]
          exact e2

theorem c_neg (a : Int32) : (0 : Int32) ≤ a ↔ ¬ a < 0 := by
  rw [Int32.le_iff_toInt_le, Int32.lt_iff_toInt_lt]
  omega

theorem op_trail (ok : okA tx n hm S L K) (a : Int32) (i : Int32) : opOK tx n hm S L K (f_X9_trail a i) (f_X10_trail a i) G31 := by
  obtain ⟨o1, o2, h2, hn, o5, o6, o7, o8⟩ := id ok
  cases hT : isT S a with
  | false =>
    refine opOK_same ok (.inr 3) (fun g hC => stC_rf hC ?_) (fun g hM => resM_r 0 1 one0 (fun _ => rfl) (stM_rf hM ?_))
    · unfold f_X9_trail
      rw [c_reqTeam hC.2.2.1 o6, hT, if_neg (by decide), gXb_r]
    · unfold f_X10_trail
      rw [m_isTeam hM.2.1 o6, hT]
      simp only [ob_eq]
      rw [b2_f, if_pos zero0]
      unfold fs_X10_trail_22
      rw [ref1]
      simp only [ob_eq]
      rw [if_neg one0]
  | true =>
    obtain ⟨t, ht, rfl⟩ := isT_t hT o6.2.1
    obtain ⟨tm, htm⟩ := get_lt ht
    have h1 := ok_get o6 htm
    have hs := setOf_lt h1.1.2
    have h10 := lt1024 hs hn
    have hlen := okT_len h1.1
    by_cases hi : i < 0
    · have hi' : ¬ (0 : Int32) ≤ i := fun e => (c_neg i).mp e hi
      refine opOK_same ok (.inr 1) (fun g hC => stC_rf hC ?_) (fun g hM => resM_r 0 2 (by decide) (fun _ => rfl) (stM_rf hM ?_))
      · unfold f_X9_trail
        rw [c_reqTeam hC.2.2.1 o6, hT, if_pos rfl, gXb_l, if_neg hi']
      · unfold f_X10_trail
        rw [m_isTeam hM.2.1 o6, hT]
        simp only [ob_eq]
        rw [b2_t, if_neg one0]
        rw [if_neg hi']
        unfold fs_X10_trail_22
        rw [ref2]
        simp only [ob_eq]
        rw [if_neg one0]
    · obtain ⟨j, hj, rfl⟩ := nI_of hi
      have hi' : (0 : Int32) ≤ nI j := (c_neg _).mpr hi
      refine opOK_same ok (.inl (oI tm.1[j]?)) (fun g hC => stC_rf hC ?_) (fun g hM => resM_l (stM_rf hM ?_))
      · unfold f_X9_trail
        rw [c_reqTeam hC.2.2.1 o6, hT, if_pos rfl, gXb_l, if_pos hi', c_visitOf hC.2.2.1 o6 hn htm, if_neg hi, nI_clamp hj]
        simp only [ob_eq]
        cases tm.1[j]? <;> rfl
      · have hM' := InvM_r 0 hM
        obtain ⟨d1, d2, d3, d4⟩ := hM'.2.1.2.2.2 t tm htm
        unfold f_X10_trail
        rw [m_isTeam hM.2.1 o6, hT]
        simp only [ob_eq]
        rw [b2_t, if_neg one0]
        rw [if_pos hi']
        unfold fs_X10_trail_22
        rw [ref0]
        simp only [ob_eq]
        rw [if_pos trivial, show (0 : Int32) = nI 0 from rfl, m_cell]
        simp only [ob_eq]
        rw [if_pos (inb_nI (by omega) (by decide)), nI_clamp (by omega), Nat.add_zero]
        rw [show (gI1 g 174 0 (nI 0)).1 183 (342 + 13 * t) = nI tm.1.length from d1]
        by_cases hl : tm.1.length ≤ j
        · rw [if_pos (nI_le hl hj), List.getElem?_eq_none hl]; rfl
        · obtain ⟨p, hp⟩ := get_lt (l := tm.1) (t := j) (by omega)
          rw [if_neg (nI_ge (by omega) (by omega)), show (3 : Int32) + nI j = nI (3 + j) from nI_add 3 j, m_cell]
          simp only [ob_eq]
          rw [if_pos (inb_nI (by omega) (by decide)), nI_clamp (by omega), show 342 + 13 * t + (3 + j) = 345 + 13 * t + j by omega]
          rw [show (gI1 g 174 0 (nI 0)).1 183 (345 + 13 * t + j) = nI p from d4 j p hp, hp]; rfl

theorem op_team (ok : okA tx n hm S L K) (a : Int32) (i : Int32) : opOK tx n hm S L K (f_X9_team a i) (f_X10_team a i) G31 := by
  obtain ⟨o1, o2, h2, hn, o5, o6, o7, o8⟩ := id ok
  cases hT : isT S a with
  | false =>
    refine opOK_same ok (.inr 3) (fun g hC => stC_rf hC ?_) (fun g hM => resM_r 0 1 one0 (fun _ => rfl) (stM_rf hM ?_))
    · unfold f_X9_team
      rw [c_reqTeam hC.2.2.1 o6, hT, if_neg (by decide), gXb_r]
    · unfold f_X10_team
      rw [m_isTeam hM.2.1 o6, hT]
      simp only [ob_eq]
      rw [b2_f, if_pos zero0]
      unfold fs_X10_team_30
      rw [ref1]
      simp only [ob_eq]
      rw [if_neg one0]
  | true =>
    obtain ⟨t, ht, rfl⟩ := isT_t hT o6.2.1
    obtain ⟨tm, htm⟩ := get_lt ht
    have h1 := ok_get o6 htm
    have hs := setOf_lt h1.1.2
    have h10 := lt1024 hs hn
    have hlen := okT_len h1.1
    cases hi : decide (0 ≤ i.toInt ∧ i.toInt ≤ ((5 : Nat) : Int)) with
    | false =>
      have q : ∀ j, j ≤ 5 → ¬ i = nI j := fun j hj => nin_ne (by decide) hi hj
      refine opOK_same ok (.inr 1) (fun g hC => stC_rf hC ?_) (fun g hM => resM_r 0 2 (by decide) (fun _ => rfl) (stM_rf hM ?_))
      · unfold f_X9_team
        rw [c_reqTeam hC.2.2.1 o6, hT, if_pos rfl, gXb_l, if_neg (show ¬ i = (0 : Int32) from q 0 (by decide)), if_neg (show ¬ i = (1 : Int32) from q 1 (by decide)), if_neg (show ¬ i = (2 : Int32) from q 2 (by decide)), if_neg (show ¬ i = (3 : Int32) from q 3 (by decide)), if_neg (show ¬ i = (4 : Int32) from q 4 (by decide)), if_neg (show ¬ i = (5 : Int32) from q 5 (by decide))]
      · unfold f_X10_team
        rw [m_isTeam hM.2.1 o6, hT]
        simp only [ob_eq]
        rw [b2_t, if_neg one0]
        rw [show f_X10_in i.toInt64 (0 : Int64) (5 : Int64) g = _ from m_inL i 5 (by decide) g, hi]
        simp only [ob_eq]
        rw [b2_f, if_pos zero0]
        unfold fs_X10_team_30
        rw [ref2]
        simp only [ob_eq]
        rw [if_neg one0]
    | true =>
      have hmod : ∀ (v : Int32), (∀ g, InvM tx n hm S L K g → fs_X10_team_30 (nI t) i (0 : Int32) g = some (v, gI1 g 174 0 0)) → ∀ g, InvM tx n hm S L K g → resM (.inl v) (f_X10_team (nI t) i g) g G31 (InvM tx n hm S L K) := by
        intro v hv g hM
        refine resM_l (stM_rf hM ?_)
        unfold f_X10_team
        rw [m_isTeam hM.2.1 o6, hT]
        simp only [ob_eq]
        rw [b2_t, if_neg one0]
        rw [show f_X10_in i.toInt64 (0 : Int64) (5 : Int64) g = _ from m_inL i 5 (by decide) g, hi]
        simp only [ob_eq]
        rw [b2_t, if_neg one0]
        exact hv g hM
      obtain ⟨j, hj, rfl⟩ := in_nI hi
      have hj6 : j = 0 ∨ j = 1 ∨ j = 2 ∨ j = 3 ∨ j = 4 ∨ j = 5 := by omega
      rcases hj6 with rfl | rfl | rfl | rfl | rfl | rfl
      · refine opOK_same ok (.inl (nI (setOf tm.1))) (fun g hC => stC_rf hC ?_) (hmod _ (fun g hM => ?_))
        · unfold f_X9_team
          rw [c_reqTeam hC.2.2.1 o6, hT, if_pos rfl, gXb_l, if_pos (show nI 0 = (0 : Int32) from rfl), c_visitedBy hC.2.2.1 o6 htm]
          simp only [ob_eq]
        · have hM' := InvM_r 0 hM
          unfold fs_X10_team_30
          rw [ref0]
          simp only [ob_eq]
          rw [if_pos trivial, if_pos (show nI 0 = (0 : Int32) from rfl), m_visited hM'.2.1 o6 hn htm]
          simp only [ob_eq]
      · refine opOK_same ok (.inl (nI tm.1.length)) (fun g hC => stC_rf hC ?_) (hmod _ (fun g hM => ?_))
        · unfold f_X9_team
          rw [c_reqTeam hC.2.2.1 o6, hT, if_pos rfl, gXb_l, if_neg (show ¬ (nI 1 = (0 : Int32)) by decide), if_pos (show nI 1 = (1 : Int32) from rfl), c_visitsOf hC.2.2.1 o6 htm]
          simp only [ob_eq]
        · have hM' := InvM_r 0 hM
          unfold fs_X10_team_30
          rw [ref0]
          simp only [ob_eq]
          obtain ⟨d1, d2, d3, d4⟩ := hM'.2.1.2.2.2 t tm htm
          rw [if_pos trivial, if_neg (show ¬ (nI 1 = (0 : Int32)) by decide), if_pos (show nI 1 = (1 : Int32) from rfl), show (0 : Int32) = nI 0 from rfl, m_cell]
          simp only [ob_eq]
          rw [if_pos (inb_nI (by omega) (by decide)), nI_clamp (by omega)]
          rw [show 342 + 13 * t + 0 = 342 + 13 * t by omega]
          exact congrArg (fun v => some (v, gI1 g 174 0 0)) d1
      · refine opOK_same ok (.inl (tm.2.1)) (fun g hC => stC_rf hC ?_) (hmod _ (fun g hM => ?_))
        · unfold f_X9_team
          rw [c_reqTeam hC.2.2.1 o6, hT, if_pos rfl, gXb_l, if_neg (show ¬ (nI 2 = (0 : Int32)) by decide), if_neg (show ¬ (nI 2 = (1 : Int32)) by decide), if_pos (show nI 2 = (2 : Int32) from rfl), c_minutesOf hC.2.2.1 o6 htm]
          simp only [ob_eq]
        · have hM' := InvM_r 0 hM
          unfold fs_X10_team_30
          rw [ref0]
          simp only [ob_eq]
          obtain ⟨d1, d2, d3, d4⟩ := hM'.2.1.2.2.2 t tm htm
          rw [if_pos trivial, if_neg (show ¬ (nI 2 = (0 : Int32)) by decide), if_neg (show ¬ (nI 2 = (1 : Int32)) by decide), if_pos (show nI 2 = (2 : Int32) from rfl), show (1 : Int32) = nI 1 from rfl, m_cell]
          simp only [ob_eq]
          rw [if_pos (inb_nI (by omega) (by decide)), nI_clamp (by omega)]
          rw [show 342 + 13 * t + 1 = 343 + 13 * t by omega]
          exact congrArg (fun v => some (v, gI1 g 174 0 0)) d2
      · refine opOK_same ok (.inl (tm.2.2)) (fun g hC => stC_rf hC ?_) (hmod _ (fun g hM => ?_))
        · unfold f_X9_team
          rw [c_reqTeam hC.2.2.1 o6, hT, if_pos rfl, gXb_l, if_neg (show ¬ (nI 3 = (0 : Int32)) by decide), if_neg (show ¬ (nI 3 = (1 : Int32)) by decide), if_neg (show ¬ (nI 3 = (2 : Int32)) by decide), if_pos (show nI 3 = (3 : Int32) from rfl), c_hintsOf hC.2.2.1 o6 htm]
          simp only [ob_eq]
        · have hM' := InvM_r 0 hM
          unfold fs_X10_team_30
          rw [ref0]
          simp only [ob_eq]
          obtain ⟨d1, d2, d3, d4⟩ := hM'.2.1.2.2.2 t tm htm
          rw [if_pos trivial, if_neg (show ¬ (nI 3 = (0 : Int32)) by decide), if_neg (show ¬ (nI 3 = (1 : Int32)) by decide), if_neg (show ¬ (nI 3 = (2 : Int32)) by decide), if_pos (show nI 3 = (3 : Int32) from rfl), show (2 : Int32) = nI 2 from rfl, m_cell]
          simp only [ob_eq]
          rw [if_pos (inb_nI (by omega) (by decide)), nI_clamp (by omega)]
          rw [show 342 + 13 * t + 2 = 344 + 13 * t by omega]
          exact congrArg (fun v => some (v, gI1 g 174 0 0)) d3
      · refine opOK_same ok (.inl (scr n tm)) (fun g hC => stC_rf hC ?_) (hmod _ (fun g hM => ?_))
        · unfold f_X9_team
          rw [c_reqTeam hC.2.2.1 o6, hT, if_pos rfl, gXb_l, if_neg (show ¬ (nI 4 = (0 : Int32)) by decide), if_neg (show ¬ (nI 4 = (1 : Int32)) by decide), if_neg (show ¬ (nI 4 = (2 : Int32)) by decide), if_neg (show ¬ (nI 4 = (3 : Int32)) by decide), if_pos (show nI 4 = (4 : Int32) from rfl), c_scoreOf hC.2.1 h2 hn hC.2.2.1 o6 htm]
          simp only [ob_eq]
        · have hM' := InvM_r 0 hM
          unfold fs_X10_team_30
          rw [ref0]
          simp only [ob_eq]
          rw [if_pos trivial, if_neg (show ¬ (nI 4 = (0 : Int32)) by decide), if_neg (show ¬ (nI 4 = (1 : Int32)) by decide), if_neg (show ¬ (nI 4 = (2 : Int32)) by decide), if_neg (show ¬ (nI 4 = (3 : Int32)) by decide), if_pos (show nI 4 = (4 : Int32) from rfl)]
          rw [m_score hM'.2.1 o6 h2 hn htm]
          simp only [ob_eq]
      · refine opOK_same ok (.inl (lastP tm.1)) (fun g hC => stC_rf hC ?_) (hmod _ (fun g hM => ?_))
        · unfold f_X9_team
          rw [c_reqTeam hC.2.2.1 o6, hT, if_pos rfl, gXb_l, if_neg (show ¬ (nI 5 = (0 : Int32)) by decide), if_neg (show ¬ (nI 5 = (1 : Int32)) by decide), if_neg (show ¬ (nI 5 = (2 : Int32)) by decide), if_neg (show ¬ (nI 5 = (3 : Int32)) by decide), if_neg (show ¬ (nI 5 = (4 : Int32)) by decide), if_pos (show nI 5 = (5 : Int32) from rfl), c_lastOf hC.2.2.1 o6 hn htm]
          simp only [ob_eq]
        · have hM' := InvM_r 0 hM
          unfold fs_X10_team_30
          rw [ref0]
          simp only [ob_eq]
          rw [if_pos trivial, if_neg (show ¬ (nI 5 = (0 : Int32)) by decide), if_neg (show ¬ (nI 5 = (1 : Int32)) by decide), if_neg (show ¬ (nI 5 = (2 : Int32)) by decide), if_neg (show ¬ (nI 5 = (3 : Int32)) by decide), if_neg (show ¬ (nI 5 = (4 : Int32)) by decide)]
          rw [m_last hM'.2.1 o6 hn htm]
          simp only [ob_eq]

end RO
