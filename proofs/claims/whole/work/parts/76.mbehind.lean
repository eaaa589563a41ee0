/-! PURE: the reference reads what stands behind a part, and a whole condition. -/
def oKF (i : Nat) (G : aF) : Prop := G.1 ≤ 4 ∧ G.2.1.length ≤ i
def invN (F : aF) (R : List aF) (i : Nat) : Prop := R.length ≤ i ∧ oKF i F ∧ ∀ G ∈ R, oKF i G
theorem oKF_s {i : Nat} {G : aF} (h : oKF i G) : oKF (i + 1) G := ⟨h.1, Nat.le_succ_of_le h.2⟩
theorem oKF_c {i : Nat} {G G' : aF} (h : oKF i G) (h1 : G'.1 = G.1) (h2 : G'.2.1 = G.2.1) : oKF (i + 1) G' := ⟨by rw [h1]; exact h.1, by rw [h2]; exact Nat.le_succ_of_le h.2⟩
theorem invN_c {F F' : aF} {R : List aF} {i : Nat} (h : invN F R i) (h1 : F'.1 = F.1) (h2 : F'.2.1 = F.2.1) : invN F' R (i + 1) := ⟨Nat.le_succ_of_le h.1, oKF_c h.2.1 h1 h2, fun G hG => oKF_s (h.2.2 G hG)⟩
theorem invN_p {F : aF} {R : List aF} {i k : Nat} (h : invN F R i) (hk : k ≤ 4) : invN (f0 k) (F :: R) (i + 1) := by
  refine ⟨Nat.succ_le_succ h.1, ⟨hk, Nat.zero_le _⟩, fun G hG => ?_⟩
  rcases List.mem_cons.mp hG with e | e
  · rw [e]; exact oKF_s h.2.1
  · exact oKF_s (h.2.2 G e)
theorem invN_q {F F1 F' : aF} {R : List aF} {i : Nat} (h : invN F (F1 :: R) i) (h1 : F'.1 = F1.1) (h2 : F'.2.1 = F1.2.1) : invN F' R (i + 1) := by
  have hl : R.length + 1 ≤ i := h.1
  exact ⟨by omega, oKF_c (h.2.2 F1 (List.mem_cons_self ..)) h1 h2, fun G hG => oKF_s (h.2.2 G (List.mem_cons_of_mem _ hG))⟩
theorem cst_inv {told mode c i : Nat} {F : aF} {R : List aF} {m' : Nat} {F' : aF} {R' : List aF} (h : cst told mode F R c = some (m', F', R')) (hi : invN F R i) : invN F' R' (i + 1) := by
  unfold cst at h
  split at h
  · split at h
    · cases h; exact invN_c hi rfl rfl
    · split at h
      · cases h; exact invN_p hi (by decide)
      · split at h
        · cases h; exact invN_p hi (by omega)
        · split at h
          · cases h; exact invN_c hi rfl rfl
          · split at h
            · cases h; exact invN_c hi rfl rfl
            · cases h
  · split at h
    · split at h
      · cases h; exact invN_c hi rfl rfl
      · cases h
    · split at h
      · cases h; exact invN_c hi rfl rfl
      · split at h
        · cases h; exact invN_c hi rfl rfl
        · split at h
          · cases h
          · split at h
            · cases h
              refine ⟨Nat.le_succ_of_le hi.1, ⟨hi.2.1.1, ?_⟩, fun G hG => oKF_s (hi.2.2 G hG)⟩
              have hl := hi.2.1.2
              show (F.2.1 ++ [cT F]).length ≤ _
              rw [app_len]; omega
            · split at h
              · cases h; exact invN_q hi rfl rfl
              · split at h
                · cases h; exact invN_q hi rfl rfl
                · cases h
theorem cnt_app (ls : List Tr) (t : Tr) (s : Nat) : cnt (lsAt (ls ++ [t]) s) (ls ++ [t]).length = cnt (lsAt ls s) ls.length + (if t s = true then 1 else 0) := by
  rw [app_len]
  show cnt (lsAt (ls ++ [t]) s) ls.length + (if lsAt (ls ++ [t]) s ls.length = true then 1 else 0) = _
  have e1 : lsAt (ls ++ [t]) s ls.length = t s := by
    unfold lsAt
    rw [List.getElem?_append_right (Nat.le_refl _)]
    simp
  have e2 : cnt (lsAt (ls ++ [t]) s) ls.length = cnt (lsAt ls s) ls.length := cnt_cong (fun i hi => by
    unfold lsAt
    rw [List.getElem?_append_left hi])
  rw [e1, e2]
section MB
variable {g : gG} {tx : List Nat} {i s told : Nat} {F : aF} {R : List aF}
theorem m_kind (h : fsM g s F R) (hR : R.length ≤ 121) (k : Nat) : inb (g.1 174 12) 122 = true ∧ g.1 177 (g.1 174 12).toNatClampNeg = (if R.length = 0 then 0 else if F.1 = 0 then 1 else 2) := by
  rw [h.1]
  refine ⟨inb_nI (by omega) (by decide), ?_⟩
  rw [nI_clamp (by omega)]
  exact h.2.1.1
/-- the frame on top ends: its truth is a part of the one below -/
theorem m_pop {F1 : aF} {R1 : List aF} (h : fsM g s F (F1 :: R1)) (hR : R1.length ≤ 119) {t : Tr} {x : Int32} (hx : x = b2 (t s)) : ∃ g', fs_X10_readBehind_257 x g = some (0, g') ∧ fsM g' s (addP F1 t) R1 ∧ frQ g g' ∧ g'.1 174 3 = g.1 174 3 ∧ g'.1 174 4 = g.1 174 4 := by
  obtain ⟨h1, h2, ⟨h5, h6⟩⟩ := h
  have e1 : (g.1 174 12) - (1 : Int32) = nI R1.length := by
    rw [h1]
    exact pk_sub (a := R1.length + 1) (b := 1) (by omega)
  have q : ∀ j, j ≠ 174 → (gI1 g 174 12 (nI R1.length)).1 j = g.1 j := fun j hj => by rw [gI1_1, if_neg hj]
  have hF : fsM (gI1 g 174 12 (nI R1.length)) s F1 R1 := by
    obtain ⟨q1, q2, q3, q4, q5, q6⟩ := h5
    exact ⟨by rw [r_self, if_pos rfl], ⟨by rw [q 177 (by decide)]; exact q1, by rw [q 178 (by decide)]; exact q2, by rw [q 179 (by decide)]; exact q3, by rw [q 180 (by decide)]; exact q4, by rw [q 181 (by decide)]; exact q5, by rw [q 182 (by decide)]; exact q6⟩, frsM_eq R1 (fun j a b i hi => by rw [q j (by omega)]) h6⟩
  obtain ⟨g2, x2, a2, b2', c2, d2⟩ := m_part hF (by omega) hx
  refine ⟨g2, ?_, a2, (frQ.s (by decide)).tr b2', ?_, ?_⟩
  · unfold fs_X10_readBehind_257
    rw [e1]
    simp only [gl_eq]
    rw [x2]
    simp only [ob_eq]
  · rw [c2, r_self, if_neg (by decide)]
  · rw [d2, r_self, if_neg (by decide)]
theorem m_188_0 {b : Bool} (hm : mc g i b) : mOut tx s i g (fs_X10_readBehind_188 0 g) 0 i false F R := by
  refine ⟨_, ?_, mc_a0 (g := g), fun e => (by cases e), frQ_a⟩
  unfold fs_X10_readBehind_188
  rw [m_accept0 hm]
  simp only [ob_eq]
  rw [if_pos trivial]
theorem m_188_1 {F1 : aF} {R1 : List aF} (hm : mc g i true) (h : fsM g s F (F1 :: R1)) (hR : R1.length ≤ 119) (h4 : F.1 ≤ 4) (hls : F.2.1.length ≤ 120) : mOut tx s i g (fs_X10_readBehind_188 1 g) 0 (i + 1) true (addP F1 (if F.1 = 0 then cT F else atl F.1 (F.2.1 ++ [cT F]))) R1 := by
  have hm1 : mc (gI1 (gI1 g 174 4 1) 174 3 (nI (i + 1))) (i + 1) true := mc_a1
  have fq : frQ g (gI1 (gI1 g 174 4 1) 174 3 (nI (i + 1))) := frQ_a
  have h1 : fsM (gI1 (gI1 g 174 4 1) 174 3 (nI (i + 1))) s F (F1 :: R1) := fsM_a h
  have eA := m_accept1 hm
  unfold fs_X10_readBehind_188
  rw [eA]
  simp only [ob_eq]
  rw [if_neg one0]
  generalize gI1 (gI1 g 174 4 1) 174 3 (nI (i + 1)) = g1 at *
  have hlen : (F1 :: R1).length = R1.length + 1 := rfl
  obtain ⟨k1, k2⟩ := m_kind h1 (by omega) 0
  rw [if_pos k1, k2, if_neg (show ¬ ((F1 :: R1).length = 0) by omega), m_group h1 (by omega)]
  simp only [ob_eq]
  by_cases hz : F.1 = 0
  · rw [if_pos hz, if_pos (show (1 : Int32) = 1 from rfl), if_pos hz]
    obtain ⟨g2, x2, a2, b2', c2, d2⟩ := m_pop h1 hR (t := cT F) rfl
    exact ⟨g2, x2, mc_Q hm1 c2 d2, fun _ => a2, fq.tr b2'⟩
  · rw [if_neg hz, if_neg (show ¬ ((2 : Int32) = 1) by decide), if_pos k1, if_neg hz]
    have hk := cnt_k (lsAt F.2.1 s) F.2.1.length
    obtain ⟨q0, ⟨q1, q2, q3, q4, q5, q6⟩, q7⟩ := id h1
    have e239 : ∀ (b : Nat), b ≤ 1 → fs_X10_readBehind_239 (g1.1 182 (g1.1 174 12).toNatClampNeg) (nI b) g1 = fs_X10_readBehind_257 (b2 (decide (F.1 ≤ cnt (lsAt F.2.1 s) F.2.1.length + b))) g1 := by
      intro b hb
      unfold fs_X10_readBehind_239
      rw [q0, if_pos (inb_nI (by omega) (by decide)), nI_clamp (by omega), q5, q6, nI_add]
      by_cases hlt : cnt (lsAt F.2.1 s) F.2.1.length + b < F.1
      · rw [if_pos (nI_lt hlt (by omega)), decide_eq_false (by omega)]; rfl
      · rw [if_neg (nI_nlt (by omega) (by omega)), decide_eq_true (by omega)]; rfl
    have fin : ∀ b : Nat, b = (if cT F s = true then 1 else 0) → mOut tx s i g (fs_X10_readBehind_239 (g1.1 182 (g1.1 174 12).toNatClampNeg) (nI b) g1) 0 (i + 1) true (addP F1 (atl F.1 (F.2.1 ++ [cT F]))) R1 := by
      intro b hb
      rw [e239 b (by rw [hb]; split <;> decide)]
      have et : atl F.1 (F.2.1 ++ [cT F]) s = decide (F.1 ≤ cnt (lsAt F.2.1 s) F.2.1.length + b) := by
        unfold atl
        rw [cnt_app, hb]
      obtain ⟨g2, x2, a2, b2', c2, d2⟩ := m_pop h1 hR (t := atl F.1 (F.2.1 ++ [cT F])) (x := b2 (decide (F.1 ≤ cnt (lsAt F.2.1 s) F.2.1.length + b))) (by rw [et])
      exact ⟨g2, x2, mc_Q hm1 c2 d2, fun _ => a2, fq.tr b2'⟩
    cases ec : cT F s with
    | true =>
      rw [b2_t, if_neg one0]
      exact fin 1 (by rw [ec, if_pos rfl])
    | false =>
      rw [b2_f, if_pos zero0]
      exact fin 0 (by rw [ec, if_neg (by decide)])
/-- the sign ends a list, a group, or nothing -/
theorem m_145 {c : Nat} (hc : c < 256) (hm : mc g i true) (h : fsM g s F R) (hN : invN F R i) (hi : i ≤ 119) : (∀ F1 R1, R = F1 :: R1 → c = 93 ∧ 0 < F.1 → mOut tx s i g (fs_X10_readBehind_145 (nI c) g) 0 (i + 1) true (addP F1 (atl F.1 (F.2.1 ++ [cT F]))) R1) ∧ (∀ F1 R1, R = F1 :: R1 → c = 41 ∧ F.1 = 0 → mOut tx s i g (fs_X10_readBehind_145 (nI c) g) 0 (i + 1) true (addP F1 (cT F)) R1) ∧ (R = [] ∨ (¬ (c = 93 ∧ 0 < F.1) ∧ ¬ (c = 41 ∧ F.1 = 0)) → mOut tx s i g (fs_X10_readBehind_145 (nI c) g) 0 i false F R) := by
  have eqn : ∀ k : Nat, k < 256 → (nI c = nI k ↔ c = k) := fun k hk => nI_eq (by omega) (by omega)
  have hR := hN.1
  obtain ⟨k1, k2⟩ := m_kind h (by omega) 0
  have z0 : fs_X10_readBehind_187 g = fs_X10_readBehind_188 0 g := rfl
  have z1 : fs_X10_readBehind_183 g = fs_X10_readBehind_188 1 g := rfl
  refine ⟨fun F1 R1 e hh => ?_, fun F1 R1 e hh => ?_, fun hh => ?_⟩
  · subst e
    have hlen : (F1 :: R1).length = R1.length + 1 := rfl
    have hz : ¬ F.1 = 0 := by omega
    unfold fs_X10_readBehind_145 fs_X10_readBehind_164
    rw [if_neg (show ¬ (nI c = (41 : Int32)) from fun e => absurd ((eqn 41 (by decide)).mp e) (by omega)), if_pos (show nI c = (93 : Int32) from (eqn 93 (by decide)).mpr hh.1), if_pos k1, k2, if_neg (show ¬ ((F1 :: R1).length = 0) by omega), if_neg hz, if_pos (show (2 : Int32) = 2 from rfl), z1]
    have := m_188_1 (tx := tx) hm h (by omega) hN.2.1.1 (Nat.le_trans hN.2.1.2 (by omega))
    rw [if_neg hz] at this
    exact this
  · subst e
    have hlen : (F1 :: R1).length = R1.length + 1 := rfl
    unfold fs_X10_readBehind_145
    rw [if_pos (show nI c = (41 : Int32) from (eqn 41 (by decide)).mpr hh.1), if_pos k1, k2, if_neg (show ¬ ((F1 :: R1).length = 0) by omega), if_pos hh.2, if_pos (show (1 : Int32) = 1 from rfl), z1]
    have := m_188_1 (tx := tx) hm h (by omega) hN.2.1.1 (Nat.le_trans hN.2.1.2 (by omega))
    rw [if_pos hh.2] at this
    exact this
  · have e164 : (c = 93 → ¬ (R ≠ [] ∧ 0 < F.1)) → fs_X10_readBehind_164 (nI c) g = fs_X10_readBehind_188 0 g := by
      intro hk
      unfold fs_X10_readBehind_164
      by_cases c93 : c = 93
      · rw [if_pos (show nI c = (93 : Int32) from (eqn 93 (by decide)).mpr c93), if_pos k1, k2]
        by_cases hl : R.length = 0
        · rw [if_pos hl, if_neg (show ¬ ((0 : Int32) = 2) by decide), z0]
        · have hz : F.1 = 0 := by
            by_cases hz : F.1 = 0
            · exact hz
            · exact absurd ⟨fun e => hl (by rw [e]; rfl), by omega⟩ (hk c93)
          rw [if_neg hl, if_pos hz, if_neg (show ¬ ((1 : Int32) = 2) by decide), z0]
      · rw [if_neg (show ¬ (nI c = (93 : Int32)) from fun e => c93 ((eqn 93 (by decide)).mp e)), z0]
    have e145 : fs_X10_readBehind_145 (nI c) g = fs_X10_readBehind_188 0 g := by
      unfold fs_X10_readBehind_145
      by_cases c41 : c = 41
      · rw [if_pos (show nI c = (41 : Int32) from (eqn 41 (by decide)).mpr c41), if_pos k1, k2]
        have e1 := e164 (fun e => by omega)
        by_cases hl : R.length = 0
        · rw [if_pos hl, if_neg (show ¬ ((0 : Int32) = 1) by decide), e1]
        · have hz : ¬ F.1 = 0 := by
            rcases hh with e | e
            · exact absurd (by rw [e]; rfl) hl
            · exact fun hz => e.2 ⟨c41, hz⟩
          rw [if_neg hl, if_neg hz, if_neg (show ¬ ((2 : Int32) = 1) by decide), e1]
      · rw [if_neg (show ¬ (nI c = (41 : Int32)) from fun e => c41 ((eqn 41 (by decide)).mp e))]
        refine e164 (fun c93 hk => ?_)
        rcases hh with e | e
        · exact hk.1 e
        · exact e.1 ⟨c93, hk.2⟩
    rw [e145]
    exact m_188_0 hm
theorem m_readBehind_c (hT : txM g tx) (hl : tx.length ≤ 120) (hc : ∀ c ∈ tx, c < 256) (hm : mc g i true) (h : fsM g s F R) (hN : invN F R i) (hi : i < tx.length) : (∀ F' R', cst told 6 F R (tx.getD i 0) = some (4, F', R') → mOut tx s i g (f_X10_readBehind g) 1 (i + 1) true F' R') ∧ (∀ F' R', cst told 6 F R (tx.getD i 0) = some (6, F', R') → mOut tx s i g (f_X10_readBehind g) 0 (i + 1) true F' R') ∧ (cst told 6 F R (tx.getD i 0) = none → mOut tx s i g (f_X10_readBehind g) 0 i false F R) := by
  obtain ⟨e1, e2⟩ := m_chr hT hl hi
  have hcb := hc _ (List.mem_of_getElem? (getD_get hi))
  have eR : f_X10_readBehind g = fs_X10_readBehind_25 (nI (tx.getD i 0)) g := by
    unfold f_X10_readBehind
    rw [hT.1, hm.1, if_neg (nI_ge hi (by omega)), if_pos e1, e2]
  rw [eR]
  generalize tx.getD i 0 = c at *
  have eqn : ∀ k : Nat, k < 256 → (nI c = nI k ↔ c = k) := fun k hk => nI_eq (by omega) (by omega)
  have ec : cst told 6 F R c = (if c = 46 then some (4, F, R) else if c = 43 then some (4, endG F, R) else (match R with
    | [] => none
    | F1 :: R1 => if c = 44 ∧ 0 < F.1 then some (4, endC F, F1 :: R1) else if c = 93 ∧ 0 < F.1 then some (6, addP F1 (atl F.1 (F.2.1 ++ [cT F])), R1) else if c = 41 ∧ F.1 = 0 then some (6, addP F1 (cT F), R1) else none)) := rfl
  have hR := hN.1
  have hg1 : fsM (gI1 (gI1 g 174 4 1) 174 3 (nI (i + 1))) s F R := fsM_a h
  have hm1 : mc (gI1 (gI1 g 174 4 1) 174 3 (nI (i + 1))) (i + 1) true := mc_a1
  have fq : frQ g (gI1 (gI1 g 174 4 1) 174 3 (nI (i + 1))) := frQ_a
  have eA := m_accept1 hm
  unfold fs_X10_readBehind_25
  by_cases c46 : c = 46
  · rw [ec, if_pos c46]
    refine ⟨fun F' R' e => ?_, fun F' R' e => (by cases e), fun e => by cases e⟩
    cases e
    refine ⟨_, ?_, hm1, fun _ => hg1, fq⟩
    rw [if_pos (show nI c = (46 : Int32) from (eqn 46 (by decide)).mpr c46), eA]
    simp only [ob_eq]
  · rw [if_neg (show ¬ (nI c = (46 : Int32)) from fun e => c46 ((eqn 46 (by decide)).mp e))]
    have hib := inb_nI (j := R.length) (n := 122) (by omega) (by decide)
    have hcl := nI_clamp (n := R.length) (by omega)
    by_cases c43 : c = 43
    · rw [ec, if_neg c46, if_pos c43]
      refine ⟨fun F' R' e => ?_, fun F' R' e => (by cases e), fun e => by cases e⟩
      cases e
      rw [if_pos (show nI c = (43 : Int32) from (eqn 43 (by decide)).mpr c43), eA]
      simp only [ob_eq]
      generalize gI1 (gI1 g 174 4 1) 174 3 (nI (i + 1)) = g1 at *
      rw [m_group hg1 (by omega)]
      simp only [ob_eq, gl_eq]
      obtain ⟨h1, ⟨q1, q2, q3, q4, q5, q6⟩, h3⟩ := hg1
      rw [h1, if_pos hib, hcl, nar_b2, show vp_nar .boolean (1 : Int32) = 1 from nar_b2 true]
      have x12 : (gI1 g1 178 R.length (b2 (cT F s))).1 174 12 = nI R.length := by rw [gI1_1, if_neg (by decide)]; exact h1
      rw [x12, if_pos hib, hcl]
      refine ⟨_, rfl, mc_Q hm1 ?_ ?_, fun _ => ⟨?_, ⟨?_, ?_, ?_, ?_, ?_, ?_⟩, ?_⟩, fq.tr ((frQ.f (by decide)).tr (frQ.f (by decide)))⟩
      · rw [gI1_1, if_neg (by decide), gI1_1, if_neg (by decide)]
      · rw [gI1_1, if_neg (by decide), gI1_1, if_neg (by decide)]
      · rw [gI1_1, if_neg (by decide)]; exact x12
      · rw [gI1_1, if_neg (by decide), gI1_1, if_neg (by decide)]; exact q1
      · rw [gI1_1, if_neg (by decide), r_self, if_pos rfl]; rfl
      · rw [r_self, if_pos rfl]; rfl
      · rw [gI1_1, if_neg (by decide), gI1_1, if_neg (by decide)]; exact q4
      · rw [gI1_1, if_neg (by decide), gI1_1, if_neg (by decide)]; exact q5
      · rw [gI1_1, if_neg (by decide), gI1_1, if_neg (by decide)]; exact q6
      · exact frsM_eq R (fun j a b z hz => by rw [gI1_o (by omega), gI1_o (by omega)]) h3
    · rw [if_neg (show ¬ (nI c = (43 : Int32)) from fun e => c43 ((eqn 43 (by decide)).mp e)), ec, if_neg c46, if_neg c43]
      obtain ⟨k1, k2⟩ := m_kind h (by omega) 0
      obtain ⟨w1, w2, w3⟩ := m_145 (tx := tx) hcb hm h hN (by omega)
      cases R with
      | nil =>
        have e44 : (if nI c = (44 : Int32) then (if inb (g.1 174 12) 122 = true then if (g.1 177 (g.1 174 12).toNatClampNeg) = (2 : Int32) then ((f_X10_accept (1 : Int32) g).bind (fun u5 => if inb (u5.2.1 174 12) 122 = true then (f_X10_isGroupOrAhead u5.2).bind (fun u6 => if u6.1 = (0 : Int32) then (fs_X10_readBehind_121 (u5.2.1 174 12) (u5.2.1 182 (u5.2.1 174 12).toNatClampNeg) (0 : Int32) u6.2) else (fs_X10_readBehind_121 (u5.2.1 174 12) (u5.2.1 182 (u5.2.1 174 12).toNatClampNeg) (1 : Int32) u6.2)) else none)) else (fs_X10_readBehind_145 (nI c) g) else none) else (fs_X10_readBehind_145 (nI c) g)) = fs_X10_readBehind_145 (nI c) g := by
          by_cases c44 : nI c = (44 : Int32)
          · rw [if_pos c44, if_pos k1, k2, if_pos (show ([] : List aF).length = 0 from rfl), if_neg (show ¬ ((0 : Int32) = 2) by decide)]
          · rw [if_neg c44]
        rw [e44]
        exact ⟨fun F' R' e => (by cases e), fun F' R' e => (by cases e), fun _ => w3 (Or.inl rfl)⟩
      | cons F1 R1 =>
        have hlen : (F1 :: R1).length = R1.length + 1 := rfl
        rw [if_neg (show ¬ ((F1 :: R1).length = 0) by omega)] at k2
        show (∀ F' R', (if c = 44 ∧ 0 < F.1 then some (4, endC F, F1 :: R1) else if c = 93 ∧ 0 < F.1 then some (6, addP F1 (atl F.1 (F.2.1 ++ [cT F])), R1) else if c = 41 ∧ F.1 = 0 then some (6, addP F1 (cT F), R1) else none) = some (4, F', R') → _) ∧ (∀ F' R', (if c = 44 ∧ 0 < F.1 then some (4, endC F, F1 :: R1) else if c = 93 ∧ 0 < F.1 then some (6, addP F1 (atl F.1 (F.2.1 ++ [cT F])), R1) else if c = 41 ∧ F.1 = 0 then some (6, addP F1 (cT F), R1) else none) = some (6, F', R') → _) ∧ ((if c = 44 ∧ 0 < F.1 then some (4, endC F, F1 :: R1) else if c = 93 ∧ 0 < F.1 then some (6, addP F1 (atl F.1 (F.2.1 ++ [cT F])), R1) else if c = 41 ∧ F.1 = 0 then some (6, addP F1 (cT F), R1) else none) = none → _)
        by_cases c44 : c = 44 ∧ 0 < F.1
        · rw [if_pos c44]
          refine ⟨fun F' R' e => ?_, fun F' R' e => (by cases e), fun e => by cases e⟩
          cases e
          rw [if_pos (show nI c = (44 : Int32) from (eqn 44 (by decide)).mpr c44.1), if_pos k1, k2, if_neg (show ¬ F.1 = 0 by omega), if_pos (show (2 : Int32) = 2 from rfl), eA]
          simp only [ob_eq]
          generalize gI1 (gI1 g 174 4 1) 174 3 (nI (i + 1)) = g1 at *
          rw [m_group hg1 (by omega)]
          simp only [ob_eq]
          obtain ⟨h1, ⟨q1, q2, q3, q4, q5, q6⟩, h3⟩ := hg1
          rw [h1, if_pos hib, hcl, q6]
          have hk := cnt_k (lsAt F.2.1 s) F.2.1.length
          have hls := hN.2.1.2
          have fin : ∀ b : Nat, b = (if cT F s = true then 1 else 0) → mOut tx s i g (fs_X10_readBehind_121 (nI (F1 :: R1).length) (nI (cnt (lsAt F.2.1 s) F.2.1.length)) (nI b) g1) 1 (i + 1) true (endC F) (F1 :: R1) := by
            intro b hb
            unfold fs_X10_readBehind_121
            rw [if_pos hib, hcl, nI_add, show vp_nar .boolean (1 : Int32) = 1 from nar_b2 true, show vp_nar .boolean (0 : Int32) = 0 from nar_b2 false]
            simp only [gl_eq]
            have x1 : (gI1 g1 182 (F1 :: R1).length (nI (cnt (lsAt F.2.1 s) F.2.1.length + b))).1 174 12 = nI (F1 :: R1).length := by rw [gI1_1, if_neg (by decide)]; exact h1
            have x2 : (gI1 (gI1 g1 182 (F1 :: R1).length (nI (cnt (lsAt F.2.1 s) F.2.1.length + b))) 178 (F1 :: R1).length 0).1 174 12 = nI (F1 :: R1).length := by rw [gI1_1, if_neg (by decide)]; exact x1
            rw [x1, if_pos hib, hcl, x2, if_pos hib, hcl]
            refine ⟨_, rfl, mc_Q hm1 ?_ ?_, fun _ => ⟨?_, ⟨?_, ?_, ?_, ?_, ?_, ?_⟩, ?_⟩, fq.tr (((frQ.f (by decide)).tr (frQ.f (by decide))).tr (frQ.f (by decide)))⟩
            · rw [gI1_1, if_neg (by decide), gI1_1, if_neg (by decide), gI1_1, if_neg (by decide)]
            · rw [gI1_1, if_neg (by decide), gI1_1, if_neg (by decide), gI1_1, if_neg (by decide)]
            · rw [gI1_1, if_neg (by decide)]; exact x2
            · rw [gI1_1, if_neg (by decide), gI1_1, if_neg (by decide), gI1_1, if_neg (by decide)]; exact q1
            · rw [gI1_1, if_neg (by decide), r_self, if_pos rfl]; rfl
            · rw [r_self, if_pos rfl]; rfl
            · rw [gI1_1, if_neg (by decide), gI1_1, if_neg (by decide), gI1_1, if_neg (by decide)]; exact q4
            · rw [gI1_1, if_neg (by decide), gI1_1, if_neg (by decide), gI1_1, if_neg (by decide)]; exact q5
            · rw [gI1_1, if_neg (by decide), gI1_1, if_neg (by decide), r_self, if_pos rfl]
              show _ = nI (cnt (lsAt (F.2.1 ++ [cT F]) s) (F.2.1 ++ [cT F]).length)
              rw [cnt_app, hb]
            · exact frsM_eq _ (fun j a b z hz => by rw [gI1_o (by omega), gI1_o (by omega), gI1_o (by omega)]) h3
          cases et : cT F s with
          | true =>
            rw [b2_t, if_neg one0]
            exact fin 1 (by rw [et, if_pos rfl])
          | false =>
            rw [b2_f, if_pos zero0]
            exact fin 0 (by rw [et, if_neg (by decide)])
        · rw [if_neg c44]
          have e44 : (if nI c = (44 : Int32) then (if inb (g.1 174 12) 122 = true then if (g.1 177 (g.1 174 12).toNatClampNeg) = (2 : Int32) then ((f_X10_accept (1 : Int32) g).bind (fun u5 => if inb (u5.2.1 174 12) 122 = true then (f_X10_isGroupOrAhead u5.2).bind (fun u6 => if u6.1 = (0 : Int32) then (fs_X10_readBehind_121 (u5.2.1 174 12) (u5.2.1 182 (u5.2.1 174 12).toNatClampNeg) (0 : Int32) u6.2) else (fs_X10_readBehind_121 (u5.2.1 174 12) (u5.2.1 182 (u5.2.1 174 12).toNatClampNeg) (1 : Int32) u6.2)) else none)) else (fs_X10_readBehind_145 (nI c) g) else none) else (fs_X10_readBehind_145 (nI c) g)) = fs_X10_readBehind_145 (nI c) g := by
            by_cases c4 : nI c = (44 : Int32)
            · have hz : F.1 = 0 := by
                by_cases hz : F.1 = 0
                · exact hz
                · exact absurd ⟨(eqn 44 (by decide)).mp c4, by omega⟩ c44
              rw [if_pos c4, if_pos k1, k2, if_pos hz, if_neg (show ¬ ((1 : Int32) = 2) by decide)]
            · rw [if_neg c4]
          rw [e44]
          by_cases c93 : c = 93 ∧ 0 < F.1
          · rw [if_pos c93]
            refine ⟨fun F' R' e => (by cases e), fun F' R' e => ?_, fun e => by cases e⟩
            cases e
            exact w1 F1 R1 rfl c93
          · rw [if_neg c93]
            by_cases c41 : c = 41 ∧ F.1 = 0
            · rw [if_pos c41]
              refine ⟨fun F' R' e => (by cases e), fun F' R' e => ?_, fun e => by cases e⟩
              cases e
              exact w2 F1 R1 rfl c41
            · rw [if_neg c41]
              exact ⟨fun F' R' e => (by cases e), fun F' R' e => (by cases e), fun _ => w3 (Or.inr ⟨c93, c41⟩)⟩
theorem m_readBehind_e (hT : txM g tx) (hl : tx.length ≤ 120) (hm : mc g i true) (h : fsM g s F R) (hR : R.length ≤ 120) (hi : i = tx.length) : mOut tx s i g (f_X10_readBehind g) 0 i false F R := by
  have e : f_X10_readBehind g = fs_X10_readBehind_188 0 g := by
    unfold f_X10_readBehind fs_X10_readBehind_25 fs_X10_readBehind_145 fs_X10_readBehind_164
    rw [hT.1, hm.1, if_pos (nI_le (by omega) (by omega)), if_neg (by decide), if_neg (by decide), if_neg (by decide), if_neg (by decide), if_neg (by decide)]
    rfl
  rw [e]
  exact m_188_0 hm
end MB
