/-! PURE: the reference reads a place. -/
theorem dig_t : ∀ c, c < 256 → decide (0 ≤ (nI c - (48 : Int32)).toInt ∧ (nI c - (48 : Int32)).toInt ≤ ((9 : Nat) : Int)) = dig c := by decide +kernel
theorem b_one : ∀ j, j < 32 → bt 1 j = decide (j = 0) := by decide +kernel
/-- one truth is put into a row -/
theorem m_putB (g : gG) (r : Nat) {p s : Nat} (hp : p < 10) (hs : s < 1024) (v : Bool) : ∃ w, f_X10_put r 394 (nI p) (nI s) (b2 v) g = some ((), gI1 g r (22 + 32 * p + s / 32) w) ∧ ∀ i, i < 32 → bt w i = if i = s % 32 then v else bt (g.1 r (22 + 32 * p + s / 32)) i := by
  have e1 : ((22 : Int32) + ((32 : Int32) * nI p)) + (nI s / (32 : Int32)) = nI (22 + 32 * p + s / 32) := by
    have h1 : nI s / (32 : Int32) = nI (s / 32) := pk_div (by omega) (by decide) (by decide)
    rw [h1]
    show (nI 22 + (nI 32 * nI p)) + nI (s / 32) = _
    rw [pk_mul, nI_add, nI_add]
  have e2 : nI s - nI s / (32 : Int32) * (32 : Int32) = nI (s % 32) := pk_rem (by omega) (by decide) (by decide)
  have eb : ∀ i, i < 32 → bt ((1 : Int32) <<< (nI (s % 32) &&& 31)) i = decide (i = s % 32) := by
    intro i hi
    rw [b_shl _ (by omega) _ hi]
    by_cases h : s % 32 ≤ i
    · rw [decide_eq_true h, b_one _ (by omega), Bool.true_and]
      exact decide_eq_decide.mpr (by omega)
    · rw [decide_eq_false h, decide_eq_false (by omega)]; rfl
  unfold f_X10_put
  rw [e1, e2]
  simp only [gl_eq]
  have hib := inb_nI (j := 22 + 32 * p + s / 32) (n := 394) (by omega) (by decide)
  have hcl := nI_clamp (n := 22 + 32 * p + s / 32) (by omega)
  cases v with
  | false =>
    rw [b2_f, if_pos zero0, if_pos hib, if_pos hib, hcl]
    refine ⟨_, rfl, fun i hi => ?_⟩
    rw [b_and, b_xor, eb i hi, b_m1 i hi]
    by_cases e : i = s % 32
    · rw [if_pos e, decide_eq_true e]; simp
    · rw [if_neg e, decide_eq_false e]; simp
  | true =>
    rw [b2_t, if_neg one0, if_pos hib, if_pos hib, hcl]
    refine ⟨_, rfl, fun i hi => ?_⟩
    rw [b_or, eb i hi]
    by_cases e : i = s % 32
    · rw [if_pos e, decide_eq_true e]; simp
    · rw [if_neg e, decide_eq_false e]; simp
def frX (g g' : gG) : Prop := (∀ j, j ≠ 174 → j ≠ 176 → (j < 177 ∨ 182 < j) → g'.1 j = g.1 j) ∧ (∀ q, q ≠ 3 → q ≠ 4 → q ≠ 12 → g'.1 174 q = g.1 174 q) ∧ g'.2 = g.2
theorem frX.rf {g : gG} : frX g g := ⟨fun _ _ _ _ => rfl, fun _ _ _ _ => rfl, rfl⟩
theorem frX.tr {g g' g'' : gG} (h : frX g g') (h2 : frX g' g'') : frX g g'' := ⟨fun j a b c => (h2.1 j a b c).trans (h.1 j a b c), fun q a b c => (h2.2.1 q a b c).trans (h.2.1 q a b c), h2.2.2.trans h.2.2⟩
theorem frX.q {g g' : gG} (h : frQ g g') : frX g g' := ⟨fun j a _ c => h.1 j a c, h.2.1, h.2.2⟩
theorem frX.i {g : gG} {i : Nat} {v : Int32} : frX g (gI1 g 176 i v) := ⟨fun j _ b _ => by rw [gI1_1, if_neg b], fun q _ _ _ => by rw [gI1_1, if_neg (by decide)], rfl⟩
theorem txM_X {g g' : gG} {tx : List Nat} (h : txM g tx) (f : frX g g') : txM g' tx := ⟨by rw [f.2.1 2 (by decide) (by decide) (by decide)]; exact h.1, fun j c hc => by rw [f.1 175 (by decide) (by decide) (by decide)]; exact h.2 j c hc⟩
theorem frQ_176 {g g' : gG} (h : frQ g g') : g'.1 176 = g.1 176 := h.1 176 (by decide) (by decide)
def bitsM (f : Nat → Int32) (p k : Nat) (T : Tr) : Prop := ∀ s, s < k → bt (f (22 + 32 * p + s / 32)) (s % 32) = T (s % 512)
def rdM (lays : Bool) (g : gG) (D : List aP) : Prop := g.1 176 0 = nI D.length ∧ g.1 176 1 = 0 ∧ (lays = true → ∀ p z, D[p]? = some z → g.1 176 (2 + 2 * p) = nI z.1 ∧ g.1 176 (3 + 2 * p) = nI z.2.1 ∧ bitsM (g.1 176) p 1024 z.2.2)
theorem rdM_eq {lays : Bool} {g g' : gG} {D : List aP} (h : rdM lays g D) (e : g'.1 176 = g.1 176) : rdM lays g' D := by
  unfold rdM
  rw [e]; exact h
section MP
variable {g : gG} {tx : List Nat} {i s told : Nat}
theorem m_digit (hT : txM g tx) (hl : tx.length ≤ 120) (hc : ∀ c ∈ tx, c < 256) (hm : mc g i true) (hi : i ≤ tx.length) : (i < tx.length ∧ dig (tx.getD i 0) = true → f_X10_digit g = some (nI (tx.getD i 0 - 48), gI1 (gI1 g 174 4 1) 174 3 (nI (i + 1)))) ∧ (¬ (i < tx.length ∧ dig (tx.getD i 0) = true) → f_X10_digit g = some (0, gI1 (gI1 g 174 4 0) 174 3 (nI i))) := by
  unfold f_X10_digit
  rw [hT.1, hm.1]
  by_cases hlt : i < tx.length
  · obtain ⟨e1, e2⟩ := m_chr hT hl hlt
    have hcb := hc _ (List.mem_of_getElem? (getD_get hlt))
    have e9 := m_inL (nI (tx.getD i 0) - (48 : Int32)) 9 (by decide) g
    rw [dig_t _ hcb] at e9
    have a1 := (mc_a1 (g := g) (i := i)).2
    have a0 := (mc_a0 (g := g) (i := i)).2
    have eD : ∀ x, fs_X10_digit_28 x g = (f_X10_in x.toInt64 (0 : Int64) (lN 9) g).bind (fun u1 => (f_X10_accept u1.1 u1.2).bind (fun u2 => if (u2.2.1 174 4) = (0 : Int32) then (some ((0 : Int32), u2.2)) else (some (x, u2.2)))) := fun x => rfl
    rw [if_neg (nI_ge hlt (by omega)), if_pos e1, e2, eD, e9]
    simp only [ob_eq]
    refine ⟨fun hd => ?_, fun hd => ?_⟩
    · have h9 := of_decide_eq_true hd.2
      rw [hd.2, b2_t, m_accept1 hm]
      simp only [ob_eq]
      rw [a1, if_neg (show ¬ (b2 true = 0) from one0), show nI (tx.getD i 0) - (48 : Int32) = nI (tx.getD i 0 - 48) from pk_sub (a := tx.getD i 0) (b := 48) h9.1]
    · have hdf : dig (tx.getD i 0) = false := by
        cases e : dig (tx.getD i 0) with
        | false => rfl
        | true => exact absurd ⟨hlt, e⟩ hd
      rw [hdf, b2_f, m_accept0 hm]
      simp only [ob_eq]
      rw [a0, if_pos (show b2 false = 0 from rfl)]
  · refine ⟨fun hd => absurd hd.1 hlt, fun _ => ?_⟩
    have a0 := (mc_a0 (g := g) (i := i)).2
    have e9 := m_inL (-9 : Int32) 9 (by decide) g
    rw [show decide (0 ≤ (-9 : Int32).toInt ∧ (-9 : Int32).toInt ≤ ((9 : Nat) : Int)) = false by decide] at e9
    have eD : ∀ x, fs_X10_digit_28 x g = (f_X10_in x.toInt64 (0 : Int64) (lN 9) g).bind (fun u1 => (f_X10_accept u1.1 u1.2).bind (fun u2 => if (u2.2.1 174 4) = (0 : Int32) then (some ((0 : Int32), u2.2)) else (some (x, u2.2)))) := fun x => rfl
    rw [if_pos (nI_le (by omega) (by omega)), eD, e9]
    simp only [ob_eq]
    rw [b2_f, m_accept0 hm]
    simp only [ob_eq]
    rw [a0, if_pos (show b2 false = 0 from rfl)]
theorem m_digit_bad (hT : txM g tx) (hl : tx.length ≤ 120) (hm : mc g i false) (hi : i ≤ tx.length) : f_X10_digit g = some (0, gI1 (gI1 g 174 4 0) 174 3 (nI i)) := by
  have a0 := (mc_a0 (g := g) (i := i)).2
  have eD : ∀ x, fs_X10_digit_28 x g = some (0, gI1 (gI1 g 174 4 0) 174 3 (nI i)) := by
    intro x
    have e9 := m_inL x 9 (by decide) g
    show (f_X10_in x.toInt64 (0 : Int64) (lN 9) g).bind (fun u1 => (f_X10_accept u1.1 u1.2).bind (fun u2 => if (u2.2.1 174 4) = (0 : Int32) then (some ((0 : Int32), u2.2)) else (some (x, u2.2)))) = _
    rw [e9]
    simp only [ob_eq]
    rw [m_acceptB hm]
    simp only [ob_eq]
    rw [a0, if_pos (show b2 false = 0 from rfl)]
  unfold f_X10_digit
  rw [hT.1, hm.1, eD]
  by_cases hlt : i < tx.length
  · obtain ⟨e1, e2⟩ := m_chr hT hl hlt
    rw [if_neg (nI_ge hlt (by omega)), if_pos e1, eD]
  · rw [if_pos (nI_le (by omega) (by omega))]
theorem m_begin0 (g : gG) : ∃ g', f_X10_begins 0 0 (gI1 g 174 12 (-1)) = some ((), g') ∧ (∀ s, fsM g' s (f0 0) []) ∧ frQ g g' ∧ g'.1 174 3 = g.1 174 3 ∧ g'.1 174 4 = g.1 174 4 := by
  obtain ⟨g', e, d0, d1, d2, d3, d4, d5, d6, d7, d8, d9, d10⟩ := m_begins (g := gI1 g 174 12 (-1)) (k := 0) (m := 0) (q := 0) rfl (by rw [r_self, if_pos rfl]; decide) (by decide) 0
  exact ⟨g', e, fun s => ⟨d0, ⟨d1, d2, d3, d4, d5, d6⟩, trivial⟩, (frQ.s (by decide)).tr d8, by rw [d9, r_self, if_neg (by decide)], by rw [d10, r_self, if_neg (by decide)]⟩
theorem m_readCondition (hT : txM g tx) (hl : tx.length ≤ 120) (hc : ∀ c ∈ tx, c < 256) (hm : mc g i true) (hi : i ≤ tx.length) (ht : told ≤ 9) (s : Nat) : mcR tx told s i g (f_X10_readCondition (nI s) (nI told) g) (cR tx told (tx.length - i) i 4 (f0 0) []) := by
  obtain ⟨g', e, h1, h2, h3, h4⟩ := m_begin0 g
  have e1 : f_X10_readCondition (nI s) (nI told) g = fb_X10_readCondition_13 gFuel (nI s) (nI told) 1 g' := by
    unfold f_X10_readCondition
    rw [gl_eq, e]
    rfl
  have hg : gFuel = 6000 := rfl
  exact mcR_tr e1 h2 (Nat.le_refl _) (m_cond hl hc ht (tx.length - i) i 4 (f0 0) [] g' gFuel (by omega) (by omega) (mc_Q hm h3 h4) (h1 _) ⟨Nat.zero_le _, ⟨by decide, Nat.zero_le _⟩, fun G hG => by cases hG⟩ (Or.inl rfl) (txM_Q hT h2))
theorem m_readCondition_bad (hm : mc g i false) (a b : Int32) : ∃ g', f_X10_readCondition a b g = some (0, g') ∧ mc g' i false ∧ frQ g g' := by
  obtain ⟨g', e, h1, h2, h3, h4⟩ := m_begin0 g
  have hm' := mc_Q hm h3 h4
  refine ⟨g', ?_, hm', h2⟩
  unfold f_X10_readCondition
  rw [gl_eq, e]
  exact c13_no hm' (by decide) a b 1
/-- the sets are gone through: each one's truth is put -/
theorem m_lay {z : Nat × Option aF} {F : aF} (hl : tx.length ≤ 120) (hc : ∀ c ∈ tx, c < 256) (hi : i ≤ tx.length) (ht : told ≤ 9) (hz : cR tx told (tx.length - i) i 4 (f0 0) [] = z) (hF : z.2 = some F) : ∀ d k g fu, k + d = 1024 → d < fu → txM g tx → mc g z.1 true → bitsM (g.1 176) told k (cT F) → ∃ g', fb_X10_readPlace_116 fu (nI told) (nI i) (nI k) g = some ((), gI1 g' 176 0 (g.1 176 0 + 1)) ∧ mc g' z.1 true ∧ bitsM (g'.1 176) told 1024 (cT F) ∧ (∀ q, (q < 22 + 32 * told ∨ 54 + 32 * told ≤ q) → g'.1 176 q = g.1 176 q) ∧ frX g g' := by
  intro d
  induction d with
  | zero =>
    intro k g fu hk hf hT hm hb
    obtain ⟨fu, rfl⟩ : ∃ f', fu = f' + 1 := ⟨fu - 1, by omega⟩
    have e : k = 1024 := by omega
    subst e
    refine ⟨g, ?_, hm, hb, fun q _ => rfl, frX.rf⟩
    unfold fb_X10_readPlace_116 fs_X10_readPlace_116
    rw [if_pos (show (1024 : Int32) ≤ nI 1024 by decide), if_pos (show inb 0 394 = true by decide), if_pos (show inb 0 394 = true by decide), clamp0]
    simp only [gl_eq]
  | succ d ih =>
    intro k g fu hk hf hT hm hb
    obtain ⟨fu, rfl⟩ : ∃ f', fu = f' + 1 := ⟨fu - 1, by omega⟩
    have f0' : frQ g (gI1 g 174 3 (nI i)) := frQ.s (by decide)
    have hm0 : mc (gI1 g 174 3 (nI i)) i true := ⟨by rw [r_self, if_pos rfl], by rw [r_self, if_neg (by decide)]; exact hm.2⟩
    obtain ⟨g1, x1, m1, f1, _, _, _⟩ := (m_readCondition (txM_Q hT f0') hl hc hm0 hi ht k).2 F (by rw [hz]; exact hF)
    rw [hz] at m1
    obtain ⟨w, x2, hw⟩ := m_putB g1 176 (p := told) (s := k) (by omega) (by omega) (cT F (k % 512))
    have f01 := f0'.tr f1
    have e176 := frQ_176 f01
    have hb2 : bitsM ((gI1 g1 176 (22 + 32 * told + k / 32) w).1 176) told (k + 1) (cT F) := by
      intro s hs
      have es := hb s
      rw [r_self]
      by_cases e : 22 + 32 * told + s / 32 = 22 + 32 * told + k / 32
      · rw [if_pos e, hw _ (by omega)]
        by_cases e2 : s % 32 = k % 32
        · have e3 : s = k := by omega
          rw [if_pos e2, e3]
        · have e3 : s / 32 = k / 32 := by omega
          rw [if_neg e2, e176, ← e3]
          exact es (by omega)
      · rw [if_neg e, e176]
        have : s ≠ k := fun e9 => e (by rw [e9])
        exact es (by omega)
    obtain ⟨g', x3, m3, b3, q3, f3⟩ := ih (k + 1) (gI1 g1 176 (22 + 32 * told + k / 32) w) fu (by omega) (by omega) (txM_X hT ((frX.q f01).tr frX.i)) (mc_Q m1 (by rw [gI1_1, if_neg (by decide)]) (by rw [gI1_1, if_neg (by decide)])) hb2
    have q0 : ∀ q, (q < 22 + 32 * told ∨ 54 + 32 * told ≤ q) → (gI1 g1 176 (22 + 32 * told + k / 32) w).1 176 q = g.1 176 q := by
      intro q hq
      rw [r_self, if_neg (by omega), e176]
    refine ⟨g', ?_, m3, b3, fun q hq => (q3 q hq).trans (q0 q hq), ((frX.q f01).tr frX.i).tr f3⟩
    show fs_X10_readPlace_116 (fb_X10_readPlace_116 fu) (nI told) (nI i) (nI k) g = _
    unfold fs_X10_readPlace_116
    rw [if_neg (show ¬ ((1024 : Int32) ≤ nI k) from nI_ge (b := 1024) (by omega) (by omega)), gl_eq, x1]
    simp only [ob_eq]
    rw [x2]
    simp only [ob_eq, gl_eq]
    rw [nI_1, x3, q0 0 (by omega)]
end MP
