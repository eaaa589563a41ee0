/-! PURE: the reference reads a condition for a set. -/
def gsV (F : aF) (s : Nat) : Bool := match F.2.2.1 with
  | some t => t s
  | none => false
def frM (g : gG) (s lv : Nat) (F : aF) : Prop := g.1 177 lv = (if lv = 0 then 0 else if F.1 = 0 then 1 else 2) ∧ g.1 178 lv = b2 (gsV F s) ∧ g.1 179 lv = b2 (psD F.2.2.2.1 s) ∧ g.1 180 lv = b2 F.2.2.2.2 ∧ g.1 181 lv = nI F.1 ∧ g.1 182 lv = nI (cnt (lsAt F.2.1 s) F.2.1.length)
def frsM (g : gG) (s : Nat) : List aF → Prop
  | [] => True
  | F :: R => frM g s R.length F ∧ frsM g s R
def fsM (g : gG) (s : Nat) (F : aF) (R : List aF) : Prop := g.1 174 12 = nI R.length ∧ frM g s R.length F ∧ frsM g s R
/-- where the reading stands, and whether all was well so far -/
def mc (g : gG) (i : Nat) (b : Bool) : Prop := g.1 174 3 = nI i ∧ g.1 174 4 = b2 b
def frQ (g g' : gG) : Prop := (∀ j, j ≠ 174 → (j < 177 ∨ 182 < j) → g'.1 j = g.1 j) ∧ (∀ q, q ≠ 3 → q ≠ 4 → q ≠ 12 → g'.1 174 q = g.1 174 q) ∧ g'.2 = g.2
theorem frQ.rf {g : gG} : frQ g g := ⟨fun _ _ _ => rfl, fun _ _ _ _ => rfl, rfl⟩
theorem frQ.tr {g g' g'' : gG} (h : frQ g g') (h2 : frQ g' g'') : frQ g g'' := ⟨fun j a b => (h2.1 j a b).trans (h.1 j a b), fun q a b c => (h2.2.1 q a b c).trans (h.2.1 q a b c), h2.2.2.trans h.2.2⟩
theorem frQ.f {g : gG} {k i : Nat} {v : Int32} (h : 177 ≤ k ∧ k ≤ 182) : frQ g (gI1 g k i v) := ⟨fun j a b => by rw [gI1_1, if_neg (by omega)], fun q _ _ _ => by rw [gI1_1, if_neg (by omega)], rfl⟩
theorem frQ.s {g : gG} {i : Nat} {v : Int32} (h : i = 3 ∨ i = 4 ∨ i = 12) : frQ g (gI1 g 174 i v) := ⟨fun j a b => by rw [gI1_1, if_neg a], fun q a b c => by rw [r_self, if_neg (by omega)], rfl⟩
theorem frsM_eq {g g' : gG} {s : Nat} : ∀ (R : List aF), (∀ j, 177 ≤ j → j ≤ 182 → ∀ i, i < R.length → g'.1 j i = g.1 j i) → frsM g s R → frsM g' s R
  | [], _, _ => trivial
  | F :: R, e, h => by
    obtain ⟨⟨h1, h2, h3, h4, h5, h5'⟩, h6⟩ := h
    have hl : (F :: R).length = R.length + 1 := rfl
    refine ⟨⟨?_, ?_, ?_, ?_, ?_, ?_⟩, frsM_eq R (fun j a b i hi => e j a b i (by omega)) h6⟩
    · rw [e 177 (by omega) (by omega) _ (by omega)]; exact h1
    · rw [e 178 (by omega) (by omega) _ (by omega)]; exact h2
    · rw [e 179 (by omega) (by omega) _ (by omega)]; exact h3
    · rw [e 180 (by omega) (by omega) _ (by omega)]; exact h4
    · rw [e 181 (by omega) (by omega) _ (by omega)]; exact h5
    · rw [e 182 (by omega) (by omega) _ (by omega)]; exact h5'
section MQ
variable {g : gG} {tx : List Nat} {i s told : Nat} {F : aF} {R : List aF}
theorem txM_Q {g' : gG} (h : txM g tx) (f : frQ g g') : txM g' tx := ⟨by rw [f.2.1 2 (by decide) (by decide) (by decide)]; exact h.1, fun j c hc => by rw [f.1 175 (by decide) (by decide)]; exact h.2 j c hc⟩
/-- a store in the object: the frames stay -/
theorem fsM_s {j : Nat} {v : Int32} (h : fsM g s F R) (hj : j ≠ 12) : fsM (gI1 g 174 j v) s F R := by
  obtain ⟨h1, ⟨q1, q2, q3, q4, q5, q6⟩, h3⟩ := h
  have q : ∀ k, k ≠ 174 → (gI1 g 174 j v).1 k = g.1 k := fun k hk => by rw [gI1_1, if_neg hk]
  exact ⟨by rw [r_self, if_neg (fun e => hj e.symm)]; exact h1, ⟨by rw [q 177 (by decide)]; exact q1, by rw [q 178 (by decide)]; exact q2, by rw [q 179 (by decide)]; exact q3, by rw [q 180 (by decide)]; exact q4, by rw [q 181 (by decide)]; exact q5, by rw [q 182 (by decide)]; exact q6⟩, frsM_eq R (fun k a b z hz => by rw [q k (by omega)]) h3⟩
theorem m_chr (h : txM g tx) (hl : tx.length ≤ 120) (hi : i < tx.length) : inb (nI i) 120 = true ∧ g.1 175 (nI i).toNatClampNeg = nI (tx.getD i 0) := by
  refine ⟨inb_nI (by omega) (by decide), ?_⟩
  rw [nI_clamp (by omega)]
  exact h.2 i _ (getD_get hi)
theorem m_isNext (h : txM g tx) (hl : tx.length ≤ 120) (hc : ∀ c ∈ tx, c < 256) (h3 : g.1 174 3 = nI i) (hi : i ≤ 120) {c : Nat} (hc9 : c < 256) : f_X10_isNext (nI c) g = some (b2 (decide (i < tx.length ∧ tx.getD i 0 = c)), g) := by
  unfold f_X10_isNext
  rw [h.1, h3]
  by_cases hlt : i < tx.length
  · obtain ⟨e1, e2⟩ := m_chr h hl hlt
    have hb := hc _ (List.mem_of_getElem? (getD_get hlt))
    rw [if_neg (nI_ge hlt (by omega)), if_pos e1, e2]
    by_cases e : tx.getD i 0 = c
    · rw [if_pos (by rw [e]), decide_eq_true ⟨hlt, e⟩]; rfl
    · rw [if_neg (fun e9 => e ((nI_eq (by omega) (by omega)).mp e9)), decide_eq_false (fun e9 => e e9.2)]; rfl
  · rw [if_pos (nI_le (by omega) (by omega)), decide_eq_false (fun e9 => hlt e9.1)]; rfl
theorem m_accept1 (hm : mc g i true) : f_X10_accept 1 g = some ((), gI1 (gI1 g 174 4 1) 174 3 (nI (i + 1))) := by
  unfold f_X10_accept fs_X10_accept_17
  rw [hm.2, if_neg (show ¬ (b2 true = 0) from one0), if_neg one0, if_pos (show gZb 1 = true by decide)]
  simp only [gl_eq]
  rw [r_self, if_pos rfl, if_neg one0, r_self, if_neg (by decide), hm.1, nI_1]
theorem m_accept0 {b : Bool} (hm : mc g i b) : f_X10_accept 0 g = some ((), gI1 (gI1 g 174 4 0) 174 3 (nI i)) := by
  have e17 : fs_X10_accept_17 0 g = some ((), gI1 (gI1 g 174 4 0) 174 3 (nI i)) := by
    unfold fs_X10_accept_17
    rw [if_pos (show gZb 0 = true by decide)]
    simp only [gl_eq]
    rw [r_self, if_pos rfl, if_pos zero0, r_self, if_neg (by decide), hm.1, show nI i + (0 : Int32) = nI i from nI_add i 0]
  unfold f_X10_accept fs_X10_accept_16
  rw [e17]
  by_cases h : g.1 174 4 = 0
  · rw [if_pos h]
  · rw [if_neg h, if_pos zero0]
theorem m_acceptB {x : Int32} (hm : mc g i false) : f_X10_accept x g = some ((), gI1 (gI1 g 174 4 0) 174 3 (nI i)) := by
  have e17 : fs_X10_accept_17 0 g = some ((), gI1 (gI1 g 174 4 0) 174 3 (nI i)) := by
    unfold fs_X10_accept_17
    rw [if_pos (show gZb 0 = true by decide)]
    simp only [gl_eq]
    rw [r_self, if_pos rfl, if_pos zero0, r_self, if_neg (by decide), hm.1, show nI i + (0 : Int32) = nI i from nI_add i 0]
  unfold f_X10_accept fs_X10_accept_16
  rw [e17, hm.2, if_pos (show b2 false = 0 from rfl)]
theorem mc_a1 : mc (gI1 (gI1 g 174 4 1) 174 3 (nI (i + 1))) (i + 1) true := ⟨by rw [r_self, if_pos rfl], by rw [r_self, if_neg (by decide), r_self, if_pos rfl]; rfl⟩
theorem mc_a0 : mc (gI1 (gI1 g 174 4 0) 174 3 (nI i)) i false := ⟨by rw [r_self, if_pos rfl], by rw [r_self, if_neg (by decide), r_self, if_pos rfl]; rfl⟩
theorem frQ_a {v w : Int32} : frQ g (gI1 (gI1 g 174 4 v) 174 3 w) := (frQ.s (by decide)).tr (frQ.s (by decide))
theorem fsM_a {v w : Int32} (h : fsM g s F R) : fsM (gI1 (gI1 g 174 4 v) 174 3 w) s F R := fsM_s (fsM_s h (by decide)) (by decide)
theorem mc_Q {g' : gG} {b : Bool} (h : mc g i b) (e3 : g'.1 174 3 = g.1 174 3) (e4 : g'.1 174 4 = g.1 174 4) : mc g' i b := ⟨by rw [e3]; exact h.1, by rw [e4]; exact h.2⟩
theorem m_begins {k m : Nat} {q : Int32} (hk : q = nI k) (hd : (g.1 174 12) + (1 : Int32) = nI m) (hm : m ≤ 121) (w : Int32) : ∃ g', f_X10_begins w q g = some ((), g') ∧ g'.1 174 12 = nI m ∧ g'.1 177 m = w ∧ g'.1 178 m = 0 ∧ g'.1 179 m = 1 ∧ g'.1 180 m = 0 ∧ g'.1 181 m = nI k ∧ g'.1 182 m = 0 ∧ (∀ j, 177 ≤ j → j ≤ 182 → ∀ i, i ≠ m → g'.1 j i = g.1 j i) ∧ frQ g g' ∧ g'.1 174 3 = g.1 174 3 ∧ g'.1 174 4 = g.1 174 4 := by
  have e0 : (gI1 g 174 12 (nI m)).1 174 12 = nI m := by rw [r_self, if_pos rfl]
  have k3 : ∀ (g1 : gG) (j : Nat) (v : Int32), 175 ≤ j → g1.1 174 12 = nI m → (gI1 g1 j m v).1 174 12 = nI m := fun g1 j v hj h => by rw [gI1_1, if_neg (by omega)]; exact h
  have s1 := k3 _ 177 w (by decide) e0
  have s2 := k3 _ 178 0 (by decide) s1
  have s3 := k3 _ 179 1 (by decide) s2
  have s4 := k3 _ 180 0 (by decide) s3
  have s5 := k3 _ 181 q (by decide) s4
  have hi := inb_nI (j := m) (n := 122) (by omega) (by decide)
  have hcl := nI_clamp (n := m) (by omega)
  refine ⟨gI1 (gI1 (gI1 (gI1 (gI1 (gI1 (gI1 g 174 12 (nI m)) 177 m w) 178 m 0) 179 m 1) 180 m 0) 181 m q) 182 m 0, ?_, ?_, ?_, ?_, ?_, ?_, ?_, ?_, ?_, ?_, ?_, ?_⟩
  · unfold f_X10_begins
    rw [show vp_nar .boolean (0 : Int32) = 0 from nar_b2 false, show vp_nar .boolean (1 : Int32) = 1 from nar_b2 true, hd]
    simp only [gl_eq]
    rw [e0, if_pos hi, hcl, s1, if_pos hi, hcl, s2, if_pos hi, hcl, s3, if_pos hi, hcl, s4, if_pos hi, hcl, s5, if_pos hi, hcl]
  · exact k3 _ 182 0 (by decide) s5
  · rw [gI1_1, if_neg (by decide), gI1_1, if_neg (by decide), gI1_1, if_neg (by decide), gI1_1, if_neg (by decide), gI1_1, if_neg (by decide), r_self, if_pos rfl]
  · rw [gI1_1, if_neg (by decide), gI1_1, if_neg (by decide), gI1_1, if_neg (by decide), gI1_1, if_neg (by decide), r_self, if_pos rfl]
  · rw [gI1_1, if_neg (by decide), gI1_1, if_neg (by decide), gI1_1, if_neg (by decide), r_self, if_pos rfl]
  · rw [gI1_1, if_neg (by decide), gI1_1, if_neg (by decide), r_self, if_pos rfl]
  · rw [gI1_1, if_neg (by decide), r_self, if_pos rfl, hk]
  · rw [r_self, if_pos rfl]
  · intro j h1 h2 z hz
    rw [gI1_o hz, gI1_o hz, gI1_o hz, gI1_o hz, gI1_o hz, gI1_o hz, gI1_1, if_neg (by omega)]
  · exact (((((((frQ.s (by decide)).tr (frQ.f (by decide))).tr (frQ.f (by decide))).tr (frQ.f (by decide))).tr (frQ.f (by decide))).tr (frQ.f (by decide))).tr (frQ.f (by decide)))
  · rw [gI1_1, if_neg (by decide), gI1_1, if_neg (by decide), gI1_1, if_neg (by decide), gI1_1, if_neg (by decide), gI1_1, if_neg (by decide), gI1_1, if_neg (by decide), r_self, if_neg (by decide)]
  · rw [gI1_1, if_neg (by decide), gI1_1, if_neg (by decide), gI1_1, if_neg (by decide), gI1_1, if_neg (by decide), gI1_1, if_neg (by decide), gI1_1, if_neg (by decide), r_self, if_neg (by decide)]
theorem m_push (h : fsM g s F R) (hR : R.length ≤ 119) (k : Nat) {w q : Int32} (hk : q = nI k) (hw : w = if k = 0 then 1 else 2) : ∃ g', f_X10_begins w q g = some ((), g') ∧ fsM g' s (f0 k) (F :: R) ∧ frQ g g' ∧ g'.1 174 3 = g.1 174 3 ∧ g'.1 174 4 = g.1 174 4 := by
  obtain ⟨h1, ⟨q1, q2, q3, q4, q5, q6⟩, h3⟩ := h
  obtain ⟨g', e, d0, d1, d2, d3, d4, d5, d6, d7, d8, d9, d10⟩ := m_begins (g := g) (k := k) (m := R.length + 1) hk (by rw [h1, nI_1]) (by omega) w
  refine ⟨g', e, ⟨d0, ⟨?_, d2, d3, d4, d5, ?_⟩, ⟨⟨?_, ?_, ?_, ?_, ?_, ?_⟩, ?_⟩⟩, d8, d9, d10⟩
  · rw [show (F :: R).length = R.length + 1 from rfl, d1, hw]
    show _ = (if R.length + 1 = 0 then (0 : Int32) else if k = 0 then 1 else 2)
    rw [if_neg (show ¬ (R.length + 1 = 0) by omega)]
  · rw [show (F :: R).length = R.length + 1 from rfl, d6]; rfl
  · rw [d7 177 (by decide) (by decide) _ (by omega)]; exact q1
  · rw [d7 178 (by decide) (by decide) _ (by omega)]; exact q2
  · rw [d7 179 (by decide) (by decide) _ (by omega)]; exact q3
  · rw [d7 180 (by decide) (by decide) _ (by omega)]; exact q4
  · rw [d7 181 (by decide) (by decide) _ (by omega)]; exact q5
  · rw [d7 182 (by decide) (by decide) _ (by omega)]; exact q6
  · exact frsM_eq R (fun j a b z hz => d7 j a b z (by omega)) h3
theorem m_part (h : fsM g s F R) (hR : R.length ≤ 121) {t : Tr} {x : Int32} (hx : x = b2 (t s)) : ∃ g', f_X10_part x g = some ((), g') ∧ fsM g' s (addP F t) R ∧ frQ g g' ∧ g'.1 174 3 = g.1 174 3 ∧ g'.1 174 4 = g.1 174 4 := by
  obtain ⟨h1, ⟨q1, q2, q3, q4, q5, q6⟩, h3⟩ := h
  have hi := inb_nI (j := R.length) (n := 122) (by omega) (by decide)
  have hcl := nI_clamp (n := R.length) (by omega)
  have hv : psD (some (andO F.2.2.2.1 (ngT F.2.2.2.2 t))) s = (psD F.2.2.2.1 s && (t s != F.2.2.2.2)) := by
    have e1 : ngT F.2.2.2.2 t s = (t s != F.2.2.2.2) := by
      unfold ngT
      cases F.2.2.2.2 with
      | true => rw [if_pos rfl]; cases t s <;> rfl
      | false => rw [if_neg (by decide)]; cases t s <;> rfl
    show andO F.2.2.2.1 (ngT F.2.2.2.2 t) s = _
    cases F.2.2.2.1 with
    | none =>
      show ngT F.2.2.2.2 t s = (true && _)
      rw [e1, Bool.true_and]
    | some u =>
      show (u s && ngT F.2.2.2.2 t s) = _
      rw [e1]; rfl
  have e38 : ∀ v : Bool, v = (psD F.2.2.2.1 s && (t s != F.2.2.2.2)) → fs_X10_part_38 (nI R.length) (b2 v) g = some ((), gI1 (gI1 g 179 R.length (b2 v)) 180 R.length 0) ∧ fsM (gI1 (gI1 g 179 R.length (b2 v)) 180 R.length 0) s (addP F t) R ∧ frQ g (gI1 (gI1 g 179 R.length (b2 v)) 180 R.length 0) ∧ (gI1 (gI1 g 179 R.length (b2 v)) 180 R.length 0).1 174 = g.1 174 := by
    intro v hv9
    refine ⟨?_, ⟨?_, ⟨?_, ?_, ?_, ?_, ?_, ?_⟩, ?_⟩, (frQ.f (by decide)).tr (frQ.f (by decide)), ?_⟩
    · unfold fs_X10_part_38
      rw [if_pos hi, hcl, nar_b2, show vp_nar .boolean (0 : Int32) = 0 from nar_b2 false]
      simp only [gl_eq]
      rw [show (gI1 g 179 R.length (b2 v)).1 174 12 = nI R.length by rw [gI1_1, if_neg (by decide)]; exact h1, if_pos hi, hcl]
    · rw [gI1_1, if_neg (by decide), gI1_1, if_neg (by decide)]; exact h1
    · rw [gI1_1, if_neg (by decide), gI1_1, if_neg (by decide)]; exact q1
    · rw [gI1_1, if_neg (by decide), gI1_1, if_neg (by decide)]; exact q2
    · rw [gI1_1, if_neg (by decide), r_self, if_pos rfl, hv9, ← hv]; rfl
    · rw [r_self, if_pos rfl]; rfl
    · rw [gI1_1, if_neg (by decide), gI1_1, if_neg (by decide)]; exact q5
    · rw [gI1_1, if_neg (by decide), gI1_1, if_neg (by decide)]; exact q6
    · exact frsM_eq R (fun j a b z hz => by rw [gI1_o (by omega), gI1_o (by omega)]) h3
    · rw [gI1_1, if_neg (by decide), gI1_1, if_neg (by decide)]
  have fin : ∀ v : Bool, v = (psD F.2.2.2.1 s && (t s != F.2.2.2.2)) → ∃ g', fs_X10_part_38 (nI R.length) (b2 v) g = some ((), g') ∧ fsM g' s (addP F t) R ∧ frQ g g' ∧ g'.1 174 3 = g.1 174 3 ∧ g'.1 174 4 = g.1 174 4 := by
    intro v hv9
    obtain ⟨a, b, c, d⟩ := e38 v hv9
    exact ⟨_, a, b, c, by rw [d], by rw [d]⟩
  unfold f_X10_part fs_X10_part_37
  rw [h1, if_pos hi, hcl, q3, q4, hx]
  cases ep : psD F.2.2.2.1 s with
  | false =>
    rw [if_pos (show b2 false = 0 from rfl)]
    exact fin false (by rw [ep]; rfl)
  | true =>
    rw [if_neg (show ¬ (b2 true = 0) from one0), if_pos hi]
    cases et : t s with
    | true =>
      cases en : F.2.2.2.2 with
      | true => rw [if_pos rfl]; exact fin false (by rw [ep, et, en]; rfl)
      | false => rw [if_neg (show ¬ (b2 true = b2 false) from one0)]; exact fin true (by rw [ep, et, en]; rfl)
    | false =>
      cases en : F.2.2.2.2 with
      | true => rw [if_neg (show ¬ (b2 false = b2 true) by decide)]; exact fin true (by rw [ep, et, en]; rfl)
      | false => rw [if_pos rfl]; exact fin false (by rw [ep, et, en]; rfl)
theorem cT_v (F : aF) (s : Nat) : cT F s = (gsV F s || psD F.2.2.2.1 s) := by
  unfold cT gsV
  cases F.2.2.1 with
  | none => rfl
  | some u => rfl
theorem m_group (h : fsM g s F R) (hR : R.length ≤ 121) : f_X10_isGroupOrAhead g = some (b2 (cT F s), g) := by
  obtain ⟨h1, ⟨q1, q2, q3, q4, q5, q6⟩, h3⟩ := h
  have hi := inb_nI (j := R.length) (n := 122) (by omega) (by decide)
  have hcl := nI_clamp (n := R.length) (by omega)
  unfold f_X10_isGroupOrAhead
  rw [h1, if_pos hi, hcl, q2, cT_v]
  cases gsV F s with
  | true => rw [if_neg (show ¬ (b2 true = 0) from one0)]; rfl
  | false =>
    rw [if_pos (show b2 false = 0 from rfl), if_pos hi, q3]
    cases psD F.2.2.2.1 s with
    | true => rw [if_neg (show ¬ (b2 true = 0) from one0)]; rfl
    | false => rw [if_pos (show b2 false = 0 from rfl)]; rfl
/-- how a reading of a sign ends: the answer, the place, the frames -/
def mOut (tx : List Nat) (s i : Nat) (g : gG) (y : Option (Int32 × gG)) (v : Int32) (j : Nat) (b : Bool) (F : aF) (R : List aF) : Prop := ∃ g', y = some (v, g') ∧ mc g' j b ∧ (b = true → fsM g' s F R) ∧ frQ g g'
theorem mod_bit {s p : Nat} (hp : p < 9) : (s % 512).testBit p = s.testBit p := by
  rw [show 512 = 2 ^ 9 from rfl, Nat.testBit_mod_two_pow]
  simp [hp]
theorem in_c (c told : Nat) (hc : c < 256) (ht : told ≤ 9) (g : gG) : f_X10_in (nI c).toInt64 (97 : Int64) ((((97 : Int32) + nI told) - (1 : Int32)).toInt64) g = some (b2 (decide (97 ≤ c ∧ c < 97 + told)), g) := by
  rw [m_inG]
  have e1 : ((97 : Int32) + nI told) - (1 : Int32) = nI (96 + told) := by
    rw [show (97 : Int32) + nI told = nI (97 + told) from nI_add 97 told]
    rw [show nI (97 + told) - (1 : Int32) = nI (97 + told - 1) from pk_sub (a := 97 + told) (b := 1) (by omega)]
    have : 97 + told - 1 = 96 + told := by omega
    rw [this]
  rw [e1, Int32.toInt_toInt64, Int32.toInt_toInt64, nI_toInt (by omega), nI_toInt (by omega), show (97 : Int64).toInt = 97 by decide]
  have e2 : decide ((97 : Int) ≤ (c : Int) ∧ (c : Int) ≤ ((96 + told : Nat) : Int)) = decide (97 ≤ c ∧ c < 97 + told) := by
    apply decide_eq_decide.mpr
    omega
  rw [e2]
theorem in_k (c a b : Nat) (hc : c < 256) (ha : a < 256) (hb : b < 256) (g : gG) : f_X10_in (nI c).toInt64 (lN a) (lN b) g = some (b2 (decide (a ≤ c ∧ c ≤ b)), g) := by
  rw [m_inG, Int32.toInt_toInt64, nI_toInt (by omega), lN_toInt (by omega), lN_toInt (by omega)]
  have e2 : decide ((a : Int) ≤ (c : Int) ∧ (c : Int) ≤ (b : Int)) = decide (a ≤ c ∧ c ≤ b) := by
    apply decide_eq_decide.mpr
    omega
  rw [e2]
theorem m_readPart_c (hT : txM g tx) (hl : tx.length ≤ 120) (hc : ∀ c ∈ tx, c < 256) (hm : mc g i true) (h : fsM g (s % 512) F R) (hR : R.length ≤ i) (ht : told ≤ 9) (hi : i < tx.length) : (∀ F' R', cst told 4 F R (tx.getD i 0) = some (4, F', R') → mOut tx (s % 512) i g (f_X10_readPart (nI s) (nI told) g) 0 (i + 1) true F' R') ∧ (∀ F' R', cst told 4 F R (tx.getD i 0) = some (6, F', R') → mOut tx (s % 512) i g (f_X10_readPart (nI s) (nI told) g) 1 (i + 1) true F' R') ∧ (∀ F' R', cst told 4 F R (tx.getD i 0) = some (5, F', R') → (i + 1 < tx.length ∧ tx.getD (i + 1) 0 = 91 → mOut tx (s % 512) i g (f_X10_readPart (nI s) (nI told) g) 0 (i + 2) true F' R') ∧ (¬ (i + 1 < tx.length ∧ tx.getD (i + 1) 0 = 91) → mOut tx (s % 512) i g (f_X10_readPart (nI s) (nI told) g) 0 (i + 1) false F' R')) ∧ (cst told 4 F R (tx.getD i 0) = none → mOut tx (s % 512) i g (f_X10_readPart (nI s) (nI told) g) 0 i false F R) := by
  obtain ⟨e1, e2⟩ := m_chr hT hl hi
  have hcb := hc _ (List.mem_of_getElem? (getD_get hi))
  have eR : f_X10_readPart (nI s) (nI told) g = fs_X10_readPart_25 (nI s) (nI told) (nI (tx.getD i 0)) g := by
    unfold f_X10_readPart
    rw [hT.1, hm.1, if_neg (nI_ge hi (by omega)), if_pos e1, e2]
  rw [eR]
  generalize tx.getD i 0 = c at *
  have eqn : ∀ k : Nat, k < 256 → (nI c = nI k ↔ c = k) := fun k hk => nI_eq (by omega) (by omega)
  have ec : cst told 4 F R c = (if c = 33 then some (4, tgl F, R) else if c = 40 then some (4, f0 0, F :: R) else if 49 ≤ c ∧ c ≤ 52 then some (5, f0 (c - 48), F :: R) else if c = 42 then some (6, addP F (fun _ => true), R) else if 97 ≤ c ∧ c < 97 + told then some (6, addP F (fun s => s.testBit (c - 97)), R) else none) := rfl
  rw [ec]
  have hg1 : fsM (gI1 (gI1 g 174 4 1) 174 3 (nI (i + 1))) (s % 512) F R := fsM_a h
  have hR1 : R.length ≤ 119 := by omega
  unfold fs_X10_readPart_25
  by_cases c42 : c = 42
  · have n33 : ¬ c = 33 := by omega
    have n40 : ¬ c = 40 := by omega
    have n49 : ¬ (49 ≤ c ∧ c ≤ 52) := by omega
    rw [if_neg n33, if_neg n40, if_neg n49, if_pos c42]
    refine ⟨fun F' R' e => (by cases e), fun F' R' e => ?_, fun F' R' e => (by cases e), fun e => by cases e⟩
    cases e
    obtain ⟨g2, x2, a2, b2', c2, d2⟩ := m_part hg1 (by omega) (t := fun _ => true) (x := 1) rfl
    refine ⟨g2, ?_, mc_Q mc_a1 c2 d2, fun _ => a2, frQ_a.tr b2'⟩
    rw [if_pos (show nI c = (42 : Int32) from (eqn 42 (by decide)).mpr c42)]
    unfold fs_X10_readPart_50 fs_X10_readPart_73 fs_X10_readPart_78
    rw [m_accept1 hm]
    simp only [ob_eq]
    rw [if_pos (show nI c = (42 : Int32) from (eqn 42 (by decide)).mpr c42), x2]
    simp only [ob_eq]
  · rw [if_neg (show ¬ (nI c = (42 : Int32)) from fun e => c42 ((eqn 42 (by decide)).mp e)), in_c c told hcb ht]
    simp only [ob_eq]
    by_cases cl : 97 ≤ c ∧ c < 97 + told
    · have n33 : ¬ c = 33 := by omega
      have n40 : ¬ c = 40 := by omega
      have n49 : ¬ (49 ≤ c ∧ c ≤ 52) := by omega
      rw [if_neg n33, if_neg n40, if_neg n49, if_neg c42, if_pos cl]
      refine ⟨fun F' R' e => (by cases e), fun F' R' e => ?_, fun F' R' e => (by cases e), fun e => by cases e⟩
      cases e
      obtain ⟨g2, x2, a2, b2', c2, d2⟩ := m_part hg1 (by omega) (t := fun s => s.testBit (c - 97)) (x := b2 (s.testBit (c - 97))) (by rw [mod_bit (by omega)])
      refine ⟨g2, ?_, mc_Q mc_a1 c2 d2, fun _ => a2, frQ_a.tr b2'⟩
      rw [decide_eq_true cl, b2_t, if_neg one0]
      unfold fs_X10_readPart_50 fs_X10_readPart_73 fs_X10_readPart_78
      rw [m_accept1 hm]
      simp only [ob_eq]
      rw [if_neg (show ¬ (nI c = (42 : Int32)) from fun e => c42 ((eqn 42 (by decide)).mp e)), show nI c - (97 : Int32) = nI (c - 97) from pk_sub (a := c) (b := 97) cl.1, m_has (by omega)]
      simp only [ob_eq]
      cases eb : s.testBit (c - 97) with
      | true =>
        rw [eb] at x2
        rw [b2_t, if_neg one0, show f_X10_part (1 : Int32) _ = _ from x2]
        simp only [ob_eq]
      | false =>
        rw [eb] at x2
        rw [b2_f, if_pos zero0, show f_X10_part (0 : Int32) _ = _ from x2]
        simp only [ob_eq]
    · rw [decide_eq_false cl, b2_f, if_pos zero0]
      by_cases c33 : c = 33
      · rw [if_pos c33]
        refine ⟨fun F' R' e => ?_, fun F' R' e => (by cases e), fun F' R' e => (by cases e), fun e => by cases e⟩
        cases e
        rw [if_pos (show nI c = (33 : Int32) from (eqn 33 (by decide)).mpr c33), m_accept1 hm]
        simp only [ob_eq]
        have hm1 : mc (gI1 (gI1 g 174 4 1) 174 3 (nI (i + 1))) (i + 1) true := mc_a1
        have fq : frQ g (gI1 (gI1 g 174 4 1) 174 3 (nI (i + 1))) := frQ_a
        generalize gI1 (gI1 g 174 4 1) 174 3 (nI (i + 1)) = g1 at *
        obtain ⟨h1, ⟨q1, q2, q3, q4, q5, q6⟩, h3⟩ := hg1
        have hib := inb_nI (j := R.length) (n := 122) (by omega) (by decide)
        have hcl := nI_clamp (n := R.length) (by omega)
        have mk : ∀ v : Bool, v = (!F.2.2.2.2) → fsM (gI1 g1 180 R.length (b2 v)) (s % 512) (tgl F) R ∧ frQ g (gI1 g1 180 R.length (b2 v)) ∧ mc (gI1 g1 180 R.length (b2 v)) (i + 1) true := by
          intro v hv
          refine ⟨⟨by rw [gI1_1, if_neg (by decide)]; exact h1, ⟨by rw [gI1_1, if_neg (by decide)]; exact q1, by rw [gI1_1, if_neg (by decide)]; exact q2, by rw [gI1_1, if_neg (by decide)]; exact q3, by rw [r_self, if_pos rfl, hv]; rfl, by rw [gI1_1, if_neg (by decide)]; exact q5, by rw [gI1_1, if_neg (by decide)]; exact q6⟩, frsM_eq R (fun j a b z hz => gI1_o (by omega)) h3⟩, fq.tr (frQ.f (by decide)), mc_Q hm1 (by rw [gI1_1, if_neg (by decide)]) (by rw [gI1_1, if_neg (by decide)])⟩
        rw [h1, if_pos hib, hcl, q4, show vp_nar .boolean (1 : Int32) = 1 from nar_b2 true, show vp_nar .boolean (0 : Int32) = 0 from nar_b2 false]
        simp only [gl_eq]
        cases en : F.2.2.2.2 with
        | false =>
          obtain ⟨z1, z2, z3⟩ := mk true (by rw [en]; rfl)
          exact ⟨_, by rw [if_pos (show b2 false = 0 from rfl), if_pos hib]; rfl, z3, fun _ => z1, z2⟩
        | true =>
          obtain ⟨z1, z2, z3⟩ := mk false (by rw [en]; rfl)
          exact ⟨_, by rw [if_neg (show ¬ (b2 true = 0) from one0), if_pos hib]; rfl, z3, fun _ => z1, z2⟩
      · rw [if_neg c33, if_neg (show ¬ (nI c = (33 : Int32)) from fun e => c33 ((eqn 33 (by decide)).mp e))]
        by_cases c40 : c = 40
        · rw [if_pos c40]
          refine ⟨fun F' R' e => ?_, fun F' R' e => (by cases e), fun F' R' e => (by cases e), fun e => by cases e⟩
          cases e
          obtain ⟨g2, x2, a2, b2', c2, d2⟩ := m_push hg1 hR1 0 (w := 1) (q := 0) rfl rfl
          refine ⟨g2, ?_, mc_Q mc_a1 c2 d2, fun _ => a2, frQ_a.tr b2'⟩
          rw [if_pos (show nI c = (40 : Int32) from (eqn 40 (by decide)).mpr c40), m_accept1 hm]
          simp only [ob_eq]
          rw [x2]
          simp only [ob_eq]
        · rw [if_neg c40, if_neg (show ¬ (nI c = (40 : Int32)) from fun e => c40 ((eqn 40 (by decide)).mp e)), show f_X10_in (nI c).toInt64 (49 : Int64) (52 : Int64) g = _ from in_k c 49 52 hcb (by decide) (by decide) g]
          simp only [ob_eq]
          by_cases c49 : 49 ≤ c ∧ c ≤ 52
          · rw [if_pos c49]
            refine ⟨fun F' R' e => (by cases e), fun F' R' e => (by cases e), fun F' R' e => ?_, fun e => by cases e⟩
            cases e
            rw [decide_eq_true c49, b2_t, if_neg one0, m_accept1 hm]
            simp only [ob_eq]
            have hm1 : mc (gI1 (gI1 g 174 4 1) 174 3 (nI (i + 1))) (i + 1) true := mc_a1
            have fq : frQ g (gI1 (gI1 g 174 4 1) 174 3 (nI (i + 1))) := frQ_a
            generalize gI1 (gI1 g 174 4 1) 174 3 (nI (i + 1)) = g1 at *
            have hT1 := txM_Q hT fq
            rw [show f_X10_isNext (91 : Int32) g1 = _ from m_isNext hT1 hl hc hm1.1 (by omega) (c := 91) (by decide)]
            simp only [ob_eq]
            rw [show nI c - (48 : Int32) = nI (c - 48) from pk_sub (a := c) (b := 48) (by omega)]
            have hk2 : (2 : Int32) = if c - 48 = 0 then 1 else 2 := by rw [if_neg (by omega)]
            by_cases hn : i + 1 < tx.length ∧ tx.getD (i + 1) 0 = 91
            · refine ⟨fun _ => ?_, fun hne => absurd hn hne⟩
              obtain ⟨g2, x2, a2, b2', c2, d2⟩ := m_push (fsM_a (v := 1) (w := nI (i + 1 + 1)) hg1) hR1 (c - 48) (w := 2) (q := nI (c - 48)) rfl hk2
              refine ⟨g2, ?_, mc_Q (mc_a1 (i := i + 1)) c2 d2, fun _ => a2, (fq.tr frQ_a).tr b2'⟩
              rw [decide_eq_true hn, b2_t, m_accept1 hm1]
              simp only [ob_eq]
              rw [x2]
              simp only [ob_eq]
            · refine ⟨fun hne => absurd hne hn, fun _ => ?_⟩
              obtain ⟨g2, x2, a2, b2', c2, d2⟩ := m_push (fsM_a (v := 0) (w := nI (i + 1)) hg1) hR1 (c - 48) (w := 2) (q := nI (c - 48)) rfl hk2
              refine ⟨g2, ?_, mc_Q (mc_a0 (i := i + 1)) c2 d2, fun e => (by cases e), (fq.tr frQ_a).tr b2'⟩
              rw [decide_eq_false hn, b2_f, m_accept0 hm1]
              simp only [ob_eq]
              rw [x2]
              simp only [ob_eq]
          · rw [if_neg c49, if_neg c42, if_neg cl]
            refine ⟨fun F' R' e => (by cases e), fun F' R' e => (by cases e), fun F' R' e => (by cases e), fun _ => ?_⟩
            refine ⟨_, ?_, mc_a0 (g := g), fun e => (by cases e), frQ_a⟩
            rw [decide_eq_false c49, b2_f, if_pos zero0, m_accept0 hm]
            simp only [ob_eq]
theorem in_m9 (a b : Nat) (ha : a < 256) (hb : b < 256) (g : gG) : f_X10_in (-9 : Int32).toInt64 (lN a) (lN b) g = some (0, g) := by
  rw [m_inG, Int32.toInt_toInt64, lN_toInt (by omega), lN_toInt (by omega), show (-9 : Int32).toInt = -9 by decide, decide_eq_false (by omega)]
  rfl
theorem m_readPart_e (hT : txM g tx) (hl : tx.length ≤ 120) (hm : mc g i true) (ht : told ≤ 9) (hi : i = tx.length) : mOut tx (s % 512) i g (f_X10_readPart (nI s) (nI told) g) 0 i false F R := by
  refine ⟨_, ?_, mc_a0 (g := g), fun e => (by cases e), frQ_a⟩
  unfold f_X10_readPart fs_X10_readPart_25
  rw [hT.1, hm.1, if_pos (nI_le (by omega) (by omega)), if_neg (by decide)]
  have e1 : ((97 : Int32) + nI told) - (1 : Int32) = nI (96 + told) := by
    rw [show (97 : Int32) + nI told = nI (97 + told) from nI_add 97 told]
    rw [show nI (97 + told) - (1 : Int32) = nI (97 + told - 1) from pk_sub (a := 97 + told) (b := 1) (by omega)]
    have : 97 + told - 1 = 96 + told := by omega
    rw [this]
  rw [e1, nI_l (by omega), show f_X10_in (-9 : Int32).toInt64 (97 : Int64) (lN (96 + told)) g = _ from in_m9 97 (96 + told) (by decide) (by omega) g]
  simp only [ob_eq]
  rw [if_pos trivial, if_neg (by decide), if_neg (by decide), show f_X10_in (-9 : Int32).toInt64 (49 : Int64) (52 : Int64) g = _ from in_m9 49 52 (by decide) (by decide) g]
  simp only [ob_eq]
  rw [if_pos trivial, m_accept0 hm]
  simp only [ob_eq]
end MQ
