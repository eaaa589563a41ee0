/-! PURE: the reference reads a condition for a set. -/
def gsV (F : aF) (s : Nat) : Bool := match F.2.2.1 with
  | some t => t s
  | none => false
def frM (g : gG) (s lv : Nat) (F : aF) : Prop := g.1 177 lv = (if lv = 0 then 0 else if F.1 = 0 then 1 else 2) ∧ g.1 178 lv = b2 (gsV F s) ∧ g.1 179 lv = b2 (psD F.2.2.2.1 s) ∧ g.1 180 lv = b2 F.2.2.2.2 ∧ g.1 181 lv = nI F.1 ∧ g.1 182 lv = nI (cnt (lsAt F.2.1 s) F.2.1.length)
def frsM (g : gG) (s : Nat) : List aF → Prop
  | [] => True
  | F :: R => frM g s R.length F ∧ frsM g s R
def fsM (g : gG) (s : Nat) (F : aF) (R : List aF) : Prop := g.1 174 12 = nI R.length ∧ frM g s R.length F ∧ frsM g s R
/-- where the reading stands, and whether all was well so far -/
def mc (g : gG) (i : Nat) (b : Bool) : Prop := g.1 174 3 = nI i ∧ g.1 174 4 = b2 b
def frQ (g g' : gG) : Prop := (∀ j, j ≠ 174 → (j < 177 ∨ 182 < j) → g'.1 j = g.1 j) ∧ (∀ q, q ≠ 3 → q ≠ 4 → q ≠ 12 → g'.1 174 q = g.1 174 q) ∧ g'.2 = g.2
theorem frQ.rf {g : gG} : frQ g g := ⟨fun _ _ _ => rfl, fun _ _ _ _ => rfl, rfl⟩
theorem frQ.tr {g g' g'' : gG} (h : frQ g g') (h2 : frQ g' g'') : frQ g g'' := ⟨fun j a b => (h2.1 j a b).trans (h.1 j a b), fun q a b c => (h2.2.1 q a b c).trans (h.2.1 q a b c), h2.2.2.trans h.2.2⟩
theorem frQ.f {g : gG} {k i : Nat} {v : Int32} (h : 177 ≤ k ∧ k ≤ 182) : frQ g (gI1 g k i v) := ⟨fun j a b => by rw [gI1_1, if_neg (by omega)], fun q _ _ _ => by rw [gI1_1, if_neg (by omega)], rfl⟩
theorem frQ.s {g : gG} {i : Nat} {v : Int32} (h : i = 3 ∨ i = 4 ∨ i = 12) : frQ g (gI1 g 174 i v) := ⟨fun j a b => by rw [gI1_1, if_neg a], fun q a b c => by rw [r_self, if_neg (by omega)], rfl⟩
theorem frsM_eq {g g' : gG} {s : Nat} : ∀ (R : List aF), (∀ j, 177 ≤ j → j ≤ 182 → ∀ i, i < R.length → g'.1 j i = g.1 j i) → frsM g s R → frsM g' s R
  | [], _, _ => trivial
  | F :: R, e, h => by
    obtain ⟨⟨h1, h2, h3, h4, h5, h5'⟩, h6⟩ := h
    have hl : (F :: R).length = R.length + 1 := rfl
    refine ⟨⟨?_, ?_, ?_, ?_, ?_, ?_⟩, frsM_eq R (fun j a b i hi => e j a b i (by omega)) h6⟩
    · rw [e 177 (by omega) (by omega) _ (by omega)]; exact h1
    · rw [e 178 (by omega) (by omega) _ (by omega)]; exact h2
    · rw [e 179 (by omega) (by omega) _ (by omega)]; exact h3
    · rw [e 180 (by omega) (by omega) _ (by omega)]; exact h4
    · rw [e 181 (by omega) (by omega) _ (by omega)]; exact h5
    · rw [e 182 (by omega) (by omega) _ (by omega)]; exact h5'
section MQ
variable {g : gG} {tx : List Nat} {i s told : Nat} {F : aF} {R : List aF}
theorem txM_Q {g' : gG} (h : txM g tx) (f : frQ g g') : txM g' tx := ⟨by rw [f.2.1 2 (by decide) (by decide) (by decide)]; exact h.1, fun j c hc => by rw [f.1 175 (by decide) (by decide)]; exact h.2 j c hc⟩
/-- a store in the object: the frames stay -/
theorem fsM_s {j : Nat} {v : Int32} (h : fsM g s F R) (hj : j ≠ 12) : fsM (gI1 g 174 j v) s F R := by
  obtain ⟨h1, ⟨q1, q2, q3, q4, q5, q6⟩, h3⟩ := h
  have q : ∀ k, k ≠ 174 → (gI1 g 174 j v).1 k = g.1 k := fun k hk => by rw [gI1_1, if_neg hk]
  exact ⟨by rw [r_self, if_neg (fun e => hj e.symm)]; exact h1, ⟨by rw [q 177 (by decide)]; exact q1, by rw [q 178 (by decide)]; exact q2, by rw [q 179 (by decide)]; exact q3, by rw [q 180 (by decide)]; exact q4, by rw [q 181 (by decide)]; exact q5, by rw [q 182 (by decide)]; exact q6⟩, frsM_eq R (fun k a b z hz => by rw [q k (by omega)]) h3⟩
theorem m_chr (h : txM g tx) (hl : tx.length ≤ 120) (hi : i < tx.length) : inb (nI i) 120 = true ∧ g.1 175 (nI i).toNatClampNeg = nI (tx.getD i 0) := by
  refine ⟨inb_nI (by omega) (by decide), ?_⟩
  rw [nI_clamp (by omega)]
  exact h.2 i _ (getD_get hi)
theorem mc_a1 : mc (gI1 (gI1 g 174 4 1) 174 3 (nI (i + 1))) (i + 1) true := ⟨by rw [r_self, if_pos rfl], by rw [r_self, if_neg (by decide), r_self, if_pos rfl]; rfl⟩
theorem mc_a0 : mc (gI1 (gI1 g 174 4 0) 174 3 (nI i)) i false := ⟨by rw [r_self, if_pos rfl], by rw [r_self, if_neg (by decide), r_self, if_pos rfl]; rfl⟩
theorem frQ_a {v w : Int32} : frQ g (gI1 (gI1 g 174 4 v) 174 3 w) := (frQ.s (by decide)).tr (frQ.s (by decide))
theorem fsM_a {v w : Int32} (h : fsM g s F R) : fsM (gI1 (gI1 g 174 4 v) 174 3 w) s F R := fsM_s (fsM_s h (by decide)) (by decide)
theorem mc_Q {g' : gG} {b : Bool} (h : mc g i b) (e3 : g'.1 174 3 = g.1 174 3) (e4 : g'.1 174 4 = g.1 174 4) : mc g' i b := ⟨by rw [e3]; exact h.1, by rw [e4]; exact h.2⟩
theorem cT_v (F : aF) (s : Nat) : cT F s = (gsV F s || psD F.2.2.2.1 s) := by
  unfold cT gsV
  cases F.2.2.1 with
  | none => rfl
  | some u => rfl
/-- how a reading of a sign ends: the answer, the place, the frames -/
def mOut (tx : List Nat) (s i : Nat) (g : gG) (y : Option (Int32 × gG)) (v : Int32) (j : Nat) (b : Bool) (F : aF) (R : List aF) : Prop := ∃ g', y = some (v, g') ∧ mc g' j b ∧ (b = true → fsM g' s F R) ∧ frQ g g'
theorem mod_bit {s p : Nat} (hp : p < 9) : (s % 512).testBit p = s.testBit p := by
  rw [show 512 = 2 ^ 9 from rfl, Nat.testBit_mod_two_pow]
  simp [hp]
end MQ
