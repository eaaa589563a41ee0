/-! PURE: a team of the reference on a row, whether it counts there or not. -/
def mP (f : Nat → Int32) (n : Nat) (S : aS) : Prop := ∀ p, p < n → f (2 + 2 * p) = nI (S.1 p) ∧ f (3 + 2 * p) = nI (S.2.1 p)
def mTm (f : Nat → Int32) (t : Nat) (tm : aT) : Prop := f (342 + 13 * t) = nI tm.1.length ∧ f (343 + 13 * t) = tm.2.1 ∧ f (344 + 13 * t) = tm.2.2 ∧ ∀ j p, tm.1[j]? = some p → f (345 + 13 * t + j) = nI p
section WT
variable {g : gG} {r n : Nat} {S : aS} {H : Nat → Nat → Bool} {t : Nat} {tm : aT}
/-- the row in which a lone team walks -/
def tW (f : Nat → Int32) (n : Nat) (H : Nat → Nat → Bool) (S : aS) (tm : aT) : Prop := mH f n H ∧ mP f n S ∧ mTm f 0 tm
end WT
/-! the place that is drawn -/
def clrN : Nat → Nat → Nat
  | 0, O => O
  | k + 1, O => clrN k O &&& (clrN k O - 1)
def nthM (O : Nat) : Nat → Nat → Nat → Nat
  | 0, _, i => i
  | d + 1, k, i => if O.testBit i = true then (match k with
    | 0 => i
    | k + 1 => nthM O d k (i + 1)) else nthM O d k (i + 1)
def cntF (O : Nat) : Nat → Nat → Nat
  | 0, _ => 0
  | d + 1, i => (if O.testBit i = true then 1 else 0) + cntF O d (i + 1)
set_option maxRecDepth 100000 in
theorem nth_all : ∀ O, O < 1024 → ∀ k, k < 10 → k < cnt (fun i => O.testBit i) 10 → fLow (clrN k O) 10 0 = nI (nthM O 10 k 0) ∧ O.testBit (nthM O 10 k 0) = true ∧ cntF O 10 0 = cnt (fun i => O.testBit i) 10 := by decide +kernel
theorem cnt_pos : ∀ O, O < 1024 → O ≠ 0 → 0 < cnt (fun i => O.testBit i) 10 := by decide +kernel
theorem clrN_lt {O : Nat} (h : O < 1024) : ∀ k, clrN k O < 1024
  | 0 => h
  | k + 1 => Nat.lt_of_le_of_lt Nat.and_le_left (clrN_lt h k)
theorem clr_I {a : Nat} (h : a < 1024) : nI a &&& (nI a - (1 : Int32)) = nI (a &&& (a - 1)) := by
  cases a with
  | zero => decide
  | succ a =>
    rw [nI_pred, fa_and, Nat.add_sub_cancel]
theorem c_draw_l {O k : Nat} (hO : O < 1024) (hk : k < 10) (g : gG) (d : Nat) : ∀ i fu, i + d = k → d < fu → fb_X4_draw_46 fu (nI k) (nI (clrN i O)) (nI i) g = some (fLow (clrN k O) 10 0, g) := by
  induction d with
  | zero =>
    intro i fu hi hf
    obtain ⟨fu, rfl⟩ : ∃ f', fu = f' + 1 := ⟨fu - 1, by omega⟩
    have e : i = k := by omega
    subst e
    have := clrN_lt hO i
    unfold fb_X4_draw_46 fs_X4_draw_46
    rw [if_pos (nI_le (Nat.le_refl _) (by omega)), c_low (by omega)]
    simp only [ob_eq]
  | succ d ih =>
    intro i fu hi hf
    obtain ⟨fu, rfl⟩ : ∃ f', fu = f' + 1 := ⟨fu - 1, by omega⟩
    unfold fb_X4_draw_46 fs_X4_draw_46
    rw [if_neg (nI_ge (by omega) (by omega)), clr_I (clrN_lt hO i)]
    simp only [gl_eq, nI_1]
    exact ih (i + 1) fu (by omega) (by omega)
def nxt (x : Int64) : Int64 := (x * (6364136223846793005 : Int64)) + (1442695040888963407 : Int64)
def drw (x : Int64) (O : Nat) : Nat := uN x / 2 ^ 33 % cnt (fun i => O.testBit i) 10
theorem r_eq (x : Int64) : ((x.toUInt64 >>> ((33 : Int32).toInt64.toUInt64 &&& Int64.toUInt64 63)).toInt64).toInt32 = nI (uN x / 2 ^ 33) ∧ uN x / 2 ^ 33 < 2 ^ 31 := by
  obtain ⟨m, hm, rfl⟩ := wb_of x
  have e : uN (lN m) = m := by
    show (lN m).toBitVec.toNat = m
    exact wb_tn hm
  rw [e]
  refine ⟨?_, by omega⟩
  rw [show (33 : Int32) = nI 33 from rfl, wb_shr hm (by decide), lN_i]
theorem c_draw {O : Nat} (hO : O < 1024) (h0 : O ≠ 0) (g : gG) : f_X4_draw (nI O) g = some (nI (nthM O 10 (drw (nxt (g.2 173 1)) O) 0), gL1 g 173 1 (nxt (g.2 173 1))) := by
  have hp := cnt_pos O hO h0
  have hk10 := cnt_k (fun i => O.testBit i) 10
  have hk : drw (nxt (g.2 173 1)) O < cnt (fun i => O.testBit i) 10 := Nat.mod_lt _ hp
  obtain ⟨r1, r2⟩ := r_eq (nxt (g.2 173 1))
  unfold f_X4_draw
  simp only [gl_eq]
  rw [c_count hO]
  simp only [ob_eq]
  rw [if_neg (fun e => by have := (nI_z (by omega)).mp e; omega), if_neg (fun e => by have := (nI_z (by omega)).mp e; omega), gL1_2]
  rw [show ((g.2 173 1) * (6364136223846793005 : Int64)) + (1442695040888963407 : Int64) = nxt (g.2 173 1) from rfl, r1, pk_rem r2 hp (by omega)]
  unfold fs_X4_draw_39
  have h := c_draw_l (O := O) (k := drw (nxt (g.2 173 1)) O) hO (by omega) (gL1 g 173 1 (nxt (g.2 173 1))) (drw (nxt (g.2 173 1)) O) 0 gFuel (by omega) (by unfold gFuel; omega)
  rw [(nth_all O hO _ (by omega) hk).1] at h
  exact h
