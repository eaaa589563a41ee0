/-! PURE: states. A team: trail, minutes, hints. A state: X, Y, eased places, teams. -/
abbrev aT : Type := List Nat × Int32 × Int32
abbrev aS : Type := (Nat → Nat) × (Nat → Nat) × Nat × List aT
def setOf : List Nat → Nat
  | [] => 0
  | p :: l => 2 ^ p ||| setOf l
def okT (n : Nat) (tm : aT) : Prop := tm.1.Nodup ∧ ∀ p ∈ tm.1, p < n
def okS (n : Nat) (S : aS) : Prop := S.2.2.1 < 2 ^ n ∧ S.2.2.2.length ≤ 4 ∧ (∀ p, p < 10 → S.1 p ≤ 9 ∧ S.2.1 p ≤ 9) ∧ ∀ tm ∈ S.2.2.2, okT n tm
theorem setOf_bit : ∀ (l : List Nat) (i : Nat), (setOf l).testBit i = decide (i ∈ l)
  | [], i => by simp [setOf]
  | p :: l, i => by
    rw [setOf, Nat.testBit_or, setOf_bit l i, Nat.testBit_two_pow]
    by_cases h : p = i
    · subst h; simp
    · have h2 : ¬ i = p := fun e => h e.symm
      simp [h, h2]
theorem setOf_lt {n : Nat} {l : List Nat} (h : ∀ p ∈ l, p < n) : setOf l < 2 ^ n := by
  apply Nat.lt_pow_two_of_testBit
  intro i hi
  rw [setOf_bit]
  simp only [decide_eq_false_iff_not]
  intro hm
  have := h i hm
  omega
theorem setOf_app (l : List Nat) (p : Nat) : setOf (l ++ [p]) = setOf l ||| 2 ^ p := by
  apply Nat.eq_of_testBit_eq
  intro i
  rw [setOf_bit, Nat.testBit_or, setOf_bit, Nat.testBit_two_pow]
  by_cases h : p = i
  · subst h; simp
  · have h2 : ¬ i = p := fun e => h e.symm
    simp [h, h2]
theorem okT_len {n : Nat} {tm : aT} (h : okT n tm) : tm.1.length ≤ n := by
  have : ∀ (n : Nat) (l : List Nat), l.Nodup → (∀ p ∈ l, p < n) → l.length ≤ n := by
    intro n
    induction n with
    | zero =>
      intro l _ h
      cases l with
      | nil => simp
      | cons a l => exact absurd (h a (by simp)) (by omega)
    | succ n ih =>
      intro l hd h
      have h1 := ih (l.erase n) (hd.erase n) (fun p hp => by
        have h2 := h p (List.mem_of_mem_erase hp)
        have h3 : p ≠ n := fun e => by subst e; exact (List.Nodup.not_mem_erase hd) hp
        omega)
      have h4 := List.length_erase (a := n) (l := l)
      split at h4 <;> omega
  exact this n tm.1 h.1 h.2
/-- the class's rows: F 0 the object, F 1 .. F 7 its rows -/
def cSr (F : Nat → Nat → Int32) (S : aS) : Prop := F 0 8 = nI S.2.2.1 ∧ F 0 9 = nI S.2.2.2.length ∧ (∀ p, p < 10 → F 1 p = nI (S.1 p) ∧ F 2 p = nI (S.2.1 p)) ∧ ∀ t tm, S.2.2.2[t]? = some tm → F 3 t = nI (setOf tm.1) ∧ F 4 t = nI tm.1.length ∧ F 5 t = tm.2.1 ∧ F 6 t = tm.2.2 ∧ ∀ j p, tm.1[j]? = some p → F 7 (10 * t + j) = nI p
def cS (g : gG) (k : Nat) (S : aS) : Prop := cSr (fun j => g.1 (k + j)) S
/-- the reference's row -/
def mS (f : Nat → Int32) (n : Nat) (hm : Nat → Nat) (S : aS) : Prop := mH f n (effH hm S.2.2.1) ∧ f 1 = nI S.2.2.2.length ∧ (∀ p, p < n → f (2 + 2 * p) = nI (S.1 p) ∧ f (3 + 2 * p) = nI (S.2.1 p)) ∧ ∀ t tm, S.2.2.2[t]? = some tm → f (342 + 13 * t) = nI tm.1.length ∧ f (343 + 13 * t) = tm.2.1 ∧ f (344 + 13 * t) = tm.2.2 ∧ ∀ j p, tm.1[j]? = some p → f (345 + 13 * t + j) = nI p
theorem get_lt {α : Type} {l : List α} {t : Nat} (h : t < l.length) : ∃ x, l[t]? = some x := ⟨l[t], List.getElem?_eq_getElem h⟩
theorem ok_get {n : Nat} {S : aS} (h : okS n S) {t : Nat} {tm : aT} (ht : S.2.2.2[t]? = some tm) : okT n tm ∧ t < S.2.2.2.length ∧ t < 4 := by
  have h1 := (List.getElem?_eq_some_iff.mp ht).1
  exact ⟨h.2.2.2 tm (List.mem_of_getElem? ht), h1, Nat.lt_of_lt_of_le h1 h.2.1⟩
def isT (S : aS) (x : Int32) : Bool := decide (0 ≤ x.toInt ∧ x.toInt < S.2.2.2.length)
theorem isT_t {S : aS} {x : Int32} (h : isT S x = true) (hS : S.2.2.2.length ≤ 4) : ∃ t, t < S.2.2.2.length ∧ x = nI t := by
  have h1 := of_decide_eq_true h
  refine ⟨x.toInt.toNat, by omega, ?_⟩
  apply Int32.toInt_inj.mp
  rw [nI_toInt (by omega)]
  omega
theorem isT_nI {S : aS} {t : Nat} (h : t < 2 ^ 31) : isT S (nI t) = decide (t < S.2.2.2.length) := by
  unfold isT
  rw [nI_toInt h]
  by_cases h2 : t < S.2.2.2.length
  · simp [h2]
  · simp [h2]
theorem rng (x : Int32) {n : Nat} (hn : n < 2 ^ 31) : (if x < 0 then false else if nI n ≤ x then false else true) = decide (0 ≤ x.toInt ∧ x.toInt < n) := by
  have e1 : (0 : Int32).toInt = 0 := rfl
  have e2 : (nI n).toInt = n := nI_toInt hn
  by_cases h1 : x < 0
  · rw [if_pos h1]
    have := Int32.lt_iff_toInt_lt.mp h1
    symm; simp; omega
  · rw [if_neg h1]
    have h3 := mt Int32.lt_iff_toInt_lt.mpr h1
    by_cases h4 : nI n ≤ x
    · rw [if_pos h4]
      have := Int32.le_iff_toInt_le.mp h4
      symm; simp; omega
    · rw [if_neg h4]
      have := mt Int32.le_iff_toInt_le.mpr h4
      symm; simp; omega
theorem c_hasTeam {g : gG} {k : Nat} {S : aS} (h : cS g k S) (hS : S.2.2.2.length ≤ 4) (x : Int32) : f_X5_hasTeam k x g = some (b2 (isT S x), g) := by
  unfold f_X5_hasTeam isT
  rw [← rng x (n := S.2.2.2.length) (by omega), show g.1 k 9 = nI S.2.2.2.length from h.2.1]
  by_cases h1 : x < 0
  · rw [if_pos h1, if_pos h1]; rfl
  · rw [if_neg h1, if_neg h1]
    by_cases h2 : nI S.2.2.2.length ≤ x
    · rw [if_pos h2, if_pos h2]; rfl
    · rw [if_neg h2, if_neg h2]; rfl
theorem b2n {b : Bool} (h : b = true) : ¬ (b2 b = 0) := by rw [h]; decide
section T
variable {g : gG} {k n : Nat} {S : aS} {t : Nat} {tm : aT}
theorem c_team1 (h : cS g k S) (ok : okS n S) (ht : S.2.2.2[t]? = some tm) : f_X5_hasTeam k (nI t) g = some (1, g) := by
  have h1 := ok_get ok ht
  rw [c_hasTeam h ok.2.1, isT_nI (by omega)]
  simp [h1.2.1, b2]
theorem c_visitedBy (h : cS g k S) (ok : okS n S) (ht : S.2.2.2[t]? = some tm) : f_X5_visitedBy k (nI t) g = some (nI (setOf tm.1), g) := by
  have h1 := ok_get ok ht
  unfold f_X5_visitedBy
  rw [c_team1 h ok ht]
  simp only [Option.bind_some]
  rw [if_neg (by decide), if_pos (inb_nI h1.2.2 (by decide)), nI_clamp (by omega)]
  rw [show g.1 (k + 3) t = _ from (h.2.2.2 t tm ht).1]
theorem c_visitsOf (h : cS g k S) (ok : okS n S) (ht : S.2.2.2[t]? = some tm) : f_X5_visitsOf k (nI t) g = some (nI tm.1.length, g) := by
  have h1 := ok_get ok ht
  unfold f_X5_visitsOf
  rw [c_team1 h ok ht]
  simp only [Option.bind_some]
  rw [if_neg (by decide), if_pos (inb_nI h1.2.2 (by decide)), nI_clamp (by omega)]
  rw [show g.1 (k + 4) t = _ from (h.2.2.2 t tm ht).2.1]
theorem c_minutesOf (h : cS g k S) (ok : okS n S) (ht : S.2.2.2[t]? = some tm) : f_X5_minutesOf k (nI t) g = some (tm.2.1, g) := by
  have h1 := ok_get ok ht
  unfold f_X5_minutesOf
  rw [c_team1 h ok ht]
  simp only [Option.bind_some]
  rw [if_neg (by decide), if_pos (inb_nI h1.2.2 (by decide)), nI_clamp (by omega)]
  rw [show g.1 (k + 5) t = _ from (h.2.2.2 t tm ht).2.2.1]
theorem c_hintsOf (h : cS g k S) (ok : okS n S) (ht : S.2.2.2[t]? = some tm) : f_X5_hintsOf k (nI t) g = some (tm.2.2, g) := by
  have h1 := ok_get ok ht
  unfold f_X5_hintsOf
  rw [c_team1 h ok ht]
  simp only [Option.bind_some]
  rw [if_neg (by decide), if_pos (inb_nI h1.2.2 (by decide)), nI_clamp (by omega)]
  rw [show g.1 (k + 6) t = _ from (h.2.2.2 t tm ht).2.2.2.1]
def scr (n : Nat) (tm : aT) : Int32 := if (setOf tm.1).testBit (n - 1) = true then (if 0 < (((200 : Int32) - tm.2.1) - ((10 : Int32) * tm.2.2)) then (((200 : Int32) - tm.2.1) - ((10 : Int32) * tm.2.2)) else 0) else 0
theorem c_scoreOf {hm : Nat → Nat} (hH : cH g n hm) (h2 : 2 ≤ n) (hn : n ≤ 10) (h : cS g k S) (ok : okS n S) (ht : S.2.2.2[t]? = some tm) : f_X5_scoreOf k (nI t) g = some (scr n tm, g) := by
  have h1 := ok_get ok ht
  unfold f_X5_scoreOf scr
  rw [c_visitedBy h ok ht]
  simp only [Option.bind_some]
  rw [c_hasChest hH h2 hn (lt1024 (setOf_lt h1.1.2) hn)]
  simp only [Option.bind_some]
  cases e : (setOf tm.1).testBit (n - 1) with
  | true =>
    rw [if_neg (by decide), c_minutesOf h ok ht]
    simp only [Option.bind_some]
    rw [c_hintsOf h ok ht]
    simp
  | false => rw [if_pos (by decide)]; simp
def lastP (l : List Nat) : Int32 := match l.getLast? with
  | some p => nI p
  | none => -9
theorem c_visitOf (h : cS g k S) (ok : okS n S) (hn : n ≤ 10) (ht : S.2.2.2[t]? = some tm) (x : Int32) : f_X5_visitOf k (nI t) x g = some (if x < 0 then -9 else (match tm.1[x.toNatClampNeg]? with | some p => nI p | none => -9), g) := by
  have h1 := ok_get ok ht
  have hlen := okT_len h1.1
  unfold f_X5_visitOf
  rw [c_team1 h ok ht]
  simp only [Option.bind_some]
  rw [if_neg (by decide)]
  by_cases hx : x < 0
  · rw [if_pos hx, if_pos hx]
  · rw [if_neg hx, if_neg hx, if_pos (inb_nI h1.2.2 (by decide)), nI_clamp (by omega), show g.1 (k + 4) t = _ from (h.2.2.2 t tm ht).2.1]
    obtain ⟨j, hj, rfl⟩ := nI_of hx
    rw [nI_clamp hj]
    by_cases hle : tm.1.length ≤ j
    · rw [if_pos (nI_le hle (by omega)), List.getElem?_eq_none hle]
    · rw [if_neg (nI_ge (by omega) (by omega))]
      obtain ⟨p, hp⟩ := get_lt (l := tm.1) (t := j) (by omega)
      have e1 : (nI t * (10 : Int32)) + nI j = nI (10 * t + j) := by
        show (nI t * nI 10) + nI j = _
        rw [pk_mul, nI_add, Nat.mul_comm]
      rw [e1, if_pos (inb_nI (by omega) (by decide)), nI_clamp (by omega), show g.1 (k + 7) (10 * t + j) = _ from (h.2.2.2 t tm ht).2.2.2.2 j p hp, hp]
theorem c_lastOf (h : cS g k S) (ok : okS n S) (hn : n ≤ 10) (ht : S.2.2.2[t]? = some tm) : f_X5_lastOf k (nI t) g = some (lastP tm.1, g) := by
  have h1 := ok_get ok ht
  have hlen := okT_len h1.1
  unfold f_X5_lastOf lastP
  rw [c_team1 h ok ht]
  simp only [Option.bind_some]
  rw [if_neg (by decide), if_pos (inb_nI h1.2.2 (by decide)), nI_clamp (by omega), show g.1 (k + 4) t = _ from (h.2.2.2 t tm ht).2.1]
  rw [c_visitOf h ok hn ht]
  simp only [Option.bind_some]
  cases e : tm.1 with
  | nil => simp
  | cons a l =>
    have e2 : nI (a :: l).length - 1 = nI l.length := by
      rw [List.length_cons, nI_pred]
    rw [e2, if_neg (nI_pos (by rw [e] at hlen; simp at hlen; omega)), nI_clamp (by rw [e] at hlen; simp at hlen; omega)]
    rw [List.getLast?_eq_getElem?]
    simp
theorem c_openTo {hm : Nat → Nat} (hH : cH g n hm) (h2 : 2 ≤ n) (hn : n ≤ 10) (h : cS g k S) (ok : okS n S) (ht : S.2.2.2[t]? = some tm) : f_X5_openTo k (nI t) g = some (nI (opn n (effH hm S.2.2.1) (setOf tm.1)), g) := by
  have h1 := ok_get ok ht
  unfold f_X5_openTo
  rw [c_team1 h ok ht]
  simp only [Option.bind_some]
  rw [if_neg (by decide), if_pos (inb_nI h1.2.2 (by decide)), nI_clamp (by omega), show g.1 (k + 3) t = _ from (h.2.2.2 t tm ht).1, show g.1 k 8 = _ from h.1]
  rw [c_openAfter hH h2 hn ok.1 (lt1024 (setOf_lt h1.1.2) hn)]
  rfl
end T
