/-! PURE: the reference's teams. -/
theorem m_cell (a b : Nat) (g : gG) : f_X10_cell (nI a) (nI b) g = some (nI (342 + 13 * a + b), g) := by
  unfold f_X10_cell
  show some ((nI 342 + (nI 13 * nI a)) + nI b, g) = _
  rw [pk_mul, nI_add, nI_add]
section MT
variable {g : gG} {r n : Nat} {S : aS} {hm : Nat → Nat} {t : Nat} {tm : aT}
theorem m_visited (h : mS (g.1 r) n hm S) (ok : okS n S) (hn : n ≤ 10) (ht : S.2.2.2[t]? = some tm) : f_X10_visited r 394 (nI t) g = some (nI (setOf tm.1), g) := by
  have h1 := ok_get ok ht
  have hlen := okT_len h1.1
  obtain ⟨e0, e1, e2, e3⟩ := h.2.2.2 t tm ht
  have key : ∀ (d i fuel : Nat), i + d = tm.1.length → d < fuel → fb_X10_visited_4 r 394 fuel (nI t) (nI (setOf (tm.1.take i))) (nI i) g = some (nI (setOf tm.1), g) := by
    intro d
    induction d with
    | zero =>
      intro i fuel hi hf
      obtain ⟨f, rfl⟩ : ∃ f, fuel = f + 1 := ⟨fuel - 1, by omega⟩
      show fs_X10_visited_4 r 394 _ _ _ _ _ = _
      unfold fs_X10_visited_4
      rw [show (0 : Int32) = nI 0 from rfl, m_cell]
      simp only [Option.bind_some]
      rw [if_pos (inb_nI (by omega) (by decide)), nI_clamp (by omega), Nat.add_zero, e0, if_pos (nI_le (by omega) (by omega)), List.take_of_length_le (by omega)]
    | succ d ih =>
      intro i fuel hi hf
      obtain ⟨f, rfl⟩ : ∃ f, fuel = f + 1 := ⟨fuel - 1, by omega⟩
      show fs_X10_visited_4 r 394 _ _ _ _ _ = _
      unfold fs_X10_visited_4
      rw [show (0 : Int32) = nI 0 from rfl, m_cell]
      simp only [Option.bind_some]
      rw [if_pos (inb_nI (by omega) (by decide)), nI_clamp (by omega), Nat.add_zero, e0, if_neg (nI_ge (by omega) (by omega))]
      rw [show (3 : Int32) + nI i = nI (3 + i) from nI_add 3 i, m_cell]
      simp only [Option.bind_some]
      obtain ⟨p, hp⟩ := get_lt (l := tm.1) (t := i) (by omega)
      have hpn := h1.1.2 p (List.mem_of_getElem? hp)
      rw [if_pos (inb_nI (by omega) (by decide)), nI_clamp (by omega), show 342 + 13 * t + (3 + i) = 345 + 13 * t + i by omega, e3 i p hp]
      unfold gLet
      rw [show (1 : Int32) <<< (nI p &&& 31) = nI (2 ^ p) from nI_shl1 (by omega), fa_or, nI_1]
      have e9 : setOf (tm.1.take i) ||| 2 ^ p = setOf (tm.1.take (i + 1)) := by
        rw [← setOf_app, List.take_add_one, hp]; rfl
      rw [e9]
      exact ih (i + 1) f (by omega) (by omega)
  unfold f_X10_visited
  exact key tm.1.length 0 gFuel (by omega) (by unfold gFuel; omega)
theorem m_last (h : mS (g.1 r) n hm S) (ok : okS n S) (hn : n ≤ 10) (ht : S.2.2.2[t]? = some tm) : f_X10_last r 394 (nI t) g = some (lastP tm.1, g) := by
  have h1 := ok_get ok ht
  have hlen := okT_len h1.1
  obtain ⟨e0, e1, e2, e3⟩ := h.2.2.2 t tm ht
  unfold f_X10_last lastP gLet
  rw [show (0 : Int32) = nI 0 from rfl, m_cell]
  simp only [Option.bind_some]
  rw [if_pos (inb_nI (by omega) (by decide)), nI_clamp (by omega), Nat.add_zero, e0]
  cases e : tm.1 with
  | nil => simp [nI]
  | cons a l =>
    rw [e] at hlen e3
    simp only [List.length_cons] at hlen
    rw [List.length_cons, if_neg (by rw [nI_eq (by omega) (by decide)]; omega)]
    have e5 : ((3 : Int32) + nI (l.length + 1)) - (1 : Int32) = nI (3 + l.length) := by
      show (nI 3 + nI (l.length + 1)) - nI 1 = _
      rw [nI_add, pk_sub (by omega)]
      congr 1
    rw [e5, m_cell]
    simp only [Option.bind_some]
    rw [if_pos (inb_nI (by omega) (by decide)), nI_clamp (by omega), show 342 + 13 * t + (3 + l.length) = 345 + 13 * t + l.length by omega]
    obtain ⟨p, hp⟩ := get_lt (l := a :: l) (t := l.length) (by simp)
    rw [e3 _ p hp, List.getLast?_eq_getElem?]
    simp only [List.length_cons, Nat.add_sub_cancel, hp]
theorem m_isThere (h : mS (g.1 r) n hm S) (ok : okS n S) (h2 : 2 ≤ n) (hn : n ≤ 10) (ht : S.2.2.2[t]? = some tm) : f_X10_isThere r 394 (nI t) g = some (b2 ((setOf tm.1).testBit (n - 1)), g) := by
  unfold f_X10_isThere
  rw [m_visited h ok hn ht]
  simp only [Option.bind_some]
  rw [m_chest h.1 h2]
  simp only [Option.bind_some]
  rw [m_has (by omega)]
  simp only [Option.bind_some, b2_gZb, if_true]
theorem m_score (h : mS (g.1 r) n hm S) (ok : okS n S) (h2 : 2 ≤ n) (hn : n ≤ 10) (ht : S.2.2.2[t]? = some tm) : f_X10_score r 394 (nI t) g = some (scr n tm, g) := by
  have h1 := ok_get ok ht
  obtain ⟨e0, e1, e2, e3⟩ := h.2.2.2 t tm ht
  unfold f_X10_score scr gLet
  rw [show (1 : Int32) = nI 1 from rfl, m_cell]
  simp only [Option.bind_some]
  rw [if_pos (inb_nI (by omega) (by decide)), nI_clamp (by omega), show (2 : Int32) = nI 2 from rfl, m_cell]
  simp only [Option.bind_some]
  rw [if_pos (inb_nI (by omega) (by decide)), nI_clamp (by omega), show 342 + 13 * t + 1 = 343 + 13 * t by omega, show 342 + 13 * t + 2 = 344 + 13 * t by omega, e1, e2, m_isThere h ok h2 hn ht]
  simp only [Option.bind_some]
  cases e : (setOf tm.1).testBit (n - 1) with
  | false => rw [if_pos (by decide)]; simp
  | true =>
    rw [if_neg (by decide), if_pos rfl]
    by_cases h9 : (200 : Int32) - tm.2.1 - (10 : Int32) * tm.2.2 ≤ 0
    · rw [if_pos h9, if_neg (fun q => by have a := Int32.le_iff_toInt_le.mp h9; have b := Int32.lt_iff_toInt_lt.mp q; omega)]
    · rw [if_neg h9, if_pos (by
        have a := mt Int32.le_iff_toInt_le.mpr h9
        exact Int32.lt_iff_toInt_lt.mpr (by omega))]
/-- minutes of one visit, from a place or the camp -/
def adf (a b : Nat) : Nat := if a < b then b - a else a - b
def mns (S : aS) (from_ : Option Nat) (p : Nat) : Nat := match from_ with
  | some q => 1 + adf (S.1 q) (S.1 p) + adf (S.2.1 q) (S.2.1 p)
  | none => 1 + S.1 p + S.2.1 p
theorem m_apart (a b : Nat) (ha : a < 2 ^ 31) (hb : b < 2 ^ 31) (g : gG) : f_X10_apart (nI a) (nI b) g = some (nI (adf a b), g) := by
  unfold f_X10_apart adf
  by_cases h : b ≤ a
  · rw [if_pos (nI_le h ha), pk_sub h, if_neg (by omega)]
  · rw [if_neg (nI_ge (by omega) hb), pk_sub (by omega), if_pos (by omega)]
def frI (f : Option Nat) : Int32 := match f with
  | some q => nI q
  | none => -9
theorem nI_ne9 {q : Nat} (h : q < 2 ^ 31) : ¬ (nI q = (-9 : Int32)) := by
  intro e
  have h1 := congrArg Int32.toInt e
  rw [nI_toInt h] at h1
  have : (-9 : Int32).toInt = -9 := by decide
  omega
theorem m_minutes (h : mS (g.1 r) n hm S) (ok : okS n S) (hn : n ≤ 10) {f : Option Nat} {p : Nat} (hp : p < n) (hf : ∀ q, f = some q → q < n) : f_X10_minutes r 394 (frI f) (nI p) g = some (nI (mns S f p), g) := by
  have hp9 := ok.2.2.1 p (by omega)
  have ex : ∀ q, q < n → (2 : Int32) + (2 : Int32) * nI q = nI (2 + 2 * q) := fun q _ => by
    show nI 2 + nI 2 * nI q = _
    rw [pk_mul, nI_add]
  have fin : ∀ (a b : Nat), a ≤ 9 → b ≤ 9 → fs_X10_minutes_37 r 394 (nI p) (nI a) (nI b) g = some (nI (1 + adf a (S.1 p) + adf b (S.2.1 p)), g) := by
    intro a b ha hb
    unfold fs_X10_minutes_37
    rw [ex p hp, if_pos (inb_nI (by omega) (by decide)), nI_clamp (by omega), (h.2.2.1 p hp).1, m_apart _ _ (by omega) (by omega)]
    simp only [Option.bind_some]
    rw [nI_1, if_pos (inb_nI (by omega) (by decide)), nI_clamp (by omega), show 2 + 2 * p + 1 = 3 + 2 * p by omega, (h.2.2.1 p hp).2, m_apart _ _ (by omega) (by omega)]
    simp only [Option.bind_some]
    show some ((nI 1 + nI _) + nI _, g) = _
    rw [nI_add, nI_add]
  unfold f_X10_minutes
  cases f with
  | none =>
    show (if (-9 : Int32) = -9 then _ else _) = _
    rw [if_pos rfl]
    unfold fs_X10_minutes_17
    show (if (-9 : Int32) = -9 then _ else _) = _
    rw [if_pos rfl]
    have := fin 0 0 (by omega) (by omega)
    rw [show nI 0 = (0 : Int32) from rfl] at this
    rw [this]
    have e1 : ∀ a, adf 0 a = a := by intro a; unfold adf; split <;> omega
    unfold mns
    rw [e1, e1]
  | some q =>
    have hq := hf q rfl
    have hq9 := ok.2.2.1 q (by omega)
    rw [show frI (some q) = nI q from rfl, if_neg (nI_ne9 (by omega)), ex q hq, if_pos (inb_nI (by omega) (by decide)), nI_clamp (by omega), (h.2.2.1 q hq).1]
    unfold fs_X10_minutes_17
    rw [if_neg (nI_ne9 (by omega)), ex q hq, nI_1, if_pos (inb_nI (by omega) (by decide)), nI_clamp (by omega), show 2 + 2 * q + 1 = 3 + 2 * q by omega, (h.2.2.1 q hq).2, fin _ _ hq9.1 hq9.2]
    rfl
theorem lastP_fr (l : List Nat) : lastP l = frI l.getLast? := rfl
end MT
