/-! PURE: what the class reads of all teams together. -/
def fTeamsAt (p : Nat) (T : List aT) (c : Nat) : Nat := T.foldl (fun c tm => if (setOf tm.1).testBit p = true then c + 1 else c) c
def fBest (n : Nat) (T : List aT) (b : Int32) : Int32 := T.foldl (fun b tm => if b < scr n tm then scr n tm else b) b
def fAny (T : List aT) (s : Nat) : Nat := T.foldl (fun s tm => s ||| setOf tm.1) s
def fHints (T : List aT) (s : Int32) : Int32 := T.foldl (fun s tm => s + tm.2.2) s
section CR
variable {g : gG} {k n : Nat} {S : aS} {hm : Nat → Nat}
theorem dropC {α : Type} {l : List α} {i : Nat} {x : α} (h : l[i]? = some x) : l.drop i = x :: l.drop (i + 1) := by
  obtain ⟨h1, h2⟩ := List.getElem?_eq_some_iff.mp h
  rw [List.drop_eq_getElem_cons h1, h2]
theorem c_teamsAt_l (h : cS g k S) (ok : okS n S) (hn : n ≤ 10) {p : Nat} (hp : p < 31) (d : Nat) : ∀ i c fu, i + d = S.2.2.2.length → d < fu → fb_X5_teamsAt_4 k fu (nI p) (nI c) (nI i) g = some (nI (fTeamsAt p (S.2.2.2.drop i) c), g) := by
  have h9 : g.1 k 9 = nI S.2.2.2.length := h.2.1
  have hT := ok.2.1
  induction d with
  | zero =>
    intro i c fu hi hf
    obtain ⟨fu, rfl⟩ : ∃ f', fu = f' + 1 := ⟨fu - 1, by omega⟩
    have e : i = S.2.2.2.length := by omega
    subst e
    unfold fb_X5_teamsAt_4 fs_X5_teamsAt_4
    rw [h9, if_pos (nI_le (Nat.le_refl _) (by omega)), List.drop_length]
    rfl
  | succ d ih =>
    intro i c fu hi hf
    obtain ⟨fu, rfl⟩ : ∃ f', fu = f' + 1 := ⟨fu - 1, by omega⟩
    obtain ⟨tm, htm⟩ := get_lt (l := S.2.2.2) (t := i) (by omega)
    have h1 := ok_get ok htm
    have hs := lt1024 (setOf_lt h1.1.2) hn
    unfold fb_X5_teamsAt_4 fs_X5_teamsAt_4
    rw [h9, if_neg (nI_ge (by omega) (by omega)), if_pos (inb_nI h1.2.2 (by decide)), nI_clamp (by omega), show g.1 (k + 3) i = _ from (h.2.2.2 i tm htm).1, c_isIn (by omega) hp]
    simp only [Option.bind_some, gLet, nI_1]
    rw [dropC htm]
    show _ = some (nI (fTeamsAt p (S.2.2.2.drop (i + 1)) (if (setOf tm.1).testBit p = true then c + 1 else c)), g)
    cases e : (setOf tm.1).testBit p with
    | true =>
      rw [if_neg (by decide), ih (i + 1) (c + 1) fu (by omega) (by omega)]
      rfl
    | false =>
      rw [if_pos (by decide), ih (i + 1) c fu (by omega) (by omega)]
      rfl
theorem c_teamsAt (h : cS g k S) (ok : okS n S) (hn : n ≤ 10) {p : Nat} (hp : p < 31) : f_X5_teamsAt k (nI p) g = some (nI (fTeamsAt p S.2.2.2 0), g) :=
  c_teamsAt_l h ok hn hp S.2.2.2.length 0 0 gFuel (by omega) (by have := ok.2.1; unfold gFuel; omega)
theorem c_best_l (hH : cH g n hm) (h2 : 2 ≤ n) (h : cS g k S) (ok : okS n S) (hn : n ≤ 10) (d : Nat) : ∀ i c fu, i + d = S.2.2.2.length → d < fu → fb_X5_greatestScore_4 k fu c (nI i) g = some (fBest n (S.2.2.2.drop i) c, g) := by
  have h9 : g.1 k 9 = nI S.2.2.2.length := h.2.1
  have hT := ok.2.1
  induction d with
  | zero =>
    intro i c fu hi hf
    obtain ⟨fu, rfl⟩ : ∃ f', fu = f' + 1 := ⟨fu - 1, by omega⟩
    have e : i = S.2.2.2.length := by omega
    subst e
    unfold fb_X5_greatestScore_4 fs_X5_greatestScore_4
    rw [h9, if_pos (nI_le (Nat.le_refl _) (by omega)), List.drop_length]
    rfl
  | succ d ih =>
    intro i c fu hi hf
    obtain ⟨fu, rfl⟩ : ∃ f', fu = f' + 1 := ⟨fu - 1, by omega⟩
    obtain ⟨tm, htm⟩ := get_lt (l := S.2.2.2) (t := i) (by omega)
    unfold fb_X5_greatestScore_4 fs_X5_greatestScore_4
    rw [h9, if_neg (nI_ge (by omega) (by omega)), c_scoreOf hH h2 hn h ok htm]
    simp only [Option.bind_some, gLet, nI_1]
    rw [dropC htm, ih (i + 1) _ fu (by omega) (by omega)]
    rfl
theorem c_best (hH : cH g n hm) (h2 : 2 ≤ n) (h : cS g k S) (ok : okS n S) (hn : n ≤ 10) : f_X5_greatestScore k g = some (fBest n S.2.2.2 0, g) :=
  c_best_l hH h2 h ok hn S.2.2.2.length 0 0 gFuel (by omega) (by have := ok.2.1; unfold gFuel; omega)
theorem c_any_l (h : cS g k S) (ok : okS n S) (d : Nat) : ∀ i c fu, i + d = S.2.2.2.length → d < fu → fb_X5_visitedByAny_4 k fu (nI c) (nI i) g = some (nI (fAny (S.2.2.2.drop i) c), g) := by
  have h9 : g.1 k 9 = nI S.2.2.2.length := h.2.1
  have hT := ok.2.1
  induction d with
  | zero =>
    intro i c fu hi hf
    obtain ⟨fu, rfl⟩ : ∃ f', fu = f' + 1 := ⟨fu - 1, by omega⟩
    have e : i = S.2.2.2.length := by omega
    subst e
    unfold fb_X5_visitedByAny_4 fs_X5_visitedByAny_4
    rw [h9, if_pos (nI_le (Nat.le_refl _) (by omega)), List.drop_length]
    rfl
  | succ d ih =>
    intro i c fu hi hf
    obtain ⟨fu, rfl⟩ : ∃ f', fu = f' + 1 := ⟨fu - 1, by omega⟩
    obtain ⟨tm, htm⟩ := get_lt (l := S.2.2.2) (t := i) (by omega)
    have h1 := ok_get ok htm
    unfold fb_X5_visitedByAny_4 fs_X5_visitedByAny_4
    rw [h9, if_neg (nI_ge (by omega) (by omega)), if_pos (inb_nI h1.2.2 (by decide)), nI_clamp (by omega), show g.1 (k + 3) i = _ from (h.2.2.2 i tm htm).1]
    simp only [Option.bind_some, gLet, nI_1, fa_or]
    rw [dropC htm, ih (i + 1) _ fu (by omega) (by omega)]
    rfl
theorem c_any (h : cS g k S) (ok : okS n S) : f_X5_visitedByAny k g = some (nI (fAny S.2.2.2 0), g) :=
  c_any_l h ok S.2.2.2.length 0 0 gFuel (by omega) (by have := ok.2.1; unfold gFuel; omega)
theorem c_hints_l (h : cS g k S) (ok : okS n S) (d : Nat) : ∀ i c fu, i + d = S.2.2.2.length → d < fu → fb_X5_allHints_4 k fu c (nI i) g = some (fHints (S.2.2.2.drop i) c, g) := by
  have h9 : g.1 k 9 = nI S.2.2.2.length := h.2.1
  have hT := ok.2.1
  induction d with
  | zero =>
    intro i c fu hi hf
    obtain ⟨fu, rfl⟩ : ∃ f', fu = f' + 1 := ⟨fu - 1, by omega⟩
    have e : i = S.2.2.2.length := by omega
    subst e
    unfold fb_X5_allHints_4 fs_X5_allHints_4
    rw [h9, if_pos (nI_le (Nat.le_refl _) (by omega)), List.drop_length]
    rfl
  | succ d ih =>
    intro i c fu hi hf
    obtain ⟨fu, rfl⟩ : ∃ f', fu = f' + 1 := ⟨fu - 1, by omega⟩
    obtain ⟨tm, htm⟩ := get_lt (l := S.2.2.2) (t := i) (by omega)
    have h1 := ok_get ok htm
    unfold fb_X5_allHints_4 fs_X5_allHints_4
    rw [h9, if_neg (nI_ge (by omega) (by omega)), if_pos (inb_nI h1.2.2 (by decide)), nI_clamp (by omega), show g.1 (k + 6) i = _ from (h.2.2.2 i tm htm).2.2.2.1]
    simp only [Option.bind_some, gLet, nI_1]
    rw [dropC htm, ih (i + 1) _ fu (by omega) (by omega)]
    rfl
theorem c_hints (h : cS g k S) (ok : okS n S) : f_X5_allHints k g = some (fHints S.2.2.2 0, g) :=
  c_hints_l h ok S.2.2.2.length 0 0 gFuel (by omega) (by have := ok.2.1; unfold gFuel; omega)
/-- the sets without p at which p is open -/
def fOpens (H : Nat → Nat → Bool) (p : Nat) : Nat → Nat → Nat → Nat
  | 0, _, c => c
  | d + 1, s, c => fOpens H p d (s + 1) (if s.testBit p = false ∧ H p s = true then c + 1 else c)
theorem c_opens_l (hH : cH g n hm) (h : cS g k S) (ok : okS n S) (hn : n ≤ 10) {p : Nat} (hp : p < 31) (d : Nat) : ∀ s c fu, s + d = 2 ^ n → d < fu → fb_X5_setsThatOpen_4 k fu (nI p) (nI c) (nI s) g = some (nI (fOpens (effH hm S.2.2.1) p d s c), g) := by
  have h8 : g.1 k 8 = nI S.2.2.1 := h.1
  have hE := lt1024 ok.1 hn
  have h1 : 2 ^ n ≤ 1024 := Nat.pow_le_pow_right (n := 2) (by decide) hn
  have h0 : 0 < 2 ^ n := Nat.two_pow_pos n
  induction d with
  | zero =>
    intro s c fu hi hf
    obtain ⟨fu, rfl⟩ : ∃ f', fu = f' + 1 := ⟨fu - 1, by omega⟩
    unfold fb_X5_setsThatOpen_4 fs_X5_setsThatOpen_4
    rw [c_allPlaces hH hn]
    simp only [Option.bind_some]
    rw [if_pos (nI_lt (by omega) (by omega))]
    rfl
  | succ d ih =>
    intro s c fu hi hf
    obtain ⟨fu, rfl⟩ : ∃ f', fu = f' + 1 := ⟨fu - 1, by omega⟩
    unfold fb_X5_setsThatOpen_4 fs_X5_setsThatOpen_4
    rw [c_allPlaces hH hn]
    simp only [Option.bind_some]
    rw [if_neg (nI_nlt (by omega) (by omega)), c_isIn (by omega) hp]
    simp only [Option.bind_some, gLet, nI_1]
    unfold fOpens
    cases e : s.testBit p with
    | true =>
      rw [if_neg (by decide), ih (s + 1) c fu (by omega) (by omega)]
      simp
    | false =>
      rw [if_pos (by decide), h8, c_isHeld hH hn hp hE]
      simp only [Option.bind_some]
      cases e2 : effH hm S.2.2.1 p s with
      | true =>
        rw [if_neg (by decide), ih (s + 1) (c + 1) fu (by omega) (by omega)]
        simp
      | false =>
        rw [if_pos (by decide), ih (s + 1) c fu (by omega) (by omega)]
        simp
theorem c_opens (hH : cH g n hm) (h : cS g k S) (ok : okS n S) (hn : n ≤ 10) {p : Nat} (hp : p < 31) : f_X5_setsThatOpen k (nI p) g = some (nI (fOpens (effH hm S.2.2.1) p (2 ^ n) 0 0), g) :=
  c_opens_l hH h ok hn hp (2 ^ n) 0 0 gFuel (by omega) (by have h1 : 2 ^ n ≤ 1024 := Nat.pow_le_pow_right (n := 2) (by decide) hn; unfold gFuel; omega)
/-- the smallest place of a set -/
def fLow (s : Nat) : Nat → Nat → Int32
  | 0, _ => -9
  | d + 1, i => if s.testBit i = true then nI i else fLow s d (i + 1)
theorem c_low_l {s : Nat} (hs : s < 2 ^ 31) (g : gG) (d : Nat) : ∀ i fu, i + d = 10 → d < fu → fb_X9_smallestOf_2 fu (nI s) (nI i) g = some (fLow s d i, g) := by
  induction d with
  | zero =>
    intro i fu hi hf
    obtain ⟨fu, rfl⟩ : ∃ f', fu = f' + 1 := ⟨fu - 1, by omega⟩
    have e : i = 10 := by omega
    subst e
    unfold fb_X9_smallestOf_2 fs_X9_smallestOf_2
    rw [if_pos (by decide)]
    rfl
  | succ d ih =>
    intro i fu hi hf
    obtain ⟨fu, rfl⟩ : ∃ f', fu = f' + 1 := ⟨fu - 1, by omega⟩
    unfold fb_X9_smallestOf_2 fs_X9_smallestOf_2
    rw [if_neg (show ¬ ((10 : Int32) ≤ nI i) from nI_ge (b := 10) (by omega) (by decide)), c_isIn hs (by omega)]
    simp only [Option.bind_some, gLet, nI_1]
    unfold fLow
    cases e : s.testBit i with
    | true => rw [if_neg (by decide)]; simp
    | false => rw [if_pos (by decide), ih (i + 1) fu (by omega) (by omega)]; simp
theorem c_low {s : Nat} (hs : s < 2 ^ 31) (g : gG) : f_X9_smallestOf (nI s) g = some (fLow s 10 0, g) :=
  c_low_l hs g 10 0 gFuel (by omega) (by unfold gFuel; omega)
end CR
