/-! PURE: two objects in the same state answer alike. -/
def AC2 {α : Type} (A : aA) (X : gG → gG → Option (α × gG × gG)) (v : α) (A' : aA) : Prop := ∀ g h, Iv A g → Iv A h → ∃ g' h', X g h = some (v, g', h') ∧ Iv A' g' ∧ Iv A' h'
section ALK
variable {tx : List Nat} {n : Nat} {hm : Nat → Nat} {S : aS} {L : List aS} {K : Nat → Option aS} {rd : aR} {A A1 A2 : aA} {α β : Type}
theorem AC2.pq {X : gG → Option (α × gG)} {v : α} {G : α × gG → α × gG → Option (β × gG × gG)} {z : β} (h1 : AC A X v A1) (h2 : AC2 A1 (fun g h => G (v, g) (v, h)) z A2) : AC2 A (fun g h => (X g).bind (fun u => (X h).bind (fun u' => G u u'))) z A2 := fun g h hg hh => by
  obtain ⟨g1, e1, i1⟩ := h1 g hg
  obtain ⟨g2, e2, i2⟩ := h1 h hh
  obtain ⟨g3, g4, e3, i3, i4⟩ := h2 g1 g2 i1 i2
  refine ⟨g3, g4, ?_, i3, i4⟩
  show (X g).bind (fun u => (X h).bind (fun u' => G u u')) = _
  rw [e1, ob_eq, e2, ob_eq]
  exact e3
theorem AC2.ret {v : α} : AC2 A (fun g h => some (v, g, h)) v A := fun g h hg hh => ⟨g, h, rfl, hg, hh⟩
theorem AC2.pos {c : Prop} {d : gG → gG → Decidable c} {X Y : gG → gG → Option (α × gG × gG)} {v : α} (hc : c) (h : AC2 A X v A1) : AC2 A (fun g h => @ite _ c (d g h) (X g h) (Y g h)) v A1 := fun g g2 hg hh => by
  obtain ⟨g', h', e, i⟩ := h g g2 hg hh
  exact ⟨g', h', (if_pos hc).trans e, i⟩
theorem ex_holds (ok : okA tx n hm S L K) (a i : Int32) : ∃ v, AC (tx, n, hm, S, L, K, rd) (f_L_holds a i) v (tx, n, hm, S, L, K, rd) := by
  obtain ⟨o1, o2, h2, hn, o5, o6, o7, o8⟩ := id ok
  have h1024 : 2 ^ n ≤ 1024 := Nat.pow_le_pow_right (n := 2) (j := 10) (by decide) hn
  have hpos : 0 < 2 ^ n := Nat.two_pow_pos n
  cases hP : decide (0 ≤ a.toInt ∧ a.toInt < n) with
  | false => exact ⟨_, w_holds3 (x_holds_no ok i hP)⟩
  | true =>
    obtain ⟨p, hp, rfl⟩ := isP_p hn hP
    cases hi : decide (0 ≤ i.toInt ∧ i.toInt ≤ ((2 ^ n - 1 : Nat) : Int)) with
    | false => exact ⟨_, w_holds1 (x_holds_bad ok hp hi)⟩
    | true =>
      obtain ⟨j, hj, rfl⟩ := in_nI hi
      exact ⟨_, w_holds (x_holds ok hp (by omega))⟩
theorem ex_quick (ok : okA tx n hm S L K) (a : Int32) : ∃ v, AC (tx, n, hm, S, L, K, rd) (f_L_quickest a (0 : Int32)) v (tx, n, hm, S, L, K, rd) := by
  obtain ⟨o1, o2, h2, hn, o5, o6, o7, o8⟩ := id ok
  cases hT : isT S a with
  | false => exact ⟨_, w_quickest3 (x_quickest_no ok 0 hT)⟩
  | true =>
    obtain ⟨t, ht, rfl⟩ := isT_t hT o6.2.1
    obtain ⟨tm, htm⟩ := get_lt ht
    exact ⟨_, w_quickest (x_quickest0 ok htm)⟩
theorem ex_needed (ok : okA tx n hm S L K) (a : Int32) : ∃ v, AC (tx, n, hm, S, L, K, rd) (f_L_needed a) v (tx, n, hm, S, L, K, rd) := by
  obtain ⟨o1, o2, h2, hn, o5, o6, o7, o8⟩ := id ok
  cases hT : isT S a with
  | false => exact ⟨_, w_needed3 (x_needed_no ok hT)⟩
  | true =>
    obtain ⟨t, ht, rfl⟩ := isT_t hT o6.2.1
    obtain ⟨tm, htm⟩ := get_lt ht
    exact ⟨_, w_needed (x_needed ok htm)⟩
theorem ex_script (ok : okA tx n hm S L K) (a : Int32) (s : Int64) : ∃ v, AC (tx, n, hm, S, L, K, rd) (f_L_script a s) v (tx, n, hm, S, L, K, rd) := by
  obtain ⟨res, h | ⟨r, h⟩, hA⟩ := x_script (rd := rd) ok a s
  · subst h; exact ⟨_, w_script1 hA⟩
  · subst h; exact ⟨_, w_script hA⟩
theorem L_sim (ok : okA tx n hm S L K) (s : Int64) {M : Nat} (h1 : 1 ≤ M) (h5 : M ≤ 50) : AC (tx, n, hm, S, L, K, rd) (f_L_simulate s (nI M)) (rnV (rn n (effH hm S.2.2.1) S M 0 0 s)).toInt64 (tx, n, hm, S, L, K, rd) := w_simulate (x_simulate ok s h1 h5)
theorem L_alike (ok : okA tx n hm S L K) (hr : rdok rd) (a : Int32) : AC2 (tx, n, hm, S, L, K, rd) (f_L_alike a) 1 (tx, n, hm, S, L, K, pTR tx rd) := by
  obtain ⟨o1, o2, h2, hn, o5, o6, o7, o8⟩ := id ok
  obtain ⟨v, hv⟩ := L_now (n := n) (hm := hm) (S := S) o6.2.1 hn
  obtain ⟨v2, hv2⟩ := ex_holds (rd := pTR tx rd) ok (a - a / (10 : Int32) * (10 : Int32)) ((a / (10 : Int32)) - (a / (10 : Int32)) / (64 : Int32) * (64 : Int32))
  obtain ⟨v3, hv3⟩ := ex_script (rd := pTR tx rd) ok (4 : Int32) ((3000100010101020 : Int64) + (a - a / (9 : Int32) * (9 : Int32)).toInt64)
  obtain ⟨v4, hv4⟩ := ex_quick (rd := pTR tx rd) ok (a - a / (4 : Int32) * (4 : Int32))
  obtain ⟨v5, hv5⟩ := ex_needed (rd := pTR tx rd) ok (a - a / (4 : Int32) * (4 : Int32))
  unfold f_L_alike
  refine AC2.pq (hv tx L K rd ok) ?_
  dsimp only
  refine AC2.pos (lg_refl _) (AC2.pq (x_err ok hr).1 ?_)
  dsimp only
  refine AC2.pos rfl (AC2.pq (x_deadEnds ok) ?_)
  dsimp only
  refine AC2.pos rfl (AC2.pq (x_easeBy ok) ?_)
  dsimp only
  refine AC2.pos rfl (AC2.pq (L_sim ok a.toInt64 (M := 12) (by decide) (by decide)) ?_)
  dsimp only
  refine AC2.pos (lg_refl _) (AC2.pq hv2 ?_)
  dsimp only
  refine AC2.pos (lg_refl _) (AC2.pq hv3 ?_)
  dsimp only
  refine AC2.pos (lg_refl _) (AC2.pq hv4 ?_)
  dsimp only
  refine AC2.pos (lg_refl _) (AC2.pq hv5 ?_)
  dsimp only
  exact AC2.pos (lg_refl _) AC2.ret
end ALK
