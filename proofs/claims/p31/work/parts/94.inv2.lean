/-! PURE: what holds of every state between two calls of the law. -/
def tmOK (n : Nat) (H : Nat → Nat → Bool) (B : Nat) (tm : aT) : Prop := (∀ k p, tm.1[k]? = some p → canV n H (setOf (tm.1.take k)) p = true) ∧ (∃ m, tm.2.1 = nI m ∧ tm.1.length ≤ m ∧ m ≤ 19 * tm.1.length) ∧ ∃ h, tm.2.2 = nI h ∧ h ≤ B
def stOK (n : Nat) (hm : Nat → Nat) (B : Nat) (S : aS) : Prop := ∀ tm ∈ S.2.2.2, tmOK n (effH hm S.2.2.1) B tm
def okQ (B : Nat) (tx : List Nat) (n : Nat) (hm : Nat → Nat) (S : aS) (L : List aS) (K : Nat → Option aS) (rd : aR) : Prop := okA tx n hm S L K ∧ rdok rd ∧ stOK n hm B S ∧ (∀ S' ∈ L, stOK n hm B S') ∧ ∀ i S', K i = some S' → stOK n hm B S'
def okT7 (B : Nat) (A : aA) : Prop := okQ B A.1 A.2.1 A.2.2.1 A.2.2.2.1 A.2.2.2.2.1 A.2.2.2.2.2.1 A.2.2.2.2.2.2
section IN2
variable {tx : List Nat} {n : Nat} {hm : Nat → Nat} {S S' : aS} {L : List aS} {K : Nat → Option aS} {rd : aR} {B : Nat}
theorem tmOK.mono {H H' : Nat → Nat → Bool} {B' : Nat} {tm : aT} (h : tmOK n H B tm) (hB : B ≤ B') (hH : ∀ p s, H p s = true → H' p s = true) : tmOK n H' B' tm := by
  obtain ⟨h1, h2, x, h3, h4⟩ := h
  refine ⟨fun k p hk => ?_, h2, x, h3, by omega⟩
  have h5 := h1 k p hk
  unfold canV at h5 ⊢
  rw [Bool.and_eq_true, Bool.and_eq_true] at h5 ⊢
  exact ⟨h5.1, h5.2.1, hH _ _ h5.2.2⟩
theorem stOK.mono {B' : Nat} (h : stOK n hm B S) (hB : B ≤ B') : stOK n hm B' S := fun tm ht => (h tm ht).mono hB (fun _ _ e => e)
theorem okQ.mono {B' : Nat} (h : okQ B tx n hm S L K rd) (hB : B ≤ B') : okQ B' tx n hm S L K rd := ⟨h.1, h.2.1, h.2.2.1.mono hB, fun S' q => (h.2.2.2.1 S' q).mono hB, fun i S' q => (h.2.2.2.2 i S' q).mono hB⟩
theorem okQ.push (h : okQ B tx n hm S L K rd) (ok : okS n S') (hS : stOK n hm B S') : okQ B tx n hm S' ((S :: L).take 14) K rd := by
  refine ⟨okA_S h.1 ok, h.2.1, hS, fun S1 q => ?_, h.2.2.2.2⟩
  rcases List.mem_cons.mp (List.mem_of_mem_take q) with e | e
  · rw [e]; exact h.2.2.1
  · exact h.2.2.2.1 S1 e
theorem mns_ge (S : aS) (fr : Option Nat) (p : Nat) : 1 ≤ mns S fr p := by
  unfold mns
  cases fr with
  | none => show 1 ≤ 1 + S.1 p + S.2.1 p; omega
  | some q => show 1 ≤ 1 + adf (S.1 q) (S.1 p) + adf (S.2.1 q) (S.2.1 p); omega
theorem effH_mono {E E' : Nat} (h : ∀ p, E.testBit p = true → E'.testBit p = true) (p s : Nat) (e : effH hm E p s = true) : effH hm E' p s = true := by
  unfold effH at e ⊢
  rw [Nat.testBit_or, Bool.or_eq_true] at e ⊢
  rcases e with e | e
  · exact Or.inl e
  · exact Or.inr (h p e)
end IN2
section IN3
variable {tx : List Nat} {n : Nat} {hm : Nat → Nat} {X Y : Nat → Nat} {E : Nat} {T : List aT} {L : List aS} {K : Nat → Option aS} {rd : aR} {B t : Nat} {tm : aT}
theorem okS_tm (ok : okS n (X, Y, E, T)) (htm : T[t]? = some tm) : okT n tm ∧ t < T.length ∧ t < 4 := ok_get (S := (X, Y, E, T)) ok htm
theorem st_add (h : stOK n hm B (X, Y, E, T)) : stOK n hm B (X, Y, E, T ++ [([], 0, 0)]) := by
  intro tm ht
  rcases List.mem_append.mp ht with q | q
  · exact h tm q
  · rw [List.mem_singleton.mp q]
    exact ⟨fun k p hk => by simp at hk, ⟨0, rfl, Nat.le_refl _, Nat.zero_le _⟩, 0, rfl, Nat.zero_le _⟩
theorem st_go (ok : okS n (X, Y, E, T)) (hn : n ≤ 10) (h : stOK n hm B (X, Y, E, T)) (htm : T[t]? = some tm) {p : Nat} (hp : p < n) (hv : canV n (effH hm E) (setOf tm.1) p = true) : stOK n hm B (X, Y, E, T.set t (tm.1 ++ [p], tm.2.1 + nI (mns (X, Y, E, T) tm.1.getLast? p), tm.2.2)) := by
  intro tm' ht
  rcases List.mem_or_eq_of_mem_set ht with q | q
  · exact h tm' q
  · subst q
    obtain ⟨h1, ⟨m, e1, l1, l2⟩, x, e2, l3⟩ := h tm (List.mem_of_getElem? htm)
    have hok := (okS_tm ok htm).1
    have c1 := mns_ge (X, Y, E, T) tm.1.getLast? p
    have c2 : mns (X, Y, E, T) tm.1.getLast? p ≤ 19 := mns_le (S := (X, Y, E, T)) ok.2.2.1 (by omega) (fun q hq => Nat.lt_of_lt_of_le (hok.2 q (List.mem_of_getLast? hq)) hn)
    refine ⟨fun k q hk => ?_, ⟨m + mns (X, Y, E, T) tm.1.getLast? p, ?_, ?_, ?_⟩, x, e2, l3⟩
    · have hk : (tm.1 ++ [p])[k]? = some q := hk
      show canV n (effH hm E) (setOf ((tm.1 ++ [p]).take k)) q = true
      by_cases e : k < tm.1.length
      · rw [List.getElem?_append_left e] at hk
        rw [List.take_append_of_le_length (by omega)]
        exact h1 k q hk
      · have hlt := (List.getElem?_eq_some_iff.mp hk).1
        rw [List.length_append] at hlt
        have hlt : k < tm.1.length + 1 := hlt
        have ek : k = tm.1.length := by omega
        subst ek
        have e8 : p = q := by simpa using hk
        rw [← e8, List.take_append_of_le_length (Nat.le_refl _), List.take_length]
        exact hv
    · show tm.2.1 + nI _ = _
      rw [e1, nI_add]
    · show (tm.1 ++ [p]).length ≤ _
      rw [List.length_append]
      show tm.1.length + 1 ≤ _
      omega
    · show _ ≤ 19 * (tm.1 ++ [p]).length
      rw [List.length_append]
      show _ ≤ 19 * (tm.1.length + 1)
      omega
theorem st_hint (h : stOK n hm B (X, Y, E, T)) (htm : T[t]? = some tm) : stOK n hm (B + 1) (X, Y, E, T.set t (tm.1, tm.2.1, tm.2.2 + 1)) := by
  intro tm' ht
  rcases List.mem_or_eq_of_mem_set ht with q | q
  · exact (h tm' q).mono (by omega) (fun _ _ e => e)
  · subst q
    obtain ⟨h1, h2, x, e2, l3⟩ := h tm (List.mem_of_getElem? htm)
    exact ⟨h1, h2, x + 1, by show tm.2.2 + 1 = _; rw [e2, nI_1], by omega⟩
theorem st_give (h : stOK n hm B (X, Y, E, T)) (t : Nat) : stOK n hm B (X, Y, E, T.eraseIdx t) := fun tm ht => h tm (List.mem_of_mem_eraseIdx ht)
theorem st_move (h : stOK n hm B (X, Y, E, T)) (X' Y' : Nat → Nat) : stOK n hm B (X', Y', E, T) := fun tm ht => h tm ht
theorem st_ease (h : stOK n hm B (X, Y, E, T)) (p : Nat) : stOK n hm B (X, Y, E ||| 2 ^ p, T) := fun tm ht => (h tm ht).mono (Nat.le_refl _) (fun q s e => effH_mono (fun i hi => by rw [Nat.testBit_or, hi]; rfl) q s e)
theorem ok_add (ok : okS n (X, Y, E, T)) (h4 : T.length < 4) : okS n (X, Y, E, T ++ [([], 0, 0)]) := by
  refine okS_T ok (by rw [List.length_append]; show T.length + 1 ≤ 4; omega) ?_
  intro tm htm
  rcases List.mem_append.mp htm with h | h
  · exact ok.2.2.2 tm h
  · rw [List.mem_singleton.mp h]
    exact ⟨List.nodup_nil, fun p hp => by simp at hp⟩
theorem ok_go (ok : okS n (X, Y, E, T)) (htm : T[t]? = some tm) {p : Nat} (hp : p < n) {H : Nat → Nat → Bool} (hv : canV n H (setOf tm.1) p = true) (m x : Int32) : okS n (X, Y, E, T.set t (tm.1 ++ [p], m, x)) := okS_set1 ok (okT_app (okS_tm ok htm).1 hp (canV_bit hv) m x)
theorem ok_hint (ok : okS n (X, Y, E, T)) (htm : T[t]? = some tm) : okS n (X, Y, E, T.set t (tm.1, tm.2.1, tm.2.2 + 1)) := okS_set1 ok (okS_tm ok htm).1
theorem ok_give (ok : okS n (X, Y, E, T)) (t : Nat) : okS n (X, Y, E, T.eraseIdx t) := okS_T ok (Nat.le_trans (List.length_eraseIdx_le T t) ok.2.1) (fun tm h => ok.2.2.2 tm (List.mem_of_mem_eraseIdx h))
theorem ok_ease (ok : okS n (X, Y, E, T)) {p : Nat} (hp : p < n) : okS n (X, Y, E ||| 2 ^ p, T) := ⟨or_lt ok.1 hp, ok.2⟩
/-- every action is answered, and what holds of every state holds behind it -/
def EX (B B' : Nat) (A : aA) (X : gG → Option (Int64 × gG)) : Prop := ∃ v A', okT7 B' A' ∧ AC A X v A'
theorem EX.same {A : aA} {F : gG → Option (Int64 × gG)} {v : Int64} (h : okT7 B A) (hA : AC A F v A) : EX B (B + 1) A F := ⟨v, A, okQ.mono h (by omega), hA⟩
theorem EX.mk {A : aA} {F : gG → Option (Int64 × gG)} {v : Int64} {B' : Nat} {tx' : List Nat} {n' : Nat} {hm' : Nat → Nat} {S' : aS} {L' : List aS} {K' : Nat → Option aS} {rd' : aR} (h : okQ B' tx' n' hm' S' L' K' rd') (hA : AC A F v (tx', n', hm', S', L', K', rd')) : EX B B' A F := ⟨v, (tx', n', hm', S', L', K', rd'), h, hA⟩
theorem e_addTeam (h : okQ B tx n hm (X, Y, E, T) L K rd) : EX B (B + 1) (tx, n, hm, (X, Y, E, T), L, K, rd) f_L_addTeam := by
  have hT : T.length ≤ 4 := h.1.2.2.2.2.2.1.2.1
  by_cases h4 : T.length = 4
  · exact EX.same h (w_addTeam2 (x_addTeam_full h.1 h4))
  · exact EX.mk (okQ.mono (h.push (ok_add h.1.2.2.2.2.2.1 (by omega)) (st_add h.2.2.1)) (Nat.le_succ B)) (w_addTeam (x_addTeam h.1 (by omega)))
theorem e_go (h : okQ B tx n hm (X, Y, E, T) L K rd) (a b : Int32) : EX B (B + 1) (tx, n, hm, (X, Y, E, T), L, K, rd) (f_L_go a b) := by
  obtain ⟨o1, o2, h2, hn, o5, o6, o7, o8⟩ := h.1
  cases hT : isT (X, Y, E, T) a with
  | false => exact EX.same h (w_go3 (x_go_no h.1 b hT))
  | true =>
    obtain ⟨t, ht, rfl⟩ := isT_t hT o6.2.1
    have ht : t < T.length := ht
    obtain ⟨tm, htm⟩ := get_lt ht
    cases hP : decide (0 ≤ b.toInt ∧ b.toInt < n) with
    | false => exact EX.same h (w_go3 (x_go_place h.1 htm hP))
    | true =>
      obtain ⟨p, hp, rfl⟩ := isP_p hn hP
      cases hv : canV n (effH hm E) (setOf tm.1) p with
      | false => exact EX.same h (w_go2 (x_go_cant h.1 htm hp hv))
      | true => exact EX.mk (okQ.mono (h.push (ok_go o6 htm hp hv _ _) (st_go o6 hn h.2.2.1 htm hp hv)) (Nat.le_succ B)) (w_go (x_go h.1 htm hp hv))
theorem e_hint (h : okQ B tx n hm (X, Y, E, T) L K rd) (a : Int32) : EX B (B + 1) (tx, n, hm, (X, Y, E, T), L, K, rd) (f_L_hint a) := by
  obtain ⟨o1, o2, h2, hn, o5, o6, o7, o8⟩ := h.1
  cases hT : isT (X, Y, E, T) a with
  | false => exact EX.same h (w_hint3 (x_hint_no h.1 hT))
  | true =>
    obtain ⟨t, ht, rfl⟩ := isT_t hT o6.2.1
    have ht : t < T.length := ht
    obtain ⟨tm, htm⟩ := get_lt ht
    by_cases hz : safe n (effH hm E) (setOf tm.1) = 0
    · exact EX.same h (w_hint2 (x_hint_none h.1 htm hz))
    · exact EX.mk ((h.mono (Nat.le_succ B)).push (ok_hint o6 htm) (st_hint h.2.2.1 htm)) (w_hint (x_hint h.1 htm hz))
theorem e_giveUp (h : okQ B tx n hm (X, Y, E, T) L K rd) (a : Int32) : EX B (B + 1) (tx, n, hm, (X, Y, E, T), L, K, rd) (f_L_giveUp a) := by
  obtain ⟨o1, o2, h2, hn, o5, o6, o7, o8⟩ := h.1
  cases hT : isT (X, Y, E, T) a with
  | false => exact EX.same h (w_giveUp3 (x_giveUp_no h.1 hT))
  | true =>
    obtain ⟨t, ht, rfl⟩ := isT_t hT o6.2.1
    have ht : t < T.length := ht
    obtain ⟨tm, htm⟩ := get_lt ht
    exact EX.mk (okQ.mono (h.push (ok_give o6 t) (st_give h.2.2.1 t)) (Nat.le_succ B)) (w_giveUp (x_giveUp h.1 htm))
theorem e_move (h : okQ B tx n hm (X, Y, E, T) L K rd) (a x y : Int32) : EX B (B + 1) (tx, n, hm, (X, Y, E, T), L, K, rd) (f_L_move a x y) := by
  obtain ⟨o1, o2, h2, hn, o5, o6, o7, o8⟩ := h.1
  cases hP : decide (0 ≤ a.toInt ∧ a.toInt < n) with
  | false => exact EX.same h (w_move3 (x_move_no h.1 x y hP))
  | true =>
    obtain ⟨p, hp, rfl⟩ := isP_p hn hP
    cases hx : decide (0 ≤ x.toInt ∧ x.toInt ≤ ((9 : Nat) : Int)) with
    | false => exact EX.same h (w_move1 (x_move_bad h.1 hp (Or.inl hx)))
    | true =>
      cases hy : decide (0 ≤ y.toInt ∧ y.toInt ≤ ((9 : Nat) : Int)) with
      | false => exact EX.same h (w_move1 (x_move_bad h.1 hp (Or.inr hy)))
      | true =>
        obtain ⟨vx, hvx, rfl⟩ := in_nI hx
        obtain ⟨vy, hvy, rfl⟩ := in_nI hy
        exact EX.mk (okQ.mono (h.push (okS_put o6 hvx hvy) (st_move h.2.2.1 _ _)) (Nat.le_succ B)) (w_move (x_move h.1 hp hvx hvy))
theorem e_ease (h : okQ B tx n hm (X, Y, E, T) L K rd) (a : Int32) : EX B (B + 1) (tx, n, hm, (X, Y, E, T), L, K, rd) (f_L_ease a) := by
  obtain ⟨o1, o2, h2, hn, o5, o6, o7, o8⟩ := h.1
  cases hP : decide (0 ≤ a.toInt ∧ a.toInt < n) with
  | false => exact EX.same h (w_ease3 (x_ease_no h.1 hP))
  | true =>
    obtain ⟨p, hp, rfl⟩ := isP_p hn hP
    exact EX.mk (okQ.mono (h.push (ok_ease o6 hp) (st_ease h.2.2.1 p)) (Nat.le_succ B)) (w_ease (x_ease h.1 hp))
end IN3
section IN4
variable {tx : List Nat} {n : Nat} {hm : Nat → Nat} {S S' : aS} {L : List aS} {K : Nat → Option aS} {rd : aR} {B : Nat}
theorem okQ.undo (h : okQ B tx n hm S (S' :: L) K rd) : okQ B tx n hm S' L K rd := by
  obtain ⟨⟨o1, o2, h2, hn, o5, o6, o7, o8⟩, q2, q3, q4, q5⟩ := h
  exact ⟨⟨o1, o2, h2, hn, o5, o7 S' (by simp), fun S1 h1 => o7 S1 (by simp [h1]), o8⟩, q2, q4 S' (by simp), fun S1 h1 => q4 S1 (by simp [h1]), q5⟩
theorem okQ.save (h : okQ B tx n hm S L K rd) (i : Nat) : okQ B tx n hm S L (setK K i S) rd := by
  obtain ⟨⟨o1, o2, h2, hn, o5, o6, o7, o8⟩, q2, q3, q4, q5⟩ := h
  refine ⟨⟨o1, o2, h2, hn, o5, o6, o7, fun j S' hS => ?_⟩, q2, q3, q4, fun j S' hS => ?_⟩
  · by_cases e : j = i
    · rw [setK_1 e] at hS; cases hS; exact o6
    · rw [setK_2 e] at hS; exact o8 j S' hS
  · by_cases e : j = i
    · rw [setK_1 e] at hS; cases hS; exact q3
    · rw [setK_2 e] at hS; exact q5 j S' hS
theorem okQ.restore (h : okQ B tx n hm S L K rd) {i : Nat} (hK : K i = some S') : okQ B tx n hm S' [] K rd := by
  obtain ⟨⟨o1, o2, h2, hn, o5, o6, o7, o8⟩, q2, q3, q4, q5⟩ := h
  exact ⟨⟨o1, o2, h2, hn, o5, o8 i S' hK, fun S1 h1 => by simp at h1, o8⟩, q2, q5 i S' hK, fun S1 h1 => by simp at h1, q5⟩
theorem e_undo (h : okQ B tx n hm S L K rd) : EX B (B + 1) (tx, n, hm, S, L, K, rd) f_L_undo := by
  cases L with
  | nil => exact EX.same h (w_undo2 (x_undo_none h.1))
  | cons S' L => exact EX.mk (okQ.mono h.undo (Nat.le_succ B)) (w_undo (x_undo h.1))
theorem e_save (h : okQ B tx n hm S L K rd) (a : Int32) : EX B (B + 1) (tx, n, hm, S, L, K, rd) (f_L_save a) := by
  cases hT : decide (0 ≤ a.toInt ∧ a.toInt ≤ ((1 : Nat) : Int)) with
  | false => exact EX.same h (w_save3 (x_save_no h.1 hT))
  | true =>
    obtain ⟨i, hi, rfl⟩ := in_nI hT
    exact EX.mk (okQ.mono (h.save i) (Nat.le_succ B)) (w_save (x_save h.1 (by omega)))
theorem e_restore (h : okQ B tx n hm S L K rd) (a : Int32) : EX B (B + 1) (tx, n, hm, S, L, K, rd) (f_L_restore a) := by
  cases hT : decide (0 ≤ a.toInt ∧ a.toInt ≤ ((1 : Nat) : Int)) with
  | false => exact EX.same h (w_restore3 (x_restore_no h.1 hT))
  | true =>
    obtain ⟨i, hi, rfl⟩ := in_nI hT
    cases hK : K i with
    | none => exact EX.same h (w_restore2 (x_restore_none h.1 (by omega) hK))
    | some S' => exact EX.mk (okQ.mono (h.restore hK) (Nat.le_succ B)) (w_restore (x_restore h.1 (by omega) hK))
end IN4
