/-! PURE: what follows an act, and what is taken back. -/
section FA
variable {tx : List Nat} {n : Nat} {hm : Nat → Nat} {X Y : Nat → Nat} {E : Nat} {T : List aT} {S S' : aS} {L : List aS} {K : Nat → Option aS} {rd : aR} {t : Nat} {tm : aT} {w : Int64}
theorem okA_undo (ok : okA tx n hm S (S' :: L) K) : okA tx n hm S' L K := by
  obtain ⟨o1, o2, h2, hn, o5, o6, o7, o8⟩ := ok
  exact ⟨o1, o2, h2, hn, o5, o7 S' (List.mem_cons_self), fun S1 h => o7 S1 (List.mem_cons_of_mem _ h), o8⟩
theorem okA_nil (ok : okA tx n hm S L K) : okA tx n hm S [] K := by
  obtain ⟨o1, o2, h2, hn, o5, o6, o7, o8⟩ := ok
  exact ⟨o1, o2, h2, hn, o5, o6, (fun S1 h => by cases h), o8⟩
theorem L_back (ok : okA tx n hm S (S' :: L) K) (h : L.length < 2 ^ 30) : AC (tx, n, hm, S, S' :: L, K, rd) f_L_undo (lN L.length) (tx, n, hm, S', L, K, rd) := by
  have e := w_undo (x_undo (rd := rd) ok)
  rw [nI_l (by omega)] at e
  exact e
theorem bk_neg {k : Nat} (h : k < 2 ^ 30) : ¬ lg_cmp (lN k) 0 < 0 := fun e => by
  have := (lcmp_lt (b := 0) (by omega) (by decide)).mp e
  omega
theorem tk_len {α : Type} (l : List α) {k : Nat} (h : k < 2 ^ 30) : (l.take k).length < 2 ^ 30 := by
  rw [List.length_take]
  omega
theorem f_813 (ok : okA tx n hm S L K) (hK : K 1 = some S) (hw : ∀ L, okA tx n hm S L K → AC (tx, n, hm, S, L, K, rd) f_L_now w (tx, n, hm, S, L, K, rd)) : AC (tx, n, hm, S, L, K, rd) (fs_L_follows_813 w (nI S.2.2.2.length) 1) 1 (tx, n, hm, S, [], K, rd) := by
  have ok0 := okA_nil ok
  unfold fs_L_follows_813
  refine AC.neg (by decide) (AC.bd (w_restore (x_restore ok (i := 1) (by decide) hK)) ?_)
  dsimp only
  refine AC.pos (lg_refl _) (AC.bd (hw [] ok0) ?_)
  dsimp only
  refine AC.pos (lg_refl _) (AC.bd (w_undo2 (x_undo_none ok0)) ?_)
  dsimp only
  exact AC.pos (lg_refl _) AC.ret
theorem f_716 (ok : okA tx n hm (X, Y, E, T) L K) (hK : K 1 = some (X, Y, E, T)) (hw : ∀ L, okA tx n hm (X, Y, E, T) L K → AC (tx, n, hm, (X, Y, E, T), L, K, rd) f_L_now w (tx, n, hm, (X, Y, E, T), L, K, rd)) (htm : T[t]? = some tm) : AC (tx, n, hm, (X, Y, E, T), L, K, rd) (fs_L_follows_716 w (nI T.length) (nI t) 1) 1 (tx, n, hm, (X, Y, E, T), [], K, rd) := by
  obtain ⟨o1, o2, h2, hn, o5, o6, o7, o8⟩ := id ok
  obtain ⟨ht, htl, ht4⟩ := okS_tm o6 htm
  have hT4 : T.length ≤ 4 := o6.2.1
  have he : (T.eraseIdx t).length = T.length - 1 := by rw [List.length_eraseIdx, if_pos htl]
  have ok1 := okA_S ok (ok_give o6 t)
  have ok2 := okA_S ok1 (ok_add ok1.2.2.2.2.2.1 (by omega))
  have e1 := w_giveUp (x_giveUp (rd := rd) ok htm)
  have e2 := w_about (x_about1 (rd := rd) ok1)
  have e3 := w_addTeam (x_addTeam (rd := rd) ok1 (by omega))
  have e4 := w_team (x_team1 (rd := rd) (t := T.length - 1) (tm := ([], 0, 0)) ok2 (by rw [← he]; exact List.getElem?_concat_length))
  have e2 : AC (tx, n, hm, (X, Y, E, T.eraseIdx t), ((X, Y, E, T) :: L).take 14, K, rd) (f_L_about 1) (lN (T.length - 1)) (tx, n, hm, (X, Y, E, T.eraseIdx t), ((X, Y, E, T) :: L).take 14, K, rd) := by
    rw [← he, ← nI_l (by omega)]
    exact e2
  rw [nI_l (by omega)] at e1
  rw [he, nI_l (by omega)] at e3
  unfold fs_L_follows_716
  rw [nI_l (by omega), show lN T.length - (1 : Int64) = lN (T.length - 1) from lN_sub (b := 1) (by omega), show nI T.length - (1 : Int32) = nI (T.length - 1) from by obtain ⟨k, hk⟩ : ∃ k, T.length = k + 1 := ⟨T.length - 1, by omega⟩; rw [hk]; exact nI_pred k]
  refine AC.neg (by decide) (AC.bd e1 ?_)
  dsimp only
  refine AC.pos (lg_refl _) (AC.bd e2 ?_)
  dsimp only
  refine AC.pos (lg_refl _) (AC.bd e3 ?_)
  dsimp only
  refine AC.pos (lg_refl _) (AC.bd e4 ?_)
  dsimp only
  refine AC.pos (by decide) (AC.bd (L_back ok2 (tk_len _ (by decide))) ?_)
  dsimp only
  refine AC.neg (bk_neg (tk_len _ (by decide))) (AC.bd (L_back (okA_undo ok2) (tk_len _ (by decide))) ?_)
  dsimp only
  refine AC.neg (bk_neg (tk_len _ (by decide))) (AC.bd (hw _ (okA_undo (okA_undo ok2))) ?_)
  dsimp only
  refine AC.pos (lg_refl _) ?_
  unfold fs_L_follows_811
  exact f_813 (S := (X, Y, E, T)) (okA_undo (okA_undo ok2)) hK hw
theorem fO_cong {H H' : Nat → Nat → Bool} {p : Nat} (h : ∀ s, H p s = H' p s) : ∀ d s c, fOpens H p d s c = fOpens H' p d s c
  | 0, _, _ => rfl
  | d + 1, s, c => by
    unfold fOpens
    rw [h s, fO_cong h d]
theorem fO_all : ∀ n, n < 11 → ∀ p, p < n → fOpens (fun _ _ => true) p (2 ^ n) 0 0 = 2 ^ (n - 1) := by decide +kernel
theorem effH_or (p s : Nat) : effH hm (E ||| 2 ^ p) p s = true := by
  unfold effH
  rw [Nat.testBit_or, Nat.testBit_or, Nat.testBit_two_pow_self]
  simp
theorem f_629 (ok : okA tx n hm (X, Y, E, T) L K) (hK : K 1 = some (X, Y, E, T)) (hw : ∀ L, okA tx n hm (X, Y, E, T) L K → AC (tx, n, hm, (X, Y, E, T), L, K, rd) f_L_now w (tx, n, hm, (X, Y, E, T), L, K, rd)) (htm : T[t]? = some tm) {x : Nat} (hx : x < 2 ^ 31) : AC (tx, n, hm, (X, Y, E, T), L, K, rd) (fs_L_follows_629 (nI x) w (nI n) (nI T.length) 1 (nI t)) 1 (tx, n, hm, (X, Y, E, T), [], K, rd) := by
  obtain ⟨o1, o2, h2, hn, o5, o6, o7, o8⟩ := id ok
  have hq : x / 7 % n < n := Nat.mod_lt _ (by omega)
  have ex : nI x / (7 : Int32) - nI x / (7 : Int32) / nI n * nI n = nI (x / 7 % n) := by
    rw [show nI x / (7 : Int32) = nI (x / 7) from pk_div (d := 7) (by omega) (by decide) (by decide)]
    exact pk_rem (by have := Nat.div_le_self x 7; omega) (by omega) (by omega)
  generalize x / 7 % n = q at *
  have ok1 := okA_S ok (ok_ease o6 hq)
  have hw9 : 2 ^ (n - 1) ≤ 2 ^ 9 := Nat.pow_le_pow_right (by decide) (by omega)
  have p1 := w_place (x_place3 (rd := rd) ok hq)
  have p2 := w_place (x_place3 (rd := rd) ok1 hq)
  have p3 := w_holds (x_holds (rd := rd) ok1 hq (j := 0) (Nat.two_pow_pos n))
  have p2 : AC (tx, n, hm, (X, Y, E ||| 2 ^ q, T), ((X, Y, E, T) :: L).take 14, K, rd) (f_L_place (nI q) 3) (lN (2 ^ (n - 1))) (tx, n, hm, (X, Y, E ||| 2 ^ q, T), ((X, Y, E, T) :: L).take 14, K, rd) := by
    rw [← fO_all n (by omega) q hq, ← fO_cong (H := effH hm (E ||| 2 ^ q)) (fun s => effH_or q s), ← nI_l]
    · exact p2
    · rw [fO_cong (H' := fun _ _ => true) (fun s => effH_or q s), fO_all n (by omega) q hq]
      omega
  rw [show effH hm (X, Y, E ||| 2 ^ q, T).2.2.1 q 0 = true from effH_or q 0] at p3
  unfold fs_L_follows_629
  refine AC.neg (fun e => by have := (nI_z (by omega)).mp e; omega) (AC.le ex (AC.bd p1 ?_))
  dsimp only
  refine AC.lt (AC.neg (by decide) (AC.bd (w_ease (x_ease ok hq)) ?_))
  dsimp only
  refine AC.pos (lg_refl _) (AC.bd p2 ?_)
  dsimp only
  rw [show nI n - (1 : Int32) = nI (n - 1) from by obtain ⟨k, rfl⟩ : ∃ k, n = k + 1 := ⟨n - 1, by omega⟩; exact nI_pred k, show (1 : Int64) <<< ((nI (n - 1)).toInt64 &&& 63) = lN (1 * 2 ^ (n - 1)) from wb_shl 1 (by omega), Nat.one_mul]
  refine AC.pos (lg_refl _) (AC.bd p3 ?_)
  dsimp only
  refine AC.pos (by decide) (AC.bd (L_back ok1 (tk_len _ (by decide))) ?_)
  dsimp only
  refine AC.neg (bk_neg (tk_len _ (by decide))) (AC.bd (hw _ (okA_undo ok1)) ?_)
  dsimp only
  exact AC.pos (lg_refl _) (f_716 (okA_undo ok1) hK hw htm)
theorem f_scr (ok : okA tx n hm S L K) (htm : S.2.2.2[t]? = some tm) {p : Nat} (hsf : (safe n (effH hm S.2.2.1) (setOf tm.1)).testBit p = true) : AC (tx, n, hm, S, L, K, rd) (f_L_script (nI 1) (lN (5000 + 100 * t + 10 * p))) (-9 : Int32).toInt64 (tx, n, hm, S, L, K, rd) := by
  obtain ⟨o1, o2, h2, hn, o5, o6, o7, o8⟩ := id ok
  have h1 := ok_get o6 htm
  have hT4 := o6.2.1
  have hp := (safe_bit hsf).1
  have hsl10 : safe n (effH hm S.2.2.1) (setOf tm.1) < 1024 := lt1024 (msk_lt _ _) hn
  have htl := h1.2.1
  refine w_script (x_script_v ok (m := 1) (by decide) (by decide) (show 5000 + 100 * t + 10 * p < 10000 ^ 1 by omega) (res := -9) (fun g hH hS => ?_))
  have hc : 5000 + 100 * t + 10 * p < 10000 := by omega
  have d1 : (5000 + 100 * t + 10 * p) / 1000 = 5 := by omega
  have d2 : (5000 + 100 * t + 10 * p) / 100 % 10 = t := by omega
  have d3 : (5000 + 100 * t + 10 * p) / 10 % 10 = p := by omega
  have d4 : (5000 + 100 * t + 10 * p) % 10 = 0 := by omega
  have d5 : (5000 + 100 * t + 10 * p) / 10000 ^ (1 - 1 - 0) % 10000 = 5000 + 100 * t + 10 * p := by
    show (5000 + 100 * t + 10 * p) / 1 % 10000 = _
    omega
  obtain ⟨g1, e, f⟩ := c_safeFor (k := 165) hH h2 hn hS o6 htm
  have eS : f_X3_isSafe (nI t) (nI p) g = some (1, g1) := by
    unfold f_X3_isSafe
    rw [c_hasT hS o6 (by omega), decide_eq_true htl]
    simp only [ob_eq]
    rw [b2_t, if_neg one0, c_hasP hH hn (by omega), decide_eq_true hp]
    simp only [ob_eq]
    rw [b2_t, if_neg one0, e]
    simp only [ob_eq]
    rw [c_isIn (by omega) (by omega)]
    simp only [ob_eq]
    rw [hsf, b2_t, if_neg one0]
  refine ⟨g1, ?_, f.wd (by decide) (by decide)⟩
  rw [show gFuel = 5998 + 1 + 1 from rfl, scr_eq (by decide) (by decide) (by omega), d5, succ_5 hc d1, d2, d3, d4, if_pos (show nI 0 = (0 : Int32) from rfl), eS]
  simp only [ob_eq]
  rw [if_neg one0]
  simp only [ob_eq]
  rw [if_neg one0]
  exact scr_end (m := 1) (by decide) 5998 g1
theorem fLow_ex {s : Nat} : ∀ d i, (∃ p, i ≤ p ∧ p < i + d ∧ s.testBit p = true) → ∃ j, i ≤ j ∧ j < i + d ∧ s.testBit j = true ∧ fLow s d i = nI j ∧ ∀ k, i ≤ k → k < j → s.testBit k = false
  | 0, i, ⟨p, h1, h2, _⟩ => by omega
  | d + 1, i, ⟨p, h1, h2, h3⟩ => by
    unfold fLow
    cases e : s.testBit i with
    | true => exact ⟨i, Nat.le_refl _, by omega, e, if_pos rfl, fun k a b => by omega⟩
    | false =>
      have hne : p ≠ i := fun q => by rw [q, e] at h3; cases h3
      obtain ⟨j, a1, a2, a3, a4, a5⟩ := fLow_ex (s := s) d (i + 1) ⟨p, by omega, by omega, h3⟩
      refine ⟨j, by omega, by omega, a3, (if_neg (by decide)).trans a4, fun k b1 b2 => ?_⟩
      by_cases q : k = i
      · rw [q]; exact e
      · exact a5 k (by omega) b2
theorem f_526 (ok : okA tx n hm (X, Y, E, T) L K) (hK : K 1 = some (X, Y, E, T)) (hw : ∀ L, okA tx n hm (X, Y, E, T) L K → AC (tx, n, hm, (X, Y, E, T), L, K, rd) f_L_now w (tx, n, hm, (X, Y, E, T), L, K, rd)) (htm : T[t]? = some tm) {x : Nat} (hx : x < 2 ^ 31) : AC (tx, n, hm, (X, Y, E, T), L, K, rd) (fs_L_follows_526 (nI x) w (nI n) (nI T.length) (nI t) (lN (safe n (effH hm E) (setOf tm.1))) 1) 1 (tx, n, hm, (X, Y, E, T), [], K, rd) := by
  obtain ⟨o1, o2, h2, hn, o5, o6, o7, o8⟩ := id ok
  obtain ⟨ht, htl, ht4⟩ := okS_tm o6 htm
  have hsl : safe n (effH hm E) (setOf tm.1) < 1024 := lt1024 (msk_lt _ _) hn
  unfold fs_L_follows_526
  by_cases hz : safe n (effH hm E) (setOf tm.1) = 0
  · exact AC.pos (by rw [hz]; decide) (f_629 ok hK hw htm hx)
  · obtain ⟨i, hi⟩ : ∃ i, (safe n (effH hm E) (setOf tm.1)).testBit i = true := by
      by_cases e : ∃ i, (safe n (effH hm E) (setOf tm.1)).testBit i = true
      · exact e
      · refine absurd (Nat.eq_of_testBit_eq (fun i => ?_)) hz
        rw [Nat.zero_testBit]
        cases hb : (safe n (effH hm E) (setOf tm.1)).testBit i with
        | false => rfl
        | true => exact absurd ⟨i, hb⟩ e
    obtain ⟨j, -, hj, hjs, hjF, hjm⟩ := fLow_ex (s := safe n (effH hm E) (setOf tm.1)) 10 0 ⟨i, Nat.zero_le _, by have := (safe_bit hi).1; omega, hi⟩
    have ok1 := okA_S ok (ok_hint o6 htm)
    have eh := w_hint (x_hint (rd := rd) ok htm hz)
    rw [hjF, nI_l (by omega)] at eh
    have hL := L_has (A := (tx, n, hm, (X, Y, E, T.set t (tm.1, tm.2.1, tm.2.2 + 1)), ((X, Y, E, T) :: L).take 14, K, rd)) (x := safe n (effH hm E) (setOf tm.1)) (p := j) (by omega) (by omega)
    rw [hjs] at hL
    have es := f_scr (rd := rd) (t := t) (tm := (tm.1, tm.2.1, tm.2.2 + 1)) ok1 (by show (T.set t _)[t]? = _; exact List.getElem?_set_self htl) (p := j) hjs
    have hw2 : 2 ^ j ≤ 2 ^ 9 := Nat.pow_le_pow_right (by decide) (by omega)
    have hp2 := Nat.two_pow_pos j
    have em : lN (safe n (effH hm E) (setOf tm.1)) &&& (((1 : Int64) <<< ((nI j).toInt64 &&& 63)) - (1 : Int64)) = lN 0 := by
      rw [show (1 : Int64) <<< ((nI j).toInt64 &&& 63) = lN (1 * 2 ^ j) from wb_shl 1 (by omega), Nat.one_mul, show lN (2 ^ j) - (1 : Int64) = lN (2 ^ j - 1) from lN_sub (b := 1) (by omega), wb_and (by omega) (by omega)]
      congr 1
      refine Nat.eq_of_testBit_eq (fun k => ?_)
      rw [Nat.testBit_and, Nat.testBit_two_pow_sub_one, Nat.zero_testBit]
      by_cases q : k < j
      · rw [hjm k (Nat.zero_le _) q]; rfl
      · rw [decide_eq_false q, Bool.and_false]
    refine AC.neg (fun e => hz ((lcmp_eq (b := 0) (by omega) (by decide)).mp e)) (AC.neg (by decide) (AC.bd eh ?_))
    dsimp only
    refine AC.lt ?_
    rw [lN_i]
    refine AC.bd hL ?_
    dsimp only
    rw [em, show ((5000 : Int64) + (100 : Int64) * (nI t).toInt64) + (10 : Int64) * lN j = lN (5000 + 100 * t + 10 * j) from by
      rw [nI_l (by omega), show (100 : Int64) * lN t = lN (100 * t) from lN_mul 100 t, show (10 : Int64) * lN j = lN (10 * j) from lN_mul 10 j, show (5000 : Int64) + lN (100 * t) = lN (5000 + 100 * t) from lN_add 5000 _, lN_add]]
    refine AC.neg (by decide) (AC.pos (by decide) (AC.bd es ?_))
    dsimp only
    refine AC.pos (by decide) (AC.bd (L_back ok1 (tk_len _ (by decide))) ?_)
    dsimp only
    refine AC.neg (bk_neg (tk_len _ (by decide))) (AC.bd (hw _ (okA_undo ok1)) ?_)
    dsimp only
    refine AC.pos (lg_refl _) ?_
    unfold fs_L_follows_627
    exact f_629 (okA_undo ok1) hK hw htm hx
end FA
