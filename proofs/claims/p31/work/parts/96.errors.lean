/-! PURE: calls that must be refused are refused, and change nothing. -/
section ERR
variable {tx : List Nat} {n : Nat} {hm : Nat → Nat} {X Y : Nat → Nat} {E : Nat} {T : List aT} {L : List aS} {K : Nat → Option aS} {rd : aR} {B : Nat}
theorem AC.le {α β : Type} {A A1 : aA} {x y : α} {F : α → gG → Option (β × gG)} {v : β} (e : x = y) (h : AC A (F y) v A1) : AC A (fun g => gLet x (fun z => F z g)) v A1 := by subst e; exact h
theorem isT_m {S : aS} (h : S.2.2.2.length ≤ 4) : isT S (nI S.2.2.2.length) = false := by
  rw [isT_nI (by omega)]; exact decide_eq_false (by omega)
theorem isT_neg {S : aS} : isT S (-1) = false := by
  unfold isT
  rw [show (-1 : Int32).toInt = -1 by decide]
  exact decide_eq_false (by omega)
theorem noP {n : Nat} (hn : n ≤ 10) : decide (0 ≤ (nI n).toInt ∧ (nI n).toInt < n) = false := by
  rw [nI_toInt (by omega)]; exact decide_eq_false (by omega)
theorem err_438 (ok : okA tx n hm (X, Y, E, T) L K) {v : Int64} (hv : AC (tx, n, hm, (X, Y, E, T), L, K, rd) f_L_now v (tx, n, hm, (X, Y, E, T), L, K, rd)) : AC (tx, n, hm, (X, Y, E, T), L, K, rd) (fs_L_errors_438 v (nI T.length) 1) 1 (tx, n, hm, (X, Y, E, T), L, K, rd) := by
  obtain ⟨o1, o2, h2, hn, o5, o6, o7, o8⟩ := id ok
  have hm9 := isT_m (S := (X, Y, E, T)) o6.2.1
  unfold fs_L_errors_438
  refine AC.neg (by decide) (AC.bd (w_shortest3 (x_shortest_no ok 0 hm9)) ?_)
  dsimp only
  refine AC.pos (lg_refl _) (AC.bd (w_quickest3 (x_quickest_no ok 0 hm9)) ?_)
  dsimp only
  refine AC.pos (lg_refl _) (AC.bd (w_orders3 (x_orders_no ok isT_neg)) ?_)
  dsimp only
  refine AC.pos (lg_refl _) (AC.bd (w_safe3 (x_safe_no ok hm9)) ?_)
  dsimp only
  refine AC.pos (lg_refl _) (AC.bd (w_needed3 (x_needed_no ok hm9)) ?_)
  dsimp only
  refine AC.pos (lg_refl _) (AC.bd (w_script1 (x_script_m ok (by decide))) ?_)
  dsimp only
  refine AC.pos (lg_refl _) (AC.bd (w_script1 (x_script_bad ok (m := 4) (by decide) (by decide) (by decide))) ?_)
  dsimp only
  refine AC.pos (lg_refl _) (AC.bd (w_simulate1 (x_simulate_bad ok (by decide))) ?_)
  dsimp only
  refine AC.pos (lg_refl _) (AC.bd (w_save3 (x_save_no ok (by decide))) ?_)
  dsimp only
  refine AC.pos (lg_refl _) (AC.bd (w_restore3 (x_restore_no ok (by decide))) ?_)
  dsimp only
  refine AC.pos (lg_refl _) (AC.bd (w_append1 (x_append_bad ok (by decide))) ?_)
  dsimp only
  refine AC.pos (lg_refl _) (AC.bd hv ?_)
  dsimp only
  exact AC.pos (lg_refl _) AC.ret
theorem err_379 (ok : okA tx n hm (X, Y, E, T) L K) {v : Int64} {t : Nat} {tm : aT} (htm : T[t]? = some tm) {F : Int64 → Int32 → Int32 → Int32 → Int32 → gG → Option (Int32 × gG)} (hF : AC (tx, n, hm, (X, Y, E, T), L, K, rd) (F v (nI n) (nI T.length) 1 (nI (t + 1))) 1 (tx, n, hm, (X, Y, E, T), L, K, rd)) (d : Nat) : ∀ p fu, p + d = n → d < fu → AC (tx, n, hm, (X, Y, E, T), L, K, rd) (fb_L_errors_379 F fu v (nI n) (nI T.length) 1 (nI t) (nI p)) 1 (tx, n, hm, (X, Y, E, T), L, K, rd) := by
  obtain ⟨o1, o2, h2, hn, o5, o6, o7, o8⟩ := id ok
  have hs := setOf_lt (okS_tm o6 htm).1.2
  have h10 := lt1024 hs hn
  have hol : opn n (effH hm E) (setOf tm.1) < 2 ^ n := opn_lt
  have hol10 := lt1024 hol hn
  induction d with
  | zero =>
    intro p fu hp hf
    obtain ⟨fu, rfl⟩ : ∃ f', fu = f' + 1 := ⟨fu - 1, by omega⟩
    unfold fb_L_errors_379 fs_L_errors_379
    refine AC.pos (show nI n ≤ nI p from nI_le (by omega) (by omega)) ?_
    simp only [gl_eq, nI_s]
    exact hF
  | succ d ih =>
    intro p fu hp hf
    obtain ⟨fu, rfl⟩ : ∃ f', fu = f' + 1 := ⟨fu - 1, by omega⟩
    have next : AC (tx, n, hm, (X, Y, E, T), L, K, rd) (fs_L_errors_419 F (fb_L_errors_379 F fu) v (nI n) (nI T.length) (nI t) (nI p)) 1 (tx, n, hm, (X, Y, E, T), L, K, rd) := by
      unfold fs_L_errors_419 fs_L_errors_424
      simp only [gl_eq, nI_s]
      exact ih (p + 1) fu (by omega) (by omega)
    have hop := w_open (x_open (S := (X, Y, E, T)) (rd := rd) ok htm)
    rw [nI_l (show opn n (effH hm E) (setOf tm.1) < 2 ^ 31 by omega)] at hop
    unfold fb_L_errors_379 fs_L_errors_379
    refine AC.neg (show ¬ (nI n ≤ nI p) from nI_ge (by omega) (by omega)) (AC.neg (by decide) (AC.bd hop ?_))
    dsimp only
    refine AC.bd (L_has (show opn n (effH hm E) (setOf tm.1) < 2 ^ 30 by omega) (by omega)) ?_
    dsimp only
    cases hv : (opn n (effH hm E) (setOf tm.1)).testBit p with
    | true =>
      exact AC.neg (by decide) next
    | false =>
      have hv2 : canV n (effH hm E) (setOf tm.1) p = false := by
        rw [opn_bit, decide_eq_true (show p < n by omega), Bool.true_and] at hv
        exact hv
      refine AC.pos rfl (AC.bd (w_go2 (x_go_cant ok htm (by omega) hv2)) ?_)
      dsimp only
      exact AC.pos (lg_refl _) next
theorem err_262 (ok : okA tx n hm (X, Y, E, T) L K) {v : Int64} (hv : AC (tx, n, hm, (X, Y, E, T), L, K, rd) f_L_now v (tx, n, hm, (X, Y, E, T), L, K, rd)) (d : Nat) : ∀ t fu, t + d = T.length → d < fu → AC (tx, n, hm, (X, Y, E, T), L, K, rd) (fb_L_errors_262 fu v (nI n) (nI T.length) 1 (nI t)) 1 (tx, n, hm, (X, Y, E, T), L, K, rd) := by
  obtain ⟨o1, o2, h2, hn, o5, o6, o7, o8⟩ := id ok
  have hT4 : T.length ≤ 4 := o6.2.1
  induction d with
  | zero =>
    intro t fu hp hf
    obtain ⟨fu, rfl⟩ : ∃ f', fu = f' + 1 := ⟨fu - 1, by omega⟩
    unfold fb_L_errors_262 fs_L_errors_262
    exact AC.pos (show nI T.length ≤ nI t from nI_le (by omega) (by omega)) (err_438 ok hv)
  | succ d ih =>
    intro t fu hp hf
    obtain ⟨fu, rfl⟩ : ∃ f', fu = f' + 1 := ⟨fu - 1, by omega⟩
    obtain ⟨tm, htm⟩ := get_lt (show t < T.length by omega)
    have hs := setOf_lt (okS_tm o6 htm).1.2
    have h10 := lt1024 hs hn
    have hsl : safe n (effH hm E) (setOf tm.1) < 2 ^ n := msk_lt _ _
    have hsl10 := lt1024 hsl hn
    have next : AC (tx, n, hm, (X, Y, E, T), L, K, rd) (fs_L_errors_369 (fb_L_errors_262 fu) v (nI n) (nI T.length) (nI t)) 1 (tx, n, hm, (X, Y, E, T), L, K, rd) := by
      unfold fs_L_errors_369 fs_L_errors_374
      exact err_379 ok htm (ih (t + 1) fu (by omega) (by omega)) n 0 gFuelL (by omega) (by unfold gFuelL; omega)
    have hsf := w_safe (x_safe (S := (X, Y, E, T)) (rd := rd) ok htm)
    rw [nI_l (show safe n (effH hm E) (setOf tm.1) < 2 ^ 31 by omega)] at hsf
    unfold fb_L_errors_262 fs_L_errors_262
    refine AC.neg (show ¬ (nI T.length ≤ nI t) from nI_ge (by omega) (by omega)) (AC.neg (by decide) (AC.bd (w_team1 (x_team_bad (S := (X, Y, E, T)) ok htm (by decide))) ?_))
    dsimp only
    refine AC.pos (lg_refl _) (AC.bd (w_trail1 (x_trail_neg (S := (X, Y, E, T)) ok htm (by decide))) ?_)
    dsimp only
    refine AC.pos (lg_refl _) (AC.bd (w_go3 (x_go_place ok htm (noP hn))) ?_)
    dsimp only
    refine AC.pos (lg_refl _) (AC.bd (w_shortest1 (x_shortest_bad (S := (X, Y, E, T)) ok htm (by decide))) ?_)
    dsimp only
    refine AC.pos (lg_refl _) (AC.bd (w_quickest1 (x_quickest_bad (S := (X, Y, E, T)) ok htm (by decide))) ?_)
    dsimp only
    refine AC.pos (lg_refl _) (AC.bd hsf ?_)
    dsimp only
    by_cases hz : safe n (effH hm E) (setOf tm.1) = 0
    · refine AC.neg (by rw [hz]; decide) (AC.bd (w_hint2 (x_hint_none ok htm hz)) ?_)
      dsimp only
      exact AC.pos (lg_refl _) next
    · exact AC.pos ((lcmp_gt (b := 0) (by omega) (by decide)).mpr (by omega)) next
theorem L_errors0 (ok : okA tx n hm (X, Y, E, T) L K) : AC (tx, n, hm, (X, Y, E, T), L, K, rd) f_L_errors 1 (tx, n, hm, (X, Y, E, T), L, K, rd) := by
  obtain ⟨o1, o2, h2, hn, o5, o6, o7, o8⟩ := id ok
  have hT4 : T.length ≤ 4 := o6.2.1
  obtain ⟨v, hv⟩ := L_now (n := n) (hm := hm) (S := (X, Y, E, T)) o6.2.1 hn
  have hv := hv tx L K rd ok
  have hm9 := isT_m (S := (X, Y, E, T)) o6.2.1
  have a0 := w_about (x_about0 (rd := rd) ok)
  have a1 := w_about (x_about1 (rd := rd) ok)
  have e0 : (nI n).toInt64.toInt32 = nI n := by rw [nI_l (by omega), lN_i]
  have e1 : (nI T.length).toInt64.toInt32 = nI T.length := by rw [nI_l (by omega), lN_i]
  have h1024 : 2 ^ n ≤ 1024 := Nat.pow_le_pow_right (n := 2) (j := 10) (by decide) hn
  have next : AC (tx, n, hm, (X, Y, E, T), L, K, rd) (fs_L_errors_252 v (nI n) (nI T.length)) 1 (tx, n, hm, (X, Y, E, T), L, K, rd) := by
    unfold fs_L_errors_252 fs_L_errors_257
    exact err_262 ok hv T.length 0 gFuel5 (by omega) (by unfold gFuel5; omega)
  unfold f_L_errors
  refine AC.bd hv ?_
  dsimp only
  refine AC.le rfl (AC.bd a0 ?_)
  dsimp only
  refine AC.le e0 (AC.bd a1 ?_)
  dsimp only
  refine AC.le e1 (AC.bd (w_about1 (x_about_bad ok (by decide))) ?_)
  dsimp only
  refine AC.pos (lg_refl _) (AC.bd (w_about1 (x_about_bad ok (by decide))) ?_)
  dsimp only
  refine AC.pos (lg_refl _) (AC.bd (w_place3 (x_place_no ok _ (noP hn))) ?_)
  dsimp only
  refine AC.pos (lg_refl _) (AC.bd (w_place1 (x_place_bad ok (p := 0) (by omega) (by decide))) ?_)
  dsimp only
  refine AC.pos (lg_refl _) (AC.bd (w_holds3 (x_holds_no ok _ (noP hn))) ?_)
  dsimp only
  refine AC.pos (lg_refl _) (AC.bd (w_holds1 (x_holds_bad ok (p := 0) (by omega) (decide_eq_false (by rw [show (-1 : Int32).toInt = -1 by decide]; omega)))) ?_)
  dsimp only
  refine AC.pos (lg_refl _) ?_
  rw [show (1 : Int32) <<< (nI n &&& 31) = nI (2 ^ n) from nI_shl1 (by omega)]
  refine AC.bd (w_holds1 (x_holds_bad ok (p := 0) (by omega) (decide_eq_false (by rw [nI_toInt (by omega)]; have := Nat.two_pow_pos n; omega)))) ?_
  dsimp only
  refine AC.pos (lg_refl _) (AC.bd (w_team3 (x_team_no ok _ hm9)) ?_)
  dsimp only
  refine AC.pos (lg_refl _) (AC.bd (w_trail3 (x_trail_no ok _ hm9)) ?_)
  dsimp only
  refine AC.pos (lg_refl _) (AC.bd (w_open3 (x_open_no ok isT_neg)) ?_)
  dsimp only
  refine AC.pos (lg_refl _) (AC.bd (w_go3 (x_go_no ok _ hm9)) ?_)
  dsimp only
  refine AC.pos (lg_refl _) (AC.bd (w_hint3 (x_hint_no ok hm9)) ?_)
  dsimp only
  refine AC.pos (lg_refl _) (AC.bd (w_giveUp3 (x_giveUp_no ok isT_neg)) ?_)
  dsimp only
  refine AC.pos (lg_refl _) (AC.bd (w_move3 (x_move_no ok _ _ (noP hn))) ?_)
  dsimp only
  refine AC.pos (lg_refl _) (AC.bd (w_move1 (x_move_bad ok (p := 0) (by omega) (Or.inr (by decide)))) ?_)
  dsimp only
  refine AC.pos (lg_refl _) (AC.bd (w_ease3 (x_ease_no ok (noP hn))) ?_)
  dsimp only
  refine AC.pos (lg_refl _) ?_
  by_cases h4 : T.length < 4
  · exact AC.pos (show nI T.length < (4 : Int32) from nI_lt (b := 4) h4 (by decide)) next
  · refine AC.neg (show ¬ (nI T.length < (4 : Int32)) from nI_nlt (b := 4) (by omega) (by omega)) (AC.bd (w_addTeam2 (x_addTeam_full ok (by omega))) ?_)
    dsimp only
    exact AC.pos (lg_refl _) next
end ERR
theorem L_errors {tx : List Nat} {n : Nat} {hm : Nat → Nat} {S : aS} {L : List aS} {K : Nat → Option aS} {rd : aR} (ok : okA tx n hm S L K) : AC (tx, n, hm, S, L, K, rd) f_L_errors 1 (tx, n, hm, S, L, K, rd) := by
  obtain ⟨X, Y, E, T⟩ := S
  exact L_errors0 ok
