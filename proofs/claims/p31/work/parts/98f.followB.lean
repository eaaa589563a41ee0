/-! PURE: what follows a visit. -/
section FB
variable {tx : List Nat} {n : Nat} {hm : Nat → Nat} {X Y : Nat → Nat} {E : Nat} {T : List aT} {S S' : aS} {L : List aS} {K : Nat → Option aS} {rd : aR} {t : Nat} {tm : aT} {w : Int64}
noncomputable def q1 (n : Nat) (H : Nat → Nat → Bool) (S : aS) (s p : Nat) : Nat := if p = n - 1 then 0 else (qOf n H S (s ||| 2 ^ p) (some p)).getD 0
theorem qOf_T (n : Nat) (H : Nat → Nat → Bool) (X Y : Nat → Nat) (E : Nat) (T T' : List aT) : qOf n H (X, Y, E, T) = qOf n H (X, Y, E, T') := rfl
noncomputable def vO (n : Nat) (H : Nat → Nat → Bool) (s p : Nat) : Nat := if canV n H s p = true then (wOf n H (s ||| 2 ^ p)).2.1 else 0
theorem f_221 (ok0 : okA tx n hm (X, Y, E, T) L K) (hK : K 1 = some (X, Y, E, T)) (hw : ∀ L, okA tx n hm (X, Y, E, T) L K → AC (tx, n, hm, (X, Y, E, T), L, K, rd) f_L_now w (tx, n, hm, (X, Y, E, T), L, K, rd)) (htm : T[t]? = some tm) {x : Nat} (hx : x < 2 ^ 31) {m0 : Nat} (hm0 : tm.2.1 = nI m0) (hm1 : m0 ≤ 190) {l15 l17 l19 l21 : Int64}
    (hB : ∀ p, p < n → (safe n (effH hm E) (setOf tm.1)).testBit p = false → ¬ lN p = l19 ∧ ¬ lN p = l21)
    (hA : ∀ p, p < n → (safe n (effH hm E) (setOf tm.1)).testBit p = true → ∃ fw mq j1 j2, l15 = lN fw ∧ l17 = lN mq ∧ l19 = lN j1 ∧ l21 = lN j2 ∧ fw ≤ 10 ∧ mq ≤ 190 ∧ j1 < n ∧ j2 < n ∧ fw ≤ (wOf n (effH hm E) (setOf tm.1 ||| 2 ^ p)).2.2.1 + 1 ∧ (p = j1 → (wOf n (effH hm E) (setOf tm.1 ||| 2 ^ p)).2.2.1 + 1 = fw) ∧ (p < j1 → (wOf n (effH hm E) (setOf tm.1 ||| 2 ^ p)).2.2.1 + 1 ≠ fw) ∧ mq ≤ q1 n (effH hm E) (X, Y, E, T) (setOf tm.1) p + mns (X, Y, E, T) tm.1.getLast? p ∧ (p = j2 → q1 n (effH hm E) (X, Y, E, T) (setOf tm.1) p + mns (X, Y, E, T) tm.1.getLast? p = mq) ∧ (p < j2 → q1 n (effH hm E) (X, Y, E, T) (setOf tm.1) p + mns (X, Y, E, T) tm.1.getLast? p ≠ mq))
    (d : Nat) : ∀ p fu L, p + d = n → d < fu → okA tx n hm (X, Y, E, T) L K → AC (tx, n, hm, (X, Y, E, T), L, K, rd) (fb_L_follows_221 fu (nI x) w (nI n) (nI T.length) 1 (nI t) (lN (opn n (effH hm E) (setOf tm.1))) (lN (safe n (effH hm E) (setOf tm.1))) (lN (wOf n (effH hm E) (setOf tm.1)).2.1) l15 l17 l19 l21 (lN m0) (lN (sumN (vO n (effH hm E) (setOf tm.1)) p)) (nI p)) 1 (tx, n, hm, (X, Y, E, T), [], K, rd) := by
  obtain ⟨o1, o2, h2, hn, o5, o6, o7, o8⟩ := id ok0
  obtain ⟨ht, htl, ht4⟩ := okS_tm o6 htm
  have hs : setOf tm.1 < 2 ^ n := setOf_lt ht.2
  have hsl : safe n (effH hm E) (setOf tm.1) < 1024 := lt1024 (msk_lt _ _) hn
  have hol : opn n (effH hm E) (setOf tm.1) < 1024 := lt1024 opn_lt hn
  have okx : okX (X, Y, E, T) := fun p hp => o6.2.2.1 p hp
  induction d with
  | zero =>
    intro p fu L hp hf ok
    obtain ⟨fu, rfl⟩ : ∃ f', fu = f' + 1 := ⟨fu - 1, by omega⟩
    obtain rfl : p = n := by omega
    unfold fb_L_follows_221 fs_L_follows_221
    refine AC.pos (nI_le (Nat.le_refl _) (by omega)) ?_
    unfold fs_L_follows_492
    refine AC.neg (by decide) (AC.bd (hw L ok) ?_)
    dsimp only
    refine AC.pos (lg_refl _) ?_
    unfold fs_L_follows_521
    by_cases hz : opn p (effH hm E) (setOf tm.1) = 0
    · exact AC.pos (by rw [hz]; decide) (f_526 ok hK hw htm hx)
    · refine AC.neg (fun e => hz ((lcmp_eq (b := 0) (by omega) (by decide)).mp e)) (AC.pos ?_ (f_526 ok hK hw htm hx))
      have hc : (setOf tm.1).testBit (p - 1) = false := by
        cases e : (setOf tm.1).testBit (p - 1) with
        | false => rfl
        | true =>
          refine absurd (Nat.eq_of_testBit_eq (fun i => ?_)) hz
          rw [opn_bit, Nat.zero_testBit]
          unfold canV
          rw [e]
          simp
      rw [wOf_ord hn hs hc]
      exact lg_refl _
  | succ d ih =>
    intro p fu L hp hf ok
    obtain ⟨fu, rfl⟩ : ∃ f', fu = f' + 1 := ⟨fu - 1, by omega⟩
    have hpn : p < n := by omega
    have hO := L_has (A := (tx, n, hm, (X, Y, E, T), L, K, rd)) (x := opn n (effH hm E) (setOf tm.1)) (p := p) (by omega) (by omega)
    rw [opn_bit, decide_eq_true hpn, Bool.true_and] at hO
    have esum : ∀ k, vO n (effH hm E) (setOf tm.1) p = k → sumN (vO n (effH hm E) (setOf tm.1)) (p + 1) = sumN (vO n (effH hm E) (setOf tm.1)) p + k := fun k hk => by
      rw [← hk]
      rfl
    unfold fb_L_follows_221 fs_L_follows_221
    refine AC.neg (nI_ge (by omega) (by omega)) (AC.neg (by decide) (AC.bd hO ?_))
    dsimp only
    cases hv : canV n (effH hm E) (setOf tm.1) p with
    | false =>
      refine AC.pos rfl (AC.le (nI_1 p) ?_)
      have h := ih (p + 1) fu L (by omega) (by omega) ok
      rw [esum 0 (by unfold vO; rw [hv]; rfl), Nat.add_zero] at h
      exact h
    | true =>
      obtain ⟨c1, c2, c3⟩ := canV_s hv
      have hsq := bit_split h2 hs c2
      have hl := or_lt hs hpn
      have hmn := mns_le (S := (X, Y, E, T)) okx (fr := tm.1.getLast?) (p := p) (by omega) (fun q hq => Nat.lt_of_lt_of_le (ht.2 q (List.mem_of_getLast? hq)) hn)
      have hmg := mns_ge (X, Y, E, T) tm.1.getLast? p
      have ok1 := okA_S ok (ok_go o6 htm hpn hv (tm.2.1 + nI (mns (X, Y, E, T) tm.1.getLast? p)) tm.2.2)
      have htm1 : (T.set t (tm.1 ++ [p], tm.2.1 + nI (mns (X, Y, E, T) tm.1.getLast? p), tm.2.2))[t]? = some (tm.1 ++ [p], tm.2.1 + nI (mns (X, Y, E, T) tm.1.getLast? p), tm.2.2) := List.getElem?_set_self htl
      have eg := w_go (x_go (rd := rd) ok htm hpn hv)
      have eo := w_orders (x_orders (rd := rd) ok1 htm1)
      have e2 := w_team (x_team2 (rd := rd) ok1 htm1)
      have e5 := w_team (x_team5 (rd := rd) ok1 htm1)
      have es := w_shortest (x_shortest0 (rd := rd) ok1 htm1)
      have eq := w_quickest (x_quickest0 (rd := rd) ok1 htm1)
      have elast : lastP (tm.1 ++ [p]) = nI p := by
        unfold lastP
        rw [List.getLast?_concat]
      have hsm := wOf_small (effH hm E) h2 hn hl
      have em : (tm.2.1 + nI (mns (X, Y, E, T) tm.1.getLast? p)).toInt64 = lN (m0 + mns (X, Y, E, T) tm.1.getLast? p) := by
        rw [hm0, nI_add, nI_l (by omega)]
      rw [em] at eg e2
      rw [show setOf (tm.1 ++ [p], tm.2.1 + nI (mns (X, Y, E, T) tm.1.getLast? p), tm.2.2).1 = setOf tm.1 ||| 2 ^ p from setOf_app _ _] at eo es
      rw [elast] at e5
      rw [nI_l (show (wOf n (effH hm E) (setOf tm.1 ||| 2 ^ p)).2.1 < 2 ^ 31 by omega)] at eo
      have back : AC (tx, n, hm, (X, Y, E, T.set t (tm.1 ++ [p], tm.2.1 + nI (mns (X, Y, E, T) tm.1.getLast? p), tm.2.2)), ((X, Y, E, T) :: L).take 14, K, rd) (fs_L_follows_470 (fb_L_follows_221 fu) (nI x) w (nI n) (nI T.length) (nI t) (lN (opn n (effH hm E) (setOf tm.1))) (lN (safe n (effH hm E) (setOf tm.1))) (lN (wOf n (effH hm E) (setOf tm.1)).2.1) l15 l17 l19 l21 (lN m0) (lN (sumN (vO n (effH hm E) (setOf tm.1)) (p + 1))) (nI p)) 1 (tx, n, hm, (X, Y, E, T), [], K, rd) := by
        unfold fs_L_follows_470
        refine AC.bd (L_back ok1 (tk_len _ (by decide))) ?_
        dsimp only
        refine AC.neg (bk_neg (tk_len _ (by decide))) ?_
        unfold fs_L_follows_484
        exact AC.le (nI_1 p) (ih (p + 1) fu _ (by omega) (by omega) (okA_undo ok1))
      have hS := L_has (A := (tx, n, hm, (X, Y, E, T.set t (tm.1 ++ [p], tm.2.1 + nI (mns (X, Y, E, T) tm.1.getLast? p), tm.2.2)), ((X, Y, E, T) :: L).take 14, K, rd)) (x := safe n (effH hm E) (setOf tm.1)) (p := p) (by omega) (by omega)
      have hsf := safe_b hpn hv
      have hord := k_ord (H := effH hm E) h2 hn hl
      have hBp := hB p hpn
      have hAp := hA p hpn
      have ep : (nI p).toInt64 = lN p := nI_l (by omega)
      refine AC.neg (by decide) (AC.bd eg ?_)
      dsimp only
      refine AC.lt (AC.le (y := lN (mns (X, Y, E, T) tm.1.getLast? p)) (by rw [lN_sub (by omega), Nat.add_sub_cancel_left]) (AC.bd eo ?_))
      dsimp only
      refine AC.le (y := lN (sumN (vO n (effH hm E) (setOf tm.1)) (p + 1))) (by rw [lN_add, esum _ (by unfold vO; rw [if_pos hv])]) ?_
      refine AC.neg (fun e => by have := (lcmp_lt (b := 1) (by omega) (by decide)).mp e; omega) (AC.bd e2 ?_)
      dsimp only
      refine AC.pos (lg_refl _) (AC.bd e5 ?_)
      dsimp only
      refine AC.pos (lg_refl _) (AC.bd eo ?_)
      dsimp only
      generalize sumN (vO n (effH hm E) (setOf tm.1)) (p + 1) = sm at *
      cases hb : (safe n (effH hm E) (setOf tm.1)).testBit p with
      | false =>
        obtain ⟨n1, n2⟩ := hBp hb
        have hz : (wOf n (effH hm E) (setOf tm.1 ||| 2 ^ p)).2.1 = 0 := by
          rw [← hsf, hb] at hord
          cases e : (wOf n (effH hm E) (setOf tm.1 ||| 2 ^ p)).2.1 with
          | zero => rfl
          | succ k => have := hord.mp (by rw [e]; omega); cases this
        rw [hb] at hS
        refine AC.pos (by rw [hz]; decide) ?_
        unfold fs_L_follows_321
        refine AC.bd hS ?_
        dsimp only
        rw [ep]
        refine AC.pos rfl (AC.neg (fun e => n1 ((lg_cmp_eq _ _).mp e)) ?_)
        unfold fs_L_follows_355
        rw [ep]
        refine AC.neg (fun e => n2 ((lg_cmp_eq _ _).mp e)) ?_
        unfold fs_L_follows_380
        refine AC.bd hS ?_
        dsimp only
        exact AC.pos rfl back
      | true =>
        obtain ⟨fw, mq, j1, j2, rfl, rfl, rfl, rfl, b1, b2', b3, b4, b5, b6, b7, b8, b9, b10⟩ := hAp hb
        have hfin : fin n (effH hm E) none (setOf tm.1 ||| 2 ^ p) = true := by rw [← hsf]; exact hb
        have hop := hord.mpr hfin
        rw [hb] at hS
        rw [if_pos (show fin n (effH hm (X, Y, E, T.set t (tm.1 ++ [p], tm.2.1 + nI (mns (X, Y, E, T) tm.1.getLast? p), tm.2.2)).2.2.1) none (setOf tm.1 ||| 2 ^ p) = true from hfin), nI_l (show (wOf n (effH hm E) (setOf tm.1 ||| 2 ^ p)).2.2.1 < 2 ^ 31 by omega)] at es
        have hq : qkT n hm (X, Y, E, T.set t (tm.1 ++ [p], tm.2.1 + nI (mns (X, Y, E, T) tm.1.getLast? p), tm.2.2)) (tm.1 ++ [p], tm.2.1 + nI (mns (X, Y, E, T) tm.1.getLast? p), tm.2.2) = nI (q1 n (effH hm E) (X, Y, E, T) (setOf tm.1) p) ∧ q1 n (effH hm E) (X, Y, E, T) (setOf tm.1) p ≤ 190 := by
          unfold qkT q1
          rw [show setOf (tm.1 ++ [p], tm.2.1 + nI (mns (X, Y, E, T) tm.1.getLast? p), tm.2.2).1 = setOf tm.1 ||| 2 ^ p from setOf_app _ _, show (tm.1 ++ [p], tm.2.1 + nI (mns (X, Y, E, T) tm.1.getLast? p), tm.2.2).1.getLast? = some p from List.getLast?_concat, qOf_T n _ X Y E _ T]
          by_cases e9 : p = n - 1
          · rw [if_pos e9, if_pos (by rw [e9, Nat.testBit_or, Nat.testBit_two_pow_self]; simp)]
            exact ⟨rfl, by omega⟩
          · have hlq := or_lt (k := n - 1) hsq (p := p) (by omega)
            rw [if_neg e9, if_neg (by rw [or_chest c2 (by omega)]; decide)]
            have hq0 := qOf_none (H := effH hm E) (S := (X, Y, E, T)) h2 hn (2 ^ (n - 1)) _ hlq (by omega) (some p)
            have hq9 := qOf_190 (H := effH hm E) h2 hn okx hlq (fr := some p) (fun q e => by cases e; omega)
            show oI (qOf n (effH hm E) (X, Y, E, T) _ _) = _ ∧ _
            cases e8 : qOf n (effH hm E) (X, Y, E, T) (setOf tm.1 ||| 2 ^ p) (some p) with
            | none =>
              have := hq0.mp e8
              rw [hfin] at this
              cases this
            | some y => exact ⟨rfl, hq9 y e8⟩
        obtain ⟨hq, hq190⟩ := hq
        rw [hq, nI_l (by omega)] at eq
        generalize (wOf n (effH hm E) (setOf tm.1 ||| 2 ^ p)).2.2.1 = f1 at *
        generalize q1 n (effH hm E) (X, Y, E, T) (setOf tm.1) p = qq at *
        generalize mns (X, Y, E, T) tm.1.getLast? p = mm at *
        have t1 : (lN fw - (1 : Int64)).toInt = (fw : Int) - 1 := i64_sub (b := 1) (by omega) (by decide)
        have t2 : (lN mq - lN mm).toInt = (mq : Int) - mm := i64_sub (by omega) (by omega)
        have h445 : AC (tx, n, hm, (X, Y, E, T.set t (tm.1 ++ [p], tm.2.1 + nI mm, tm.2.2)), ((X, Y, E, T) :: L).take 14, K, rd) (fs_L_follows_445 (fb_L_follows_221 fu) (nI x) w (nI n) (nI T.length) (nI t) (lN (opn n (effH hm E) (setOf tm.1))) (lN (safe n (effH hm E) (setOf tm.1))) (lN (wOf n (effH hm E) (setOf tm.1)).2.1) (lN fw) (lN mq) (lN j1) (lN j2) (lN m0) (lN sm) (nI p) (lN mm)) 1 (tx, n, hm, (X, Y, E, T), [], K, rd) := by
          unfold fs_L_follows_445
          rw [ep]
          by_cases q : j2 ≤ p
          · exact AC.pos ((lcmp_ge (by omega) (by omega)).mpr q) back
          · refine AC.neg (fun e => q ((lcmp_ge (by omega) (by omega)).mp e)) (AC.bd eq ?_)
            dsimp only
            refine AC.neg (fun e => ?_) back
            rw [lg_cmp_le, Int64.le_iff_toInt_le, t2, pf_lI (by omega)] at e
            have := b10 (by omega)
            omega
        have h380 : AC (tx, n, hm, (X, Y, E, T.set t (tm.1 ++ [p], tm.2.1 + nI mm, tm.2.2)), ((X, Y, E, T) :: L).take 14, K, rd) (fs_L_follows_380 (fb_L_follows_221 fu) (nI x) w (nI n) (nI T.length) (nI t) (lN (opn n (effH hm E) (setOf tm.1))) (lN (safe n (effH hm E) (setOf tm.1))) (lN (wOf n (effH hm E) (setOf tm.1)).2.1) (lN fw) (lN mq) (lN j1) (lN j2) (lN m0) (lN sm) (nI p) (lN mm)) 1 (tx, n, hm, (X, Y, E, T), [], K, rd) := by
          unfold fs_L_follows_380
          rw [ep]
          refine AC.bd hS ?_
          dsimp only
          refine AC.neg (by decide) (AC.bd es ?_)
          dsimp only
          refine AC.neg (fun e => ?_) (AC.bd eq ?_)
          · rw [lg_cmp_lt, Int64.lt_iff_toInt_lt, t1, pf_lI (by omega)] at e
            omega
          dsimp only
          refine AC.neg (fun e => ?_) ?_
          · rw [lg_cmp_lt, Int64.lt_iff_toInt_lt, t2, pf_lI (by omega)] at e
            omega
          by_cases q : j1 ≤ p
          · exact AC.pos ((lcmp_ge (by omega) (by omega)).mpr q) h445
          · refine AC.neg (fun e => q ((lcmp_ge (by omega) (by omega)).mp e)) (AC.bd es ?_)
            dsimp only
            refine AC.neg (fun e => ?_) h445
            rw [lg_cmp_le, Int64.le_iff_toInt_le, t1, pf_lI (by omega)] at e
            have := b7 (by omega)
            omega
        have h355 : AC (tx, n, hm, (X, Y, E, T.set t (tm.1 ++ [p], tm.2.1 + nI mm, tm.2.2)), ((X, Y, E, T) :: L).take 14, K, rd) (fs_L_follows_355 (fb_L_follows_221 fu) (nI x) w (nI n) (nI T.length) (nI t) (lN (opn n (effH hm E) (setOf tm.1))) (lN (safe n (effH hm E) (setOf tm.1))) (lN (wOf n (effH hm E) (setOf tm.1)).2.1) (lN fw) (lN mq) (lN j1) (lN j2) (lN m0) (lN sm) (nI p) (lN mm)) 1 (tx, n, hm, (X, Y, E, T), [], K, rd) := by
          unfold fs_L_follows_355
          rw [ep]
          by_cases q : p = j2
          · refine AC.pos ((lcmp_eq (by omega) (by omega)).mpr q) (AC.bd eq ?_)
            dsimp only
            refine AC.pos ?_ h380
            rw [lg_cmp_eq, ← Int64.toInt_inj, t2, pf_lI (by omega)]
            have := b9 q
            omega
          · exact AC.neg (fun e => q ((lcmp_eq (by omega) (by omega)).mp e)) h380
        refine AC.neg (fun e => by have := (lcmp_le (b := 0) (by omega) (by decide)).mp e; omega) ?_
        unfold fs_L_follows_321
        rw [ep]
        refine AC.bd hS ?_
        dsimp only
        refine AC.pos rfl ?_
        by_cases q : p = j1
        · refine AC.pos ((lcmp_eq (by omega) (by omega)).mpr q) (AC.bd es ?_)
          dsimp only
          refine AC.pos ?_ h355
          rw [lg_cmp_eq, ← Int64.toInt_inj, t1, pf_lI (by omega)]
          have := b6 q
          omega
        · exact AC.neg (fun e => q ((lcmp_eq (by omega) (by omega)).mp e)) h355
end FB
