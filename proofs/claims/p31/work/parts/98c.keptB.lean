/-! PURE: what is kept. -/
section KB
variable {tx : List Nat} {n : Nat} {hm : Nat → Nat} {S : aS} {L : List aS} {K : Nat → Option aS} {rd : aR} {t : Nat} {tm : aT} {A' : aA}
variable {F61 : Int32 → Int32 → Int32 → Int64 → Int64 → Int64 → Int32 → Int32 → gG → Option (Int32 × gG)} {l2 : Int32} {a b hh c v h : Nat}
theorem k_448 (ok : okA tx n hm S L K) (htm : S.2.2.2[t]? = some tm) (h3 : tm.2.2 = nI h) (ha : a < 2 ^ 30) (hb : b < 2 ^ 30) (hv : v < 2 ^ 30) (hh3 : h < 2 ^ 30) (hF : AC (tx, n, hm, S, L, K, rd) (kGo F61 n l2 a b hh c t (setOf tm.1) v h ((setOf tm.1).testBit (n - 1))) 1 A') : AC (tx, n, hm, S, L, K, rd) (fs_L_kept_448 F61 (nI n) l2 1 (lN a) (lN b) (lN hh) (nI c) (nI t) (lN (setOf tm.1)) (b2 ((setOf tm.1).testBit (n - 1))) (lN v) (lN (safe n (effH hm S.2.2.1) (setOf tm.1)))) 1 A' := by
  cases hc : (setOf tm.1).testBit (n - 1) with
  | true => rw [hc] at hF; exact k_448c ok htm h3 ha hb hv hh3 hc _ hF
  | false =>
    rw [hc] at hF
    by_cases hz : safe n (effH hm S.2.2.1) (setOf tm.1) = 0
    · exact k_448n ok htm h3 ha hb hv hh3 hc hz hF
    · exact k_448y ok htm h3 ha hb hv hh3 hc hz hF
theorem k_382 (ok : okA tx n hm S L K) {s : Nat} (hs : s < 2 ^ n) {l4 l6 l8 l16 l20 : Int64} {l10 : Int32} (hK : AC (tx, n, hm, S, L, K, rd) (fs_L_kept_448 F61 (nI n) l2 1 l4 l6 l8 l10 (nI t) (lN s) (b2 (s.testBit (n - 1))) l16 l20) 1 A') (d : Nat) : ∀ p fu, p + d = n → d < fu → AC (tx, n, hm, S, L, K, rd) (fb_L_kept_382 F61 fu (nI n) l2 1 l4 l6 l8 l10 (nI t) (lN s) (b2 (s.testBit (n - 1))) l16 (lN (opn n (effH hm S.2.2.1) s)) l20 (nI p)) 1 A' := by
  obtain ⟨o1, o2, h2, hn, o5, o6, o7, o8⟩ := id ok
  have hs2 := lt1024 hs hn
  have hol : opn n (effH hm S.2.2.1) s < 1024 := lt1024 opn_lt hn
  induction d with
  | zero =>
    intro p fu hp hf
    obtain ⟨fu, rfl⟩ : ∃ f', fu = f' + 1 := ⟨fu - 1, by omega⟩
    unfold fb_L_kept_382 fs_L_kept_382
    exact AC.pos (nI_le (by omega) (by omega)) hK
  | succ d ih =>
    intro p fu hp hf
    obtain ⟨fu, rfl⟩ : ∃ f', fu = f' + 1 := ⟨fu - 1, by omega⟩
    have hpn : p < n := by omega
    have hO := L_has (A := (tx, n, hm, S, L, K, rd)) (x := opn n (effH hm S.2.2.1) s) (p := p) (by omega) (by omega)
    have hP := L_has (A := (tx, n, hm, S, L, K, rd)) (x := s) (p := p) (by omega) (by omega)
    have hH := w_holds (x_holds (rd := rd) ok hpn hs)
    rw [opn_bit, decide_eq_true hpn, Bool.true_and] at hO
    have nx : ∀ u : Int32, u = b2 (canV n (effH hm S.2.2.1) s p) → AC (tx, n, hm, S, L, K, rd) (fs_L_kept_433 F61 (fb_L_kept_382 F61 fu) (nI n) l2 l4 l6 l8 l10 (nI t) (lN s) (b2 (s.testBit (n - 1))) l16 (lN (opn n (effH hm S.2.2.1) s)) l20 (nI p) (b2 (canV n (effH hm S.2.2.1) s p)) u) 1 A' := fun u hu => by
      unfold fs_L_kept_433
      refine AC.pos hu.symm ?_
      unfold fs_L_kept_441
      exact AC.le (nI_1 p) (ih (p + 1) fu (by omega) (by omega))
    unfold fb_L_kept_382 fs_L_kept_382
    refine AC.neg (nI_ge (by omega) (by omega)) (AC.neg (by decide) (AC.bd hO ?_))
    dsimp only
    cases hc : s.testBit (n - 1) with
    | true =>
      rw [hc] at nx
      refine AC.neg (by decide) ?_
      unfold fs_L_kept_432
      exact nx 0 (by unfold canV; rw [hc]; simp [b2])
    | false =>
      rw [hc] at nx
      refine AC.pos rfl (AC.bd hP ?_)
      dsimp only
      cases hb : s.testBit p with
      | true =>
        refine AC.neg (by decide) ?_
        unfold fs_L_kept_432
        exact nx 0 (by unfold canV; rw [hb]; simp [b2])
      | false =>
        refine AC.pos rfl ?_
        rw [lN_i]
        refine AC.bd hH ?_
        dsimp only
        cases hh : effH hm S.2.2.1 p s with
        | true => exact AC.pos (by decide) (nx 1 (by unfold canV; rw [hb, hc, hh]; rfl))
        | false =>
          refine AC.neg (by decide) ?_
          unfold fs_L_kept_432
          exact nx 0 (by unfold canV; rw [hb, hc, hh]; rfl)
theorem cl_not {a s : Nat} (ha : a < 1024) (hs : s < 1024) (h : ∀ i, a.testBit i = true → s.testBit i = true) : lN a &&& (lN s ^^^ (-1 : Int64)) = lN 0 := by
  rw [show (-1 : Int64) = lN (2 ^ 64 - 1) from by decide, lN_xor, wb_and (by omega) (Nat.xor_lt_two_pow (by omega) (by decide))]
  congr 1
  refine Nat.eq_of_testBit_eq (fun i => ?_)
  rw [Nat.testBit_and, Nat.testBit_xor, Nat.zero_testBit, Nat.testBit_two_pow_sub_one]
  cases e : a.testBit i with
  | false => rfl
  | true =>
    have hi : i < 10 := by
      by_cases q : i < 10
      · exact q
      · rw [Nat.testBit_lt_two_pow (Nat.lt_of_lt_of_le ha (Nat.pow_le_pow_right (n := 2) (i := 10) (by decide) (by omega)))] at e
        cases e
    rw [h i e]
    simp
    omega
theorem opn_and {H : Nat → Nat → Bool} (s : Nat) : opn n H s &&& s = 0 := by
  refine Nat.eq_of_testBit_eq (fun i => ?_)
  rw [Nat.testBit_and, opn_bit, Nat.zero_testBit]
  unfold canV
  cases s.testBit i <;> simp
theorem safe_opn {H : Nat → Nat → Bool} {s : Nat} (i : Nat) (h : (safe n H s).testBit i = true) : (opn n H s).testBit i = true := by
  obtain ⟨a1, a2, -⟩ := safe_bit h
  rw [opn_bit, a2, decide_eq_true a1]
  rfl
theorem k_233 (ok : okA tx n hm S L K) (htm : S.2.2.2[t]? = some tm) {m : Nat} (h2m : tm.2.1 = nI m) (hm1 : tm.1.length ≤ m) (hm2 : m ≤ 19 * tm.1.length) (hsc : scr n tm = nI v) (h3 : tm.2.2 = nI h) (ha : a < 2 ^ 30) (hb : b < 2 ^ 30) (hv : v < 2 ^ 30) (hh3 : h < 2 ^ 30) (hF : AC (tx, n, hm, S, L, K, rd) (kGo F61 n l2 a b hh c t (setOf tm.1) v h ((setOf tm.1).testBit (n - 1))) 1 A') : AC (tx, n, hm, S, L, K, rd) (fs_L_kept_233 F61 (nI n) l2 1 (lN a) (lN b) (lN hh) (nI c) (nI t) (lN (setOf tm.1)) (nI tm.1.length) (b2 ((setOf tm.1).testBit (n - 1))) (lN v)) 1 A' := by
  obtain ⟨o1, o2, h2, hn, o5, o6, o7, o8⟩ := id ok
  have h1 := ok_get o6 htm
  have hs : setOf tm.1 < 2 ^ n := setOf_lt h1.1.2
  have hs2 := lt1024 hs hn
  have hln := okT_len h1.1
  have hsl : safe n (effH hm S.2.2.1) (setOf tm.1) < 1024 := lt1024 (msk_lt _ _) hn
  have hol : opn n (effH hm S.2.2.1) (setOf tm.1) < 1024 := lt1024 opn_lt hn
  have eo := w_open (x_open (rd := rd) ok htm)
  have es := w_safe (x_safe (rd := rd) ok htm)
  have e0 := w_team (x_team0 (rd := rd) ok htm)
  have e1 := w_team (x_team1 (rd := rd) ok htm)
  have e2 := w_team (x_team2 (rd := rd) ok htm)
  have e4 := w_team (x_team4 (rd := rd) ok htm)
  have e5 := w_team (x_team5 (rd := rd) ok htm)
  rw [nI_l (by omega)] at eo es e0
  rw [h2m, nI_l (by omega)] at e2
  rw [hsc, nI_l (by omega)] at e4
  have k8 := k_382 (rd := rd) (l16 := lN v) ok hs (k_448 (rd := rd) ok htm h3 ha hb hv hh3 hF) n 0 gFuelL (by omega) (by unfold gFuelL; omega)
  have nx : ∀ s0 s1 : Int64, s0 = s1 → AC (tx, n, hm, S, L, K, rd) (fs_L_kept_310 F61 (nI n) l2 (lN a) (lN b) (lN hh) (nI c) (nI t) (lN (setOf tm.1)) (nI tm.1.length) (b2 ((setOf tm.1).testBit (n - 1))) (lN v) (lN (opn n (effH hm S.2.2.1) (setOf tm.1))) (lN (safe n (effH hm S.2.2.1) (setOf tm.1))) s0 s1) 1 A' := fun s0 s1 e => by
    subst e
    have hi := L_inN (A := (tx, n, hm, S, L, K, rd)) (a := m) (l := tm.1.length) (h := 19 * tm.1.length) (by omega) (by omega) (by omega)
    rw [decide_eq_true ⟨hm1, hm2⟩] at hi
    unfold fs_L_kept_310
    refine AC.pos (lg_refl _) (AC.bd e4 ?_)
    dsimp only
    refine AC.pos (lg_refl _) (AC.bd e2 ?_)
    dsimp only
    rw [show (19 : Int32) * nI tm.1.length = nI (19 * tm.1.length) from pk_mul 19 _, nI_l (by omega), nI_l (by omega)]
    refine AC.bd hi ?_
    dsimp only
    refine AC.neg (by decide) (AC.pos (by rw [cl_not hsl hol safe_opn]; decide) (AC.pos (by rw [wb_and (by omega) (by omega), opn_and]; decide) ?_))
    unfold fs_L_kept_378
    exact k8
  unfold fs_L_kept_233
  refine AC.bd eo ?_
  dsimp only
  refine AC.lt (AC.bd es ?_)
  dsimp only
  refine AC.lt (AC.neg (by decide) (AC.bd e0 ?_))
  dsimp only
  refine AC.pos (lg_refl _) (AC.bd e1 ?_)
  dsimp only
  refine AC.pos (lg_refl _) (AC.bd e5 ?_)
  dsimp only
  by_cases hz : tm.1.length = 0
  · refine AC.pos (by rw [hz]; rfl) (nx _ _ ?_)
    unfold lastP
    rw [List.eq_nil_of_length_eq_zero hz]
    rfl
  · have ht := w_trail (x_trail (rd := rd) ok htm (j := tm.1.length - 1) (by omega))
    have e9 : nI tm.1.length - (1 : Int32) = nI (tm.1.length - 1) := by
      obtain ⟨k, hk⟩ : ∃ k, tm.1.length = k + 1 := ⟨tm.1.length - 1, by omega⟩
      rw [hk]
      exact nI_pred k
    refine AC.neg (fun e => hz ((nI_z (by omega)).mp e)) ?_
    rw [e9]
    refine AC.bd ht ?_
    dsimp only
    refine nx _ _ ?_
    unfold lastP
    rw [List.getLast?_eq_getElem?]
    cases tm.1[tm.1.length - 1]? <;> rfl
end KB
