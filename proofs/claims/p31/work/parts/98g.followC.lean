/-! PURE: what follows: the whole of it. -/
section FC
variable {tx : List Nat} {n : Nat} {hm : Nat → Nat} {X Y : Nat → Nat} {E : Nat} {T : List aT} {S S' : aS} {L : List aS} {K : Nat → Option aS} {rd : aR} {t : Nat} {tm : aT} {w : Int64} {B : Nat}
theorem m9_ne {p : Nat} (hp : p < 2 ^ 30) : ¬ lN p = (-9 : Int32).toInt64 := fun e => by
  have h2 := congrArg Int64.toInt e
  rw [pf_lI (by omega)] at h2
  have h3 : (-9 : Int32).toInt64.toInt = -9 := by decide
  rw [h3] at h2
  omega
theorem lN_inj {a b : Nat} (ha : a < 2 ^ 30) (hb : b < 2 ^ 30) (h : lN a = lN b) : a = b := by
  have h2 := congrArg Int64.toInt h
  rw [pf_lI (by omega), pf_lI (by omega)] at h2
  omega
theorem fol_B (h2 : 2 ≤ n) (hn : n ≤ 10) {hm : Nat → Nat} {S : aS} {tm : aT} (hs : setOf tm.1 < 2 ^ n) (p : Nat) (hp : p < n) (hb : (safe n (effH hm S.2.2.1) (setOf tm.1)).testBit p = false) : ¬ lN p = (shF n (effH hm S.2.2.1) (setOf tm.1)).toInt64 ∧ ¬ lN p = (qkF n hm S tm).toInt64 := by
  cases hc : (setOf tm.1).testBit (n - 1) with
  | true =>
    unfold qkF
    rw [shP_no h2 hs (.inl hc), if_pos hc]
    exact ⟨m9_ne (by omega), m9_ne (by omega)⟩
  | false =>
    have hsq := bit_split h2 hs hc
    unfold qkF
    rw [if_neg (by rw [hc]; decide)]
    cases hf : fin n (effH hm S.2.2.1) none (setOf tm.1) with
    | false =>
      rw [shP_no h2 hs (.inr hf), (qOf_none h2 hn (2 ^ (n - 1)) _ hsq (by omega) _).mpr hf]
      exact ⟨m9_ne (by omega), m9_ne (by omega)⟩
    | true =>
      obtain ⟨j, hj, hjs, -, hjF, -⟩ := k_sh h2 hn hs hc hf
      obtain ⟨m, i, hm1, hi, his, -, hiF, -⟩ := k_qk (S := S) h2 hn hsq tm.1.getLast? hf
      rw [hm1, hjF, nI_l (by omega)]
      show _ ∧ ¬ lN p = (fFirst _ n 0).toInt64
      rw [hiF, nI_l (by omega)]
      refine ⟨fun e => ?_, fun e => ?_⟩
      · rw [lN_inj (by omega) (by omega) e, hjs] at hb
        cases hb
      · rw [lN_inj (by omega) (by omega) e, his] at hb
        cases hb
theorem fol_A (h2 : 2 ≤ n) (hn : n ≤ 10) {hm : Nat → Nat} {S : aS} {tm : aT} (okx : okX S) (hs : setOf tm.1 < 2 ^ n) (hfr : ∀ q, tm.1.getLast? = some q → q < 10) (p : Nat) (hp : p < n) (hb : (safe n (effH hm S.2.2.1) (setOf tm.1)).testBit p = true) : ∃ fw mq j1 j2, (if fin n (effH hm S.2.2.1) none (setOf tm.1) = true then nI (wOf n (effH hm S.2.2.1) (setOf tm.1)).2.2.1 else -9).toInt64 = lN fw ∧ (qkT n hm S tm).toInt64 = lN mq ∧ (shF n (effH hm S.2.2.1) (setOf tm.1)).toInt64 = lN j1 ∧ (qkF n hm S tm).toInt64 = lN j2 ∧ fw ≤ 10 ∧ mq ≤ 190 ∧ j1 < n ∧ j2 < n ∧ fw ≤ (wOf n (effH hm S.2.2.1) (setOf tm.1 ||| 2 ^ p)).2.2.1 + 1 ∧ (p = j1 → (wOf n (effH hm S.2.2.1) (setOf tm.1 ||| 2 ^ p)).2.2.1 + 1 = fw) ∧ (p < j1 → (wOf n (effH hm S.2.2.1) (setOf tm.1 ||| 2 ^ p)).2.2.1 + 1 ≠ fw) ∧ mq ≤ q1 n (effH hm S.2.2.1) S (setOf tm.1) p + mns S tm.1.getLast? p ∧ (p = j2 → q1 n (effH hm S.2.2.1) S (setOf tm.1) p + mns S tm.1.getLast? p = mq) ∧ (p < j2 → q1 n (effH hm S.2.2.1) S (setOf tm.1) p + mns S tm.1.getLast? p ≠ mq) := by
  obtain ⟨-, hv, hfp⟩ := safe_bit hb
  obtain ⟨c1, hc, c3⟩ := canV_s hv
  have hsq := bit_split h2 hs hc
  have hf : fin n (effH hm S.2.2.1) none (setOf tm.1) = true := (k_fin h2 hs).mpr (.inr (fun e => by rw [e, Nat.zero_testBit] at hb; cases hb))
  obtain ⟨j, hj, hjs, hjq, hjF, hjm⟩ := k_sh h2 hn hs hc hf
  obtain ⟨m, i, hm1, hi, his, hiq, hiF, him⟩ := k_qk (S := S) h2 hn hsq tm.1.getLast? hf
  have hsm := wOf_small (effH hm S.2.2.1) h2 hn hs
  have hm190 : m ≤ 190 := qOf_190 h2 hn okx hsq (fr := tm.1.getLast?) hfr m hm1
  have hl := or_lt hs hp
  have hfew := k_few_le hn hs hp (fewC_mk hv ((k_ord h2 hn hl).mpr hfp))
  have hqv : qV n (effH hm S.2.2.1) S (setOf tm.1) tm.1.getLast? p = some (q1 n (effH hm S.2.2.1) S (setOf tm.1) p + mns S tm.1.getLast? p) := (qV_lead h2 hn hsq tm.1.getLast? hp).1 hb
  have hmin : m ≤ q1 n (effH hm S.2.2.1) S (setOf tm.1) p + mns S tm.1.getLast? p := by
    have h9 := hm1
    rw [qOf_eq n _ S hsq] at h9
    exact (minO_some h9).2 p _ hp hqv
  refine ⟨(wOf n (effH hm S.2.2.1) (setOf tm.1)).2.2.1, m, j, i, ?_, ?_, ?_, ?_, by omega, hm190, hj, hi, hfew, ?_, ?_, hmin, ?_, ?_⟩
  · rw [if_pos hf, nI_l (by omega)]
  · unfold qkT
    rw [if_neg (by rw [hc]; decide), hm1]
    exact nI_l (by omega)
  · rw [hjF, nI_l (by omega)]
  · unfold qkF
    rw [if_neg (by rw [hc]; decide), hm1]
    show (fFirst _ n 0).toInt64 = _
    rw [hiF, nI_l (by omega)]
  · intro e
    rw [e]
    exact hjq
  · intro e e2
    have h9 := hjm p e
    unfold shP at h9
    rw [hb, Bool.true_and] at h9
    exact of_decide_eq_false h9 e2
  · intro e
    rw [← e] at hiq
    rw [hqv] at hiq
    exact Option.some.inj hiq
  · intro e e2
    exact him p e (by rw [hqv, e2])
theorem f_128 (ok : okA tx n hm (X, Y, E, T) L K) (hst : stOK n hm B (X, Y, E, T)) (hK : K 1 = some (X, Y, E, T)) (hw : ∀ L, okA tx n hm (X, Y, E, T) L K → AC (tx, n, hm, (X, Y, E, T), L, K, rd) f_L_now w (tx, n, hm, (X, Y, E, T), L, K, rd)) {x : Nat} (hx : x < 2 ^ 31) : AC (tx, n, hm, (X, Y, E, T), L, K, rd) (fs_L_follows_128 (nI x) w (nI n) (nI T.length) 1) 1 (tx, n, hm, (X, Y, E, T), [], K, rd) := by
  obtain ⟨o1, o2, h2, hn, o5, o6, o7, o8⟩ := id ok
  have hT4 : T.length ≤ 4 := o6.2.1
  unfold fs_L_follows_128
  by_cases hz : T.length = 0
  · exact AC.pos (by rw [hz]; decide) (f_813 (S := (X, Y, E, T)) ok hK hw)
  · have ht : x % T.length < T.length := Nat.mod_lt _ (by omega)
    have ex : nI x - nI x / nI T.length * nI T.length = nI (x % T.length) := pk_rem hx (by omega) (by omega)
    generalize x % T.length = t at *
    obtain ⟨tm, htm⟩ := get_lt ht
    obtain ⟨h1, -, -⟩ := okS_tm o6 htm
    have hs : setOf tm.1 < 2 ^ n := setOf_lt h1.2
    obtain ⟨hcan, ⟨m, h2m, hm1, hm2⟩, h, h3, hhB⟩ := hst tm (List.mem_of_getElem? htm)
    have hln := okT_len h1
    have hsl : safe n (effH hm E) (setOf tm.1) < 1024 := lt1024 (msk_lt _ _) hn
    have hol : opn n (effH hm E) (setOf tm.1) < 1024 := lt1024 opn_lt hn
    have hsm := wOf_small (effH hm E) h2 hn hs
    have eo := w_open (x_open (rd := rd) (S := (X, Y, E, T)) ok htm)
    have es := w_safe (x_safe (rd := rd) (S := (X, Y, E, T)) ok htm)
    have er := w_orders (x_orders (rd := rd) (S := (X, Y, E, T)) ok htm)
    have e2 := w_team (x_team2 (rd := rd) (S := (X, Y, E, T)) ok htm)
    rw [nI_l (show opn n (effH hm E) (setOf tm.1) < 2 ^ 31 by omega)] at eo
    rw [nI_l (show safe n (effH hm E) (setOf tm.1) < 2 ^ 31 by omega)] at es
    rw [nI_l (show (wOf n (effH hm E) (setOf tm.1)).2.1 < 2 ^ 31 by omega)] at er
    rw [h2m, nI_l (by omega)] at e2
    have okx : okX (X, Y, E, T) := fun p hp => o6.2.2.1 p hp
    have hfr : ∀ q, tm.1.getLast? = some q → q < 10 := fun q hq => Nat.lt_of_lt_of_le (h1.2 q (List.mem_of_getLast? hq)) hn
    have loop := f_221 (rd := rd) ok hK hw htm hx h2m (by omega) (fun p hp hb => fol_B (S := (X, Y, E, T)) h2 hn hs p hp hb) (fun p hp hb => fol_A (S := (X, Y, E, T)) h2 hn okx hs hfr p hp hb) n 0 gFuelL L (by omega) (by unfold gFuelL; omega) ok
    refine AC.neg (nI_ge (a := 0) (by omega) (by omega)) (AC.neg (by decide) (AC.neg (fun e => hz ((nI_z (by omega)).mp e)) (AC.le ex (AC.bd eo ?_))))
    dsimp only
    refine AC.lt (AC.bd es ?_)
    dsimp only
    refine AC.lt (AC.bd er ?_)
    dsimp only
    refine AC.lt (AC.bd (w_shortest (x_shortest0 (S := (X, Y, E, T)) ok htm)) ?_)
    dsimp only
    refine AC.lt (AC.bd (w_quickest (x_quickest0 (S := (X, Y, E, T)) ok htm)) ?_)
    dsimp only
    refine AC.lt (AC.bd (w_shortest (x_shortest1 (S := (X, Y, E, T)) ok htm)) ?_)
    dsimp only
    refine AC.lt (AC.bd (w_quickest (x_quickest1 (S := (X, Y, E, T)) ok htm)) ?_)
    dsimp only
    refine AC.lt (AC.bd e2 ?_)
    dsimp only
    refine AC.lt ?_
    exact loop
theorem fFirst_or {P : Nat → Bool} : ∀ d i, fFirst P d i = -9 ∨ ∃ j, i ≤ j ∧ j < i + d ∧ P j = true ∧ fFirst P d i = nI j
  | 0, _ => .inl rfl
  | d + 1, i => by
    unfold fFirst
    cases e : P i with
    | true => exact .inr ⟨i, Nat.le_refl _, by omega, e, if_pos rfl⟩
    | false =>
      rcases fFirst_or (P := P) d (i + 1) with h | ⟨j, h1, h2, h3, h4⟩
      · exact .inl ((if_neg (by decide)).trans h)
      · exact .inr ⟨j, by omega, by omega, h3, (if_neg (by decide)).trans h4⟩
theorem fO_le {H : Nat → Nat → Bool} {p : Nat} : ∀ d s c, fOpens H p d s c ≤ c + d
  | 0, _, _ => Nat.le_refl _
  | d + 1, s, c => by
    unfold fOpens
    have := fO_le (H := H) (p := p) d (s + 1) (if s.testBit p = false ∧ H p s = true then c + 1 else c)
    have h : (if s.testBit p = false ∧ H p s = true then c + 1 else c) ≤ c + 1 := by split <;> omega
    omega
theorem f_67 (ok : okA tx n hm (X, Y, E, T) L K) (hst : stOK n hm B (X, Y, E, T)) (hK : K 1 = some (X, Y, E, T)) (hw : ∀ L, okA tx n hm (X, Y, E, T) L K → AC (tx, n, hm, (X, Y, E, T), L, K, rd) f_L_now w (tx, n, hm, (X, Y, E, T), L, K, rd)) {x : Nat} (hx : x < 2 ^ 31) : AC (tx, n, hm, (X, Y, E, T), L, K, rd) (fs_L_follows_67 (nI x) w (nI n) (nI T.length) 1) 1 (tx, n, hm, (X, Y, E, T), [], K, rd) := by
  obtain ⟨o1, o2, h2, hn, o5, o6, o7, o8⟩ := id ok
  have h1024 : 2 ^ n ≤ 1024 := Nat.pow_le_pow_right (n := 2) (j := 10) (by decide) hn
  have he : (if dedN n (effH hm E) = 0 then (-9 : Int32) else fFirst (ezP n hm E) n 0) = -9 ∨ ∃ j, j < n ∧ dedN n (effH hm (E ||| 2 ^ j)) = 0 ∧ (if dedN n (effH hm E) = 0 then (-9 : Int32) else fFirst (ezP n hm E) n 0) = nI j := by
    by_cases q : dedN n (effH hm E) = 0
    · exact .inl (if_pos q)
    · rw [if_neg q]
      rcases fFirst_or (P := ezP n hm E) n 0 with h | ⟨j, -, h2, h3, h4⟩
      · exact .inl h
      · exact .inr ⟨j, by omega, of_decide_eq_true h3, h4⟩
  have ee := x_easeBy (rd := rd) ok
  have ee : AC (tx, n, hm, (X, Y, E, T), L, K, rd) f_X9_easeBy (if dedN n (effH hm E) = 0 then (-9 : Int32) else fFirst (ezP n hm E) n 0) (tx, n, hm, (X, Y, E, T), L, K, rd) := ee
  unfold fs_L_follows_67
  refine AC.bd ee ?_
  dsimp only
  rcases he with h | ⟨j, hj, hd, h⟩
  · rw [h]
    refine AC.lt (AC.neg (by decide) (AC.pos rfl ?_))
    unfold fs_L_follows_123
    exact f_128 ok hst hK hw hx
  · rw [h]
    have ok1 := okA_S ok (ok_ease o6 hj)
    have e1 := w_ease (x_ease (rd := rd) ok hj)
    have hle := fO_le (H := effH hm E) (p := j) (2 ^ n) 0 0
    rw [nI_l (by omega)] at e1
    have ed := x_deadEnds (rd := rd) ok1
    rw [show dedN n (effH hm (X, Y, E ||| 2 ^ j, T).2.2.1) = 0 from hd] at ed
    refine AC.lt (AC.neg (by decide) (AC.neg (fun e => ?_) (AC.bd e1 ?_)))
    · have h2 := congrArg Int32.toInt e
      rw [nI_toInt (by omega)] at h2
      have h3 : (-9 : Int32).toInt = -9 := by decide
      rw [h3] at h2
      omega
    dsimp only
    refine AC.neg (bk_neg (by omega)) (AC.bd ed ?_)
    dsimp only
    refine AC.pos rfl (AC.bd (L_back ok1 (tk_len _ (by decide))) ?_)
    dsimp only
    refine AC.neg (bk_neg (tk_len _ (by decide))) (AC.bd (hw _ (okA_undo ok1)) ?_)
    dsimp only
    refine AC.pos (lg_refl _) ?_
    unfold fs_L_follows_123
    exact f_128 (okA_undo ok1) hst hK hw hx
theorem L_follows (h : okQ B tx n hm S L K rd) {x : Nat} (hx : x < 2 ^ 31) : AC (tx, n, hm, S, L, K, rd) (f_L_follows (nI x)) 1 (tx, n, hm, S, [], setK K 1 S, rd) := by
  obtain ⟨X, Y, E, T⟩ := S
  have ok := h.1
  have hs := h.save 1
  have ok1 := hs.1
  obtain ⟨o1, o2, h2, hn, o5, o6, o7, o8⟩ := id ok
  have hT4 : T.length ≤ 4 := o6.2.1
  obtain ⟨w, hv⟩ := L_now (n := n) (hm := hm) (S := (X, Y, E, T)) o6.2.1 hn
  have e0 := w_about (x_about0 (rd := rd) ok)
  have e1 := w_about (x_about1 (rd := rd) ok)
  have e2 := w_save (x_save (rd := rd) (i := 1) ok (by decide))
  rw [nI_l (by omega)] at e0
  rw [nI_l (show T.length < 2 ^ 31 by omega)] at e1 e2
  have es := L_sim (rd := rd) ok1 (nI x).toInt64 (M := 9) (by decide) (by decide)
  unfold f_L_follows
  refine AC.bd (hv tx L K rd ok) ?_
  dsimp only
  refine AC.lt (AC.bd e0 ?_)
  dsimp only
  refine AC.le (lN_i n) (AC.bd e1 ?_)
  dsimp only
  refine AC.le (lN_i _) (AC.bd e2 ?_)
  dsimp only
  rw [nI_l (show T.length < 2 ^ 31 by omega)]
  refine AC.pos (lg_refl _) (AC.bd es ?_)
  dsimp only
  refine AC.bdg es (fun _ => ?_)
  dsimp only
  refine AC.pos (lg_refl _) (AC.bdg (hv tx L _ rd ok1) (fun _ => ?_))
  dsimp only
  exact AC.pos (lg_refl _) (f_67 ok1 hs.2.2.1 (show setK K 1 (X, Y, E, T) 1 = some (X, Y, E, T) from if_pos rfl) (fun L ok => hv tx L _ rd ok) hx)
end FC
