/-! PURE: what is kept, for one team. -/
section KA
variable {tx : List Nat} {n : Nat} {hm : Nat → Nat} {S : aS} {L : List aS} {K : Nat → Option aS} {rd : aR} {t : Nat} {tm : aT} {A' : aA}
variable {F61 : Int32 → Int32 → Int32 → Int64 → Int64 → Int64 → Int32 → Int32 → gG → Option (Int32 × gG)} {l2 : Int32} {a b hh c v h : Nat}
theorem AC.bdg {α β : Type} {A A1 A2 : aA} {X : gG → Option (α × gG)} {v : α} {G : gG → α × gG → Option (β × gG)} {z : β} (h1 : AC A X v A1) (h2 : ∀ g0, AC A1 (fun g => G g0 (v, g)) z A2) : AC A (fun g => (X g).bind (G g)) z A2 := fun g hg => by
  obtain ⟨g1, e1, i1⟩ := h1 g hg
  obtain ⟨g2, e2, i2⟩ := h2 g g1 i1
  exact ⟨g2, by show (X g).bind (G g) = _; rw [e1, ob_eq]; exact e2, i2⟩
theorem lN_ne9 {x : Nat} (hx : x < 2 ^ 30) : ¬ lg_cmp (lN x) (-9) = 0 := fun e => by
  have h1 := (lg_cmp_eq _ _).mp e
  have h2 := congrArg Int64.toInt h1
  rw [pf_lI (by omega)] at h2
  have h3 : (-9 : Int64).toInt = -9 := by decide
  rw [h3] at h2
  omega
def kGo (F61 : Int32 → Int32 → Int32 → Int64 → Int64 → Int64 → Int32 → Int32 → gG → Option (Int32 × gG)) (n : Nat) (l2 : Int32) (a b hh c t s v h : Nat) (came : Bool) : gG → Option (Int32 × gG) := F61 (nI n) l2 1 (lN (a ||| s)) (lN (if v ≤ b then b else v)) (lN (hh + h)) (nI (c + if came = true then 1 else 0)) (nI (t + 1))
theorem k_749 (ok : okA tx n hm S L K) (htm : S.2.2.2[t]? = some tm) (h3 : tm.2.2 = nI h) (ha : a < 2 ^ 30) {s : Nat} (hs : s < 2 ^ 30) (hb : b < 2 ^ 30) (hv : v < 2 ^ 30) (hh3 : h < 2 ^ 30) {came : Bool} (hF : AC (tx, n, hm, S, L, K, rd) (kGo F61 n l2 a b hh c t s v h came) 1 A') : AC (tx, n, hm, S, L, K, rd) (fs_L_kept_749 F61 (nI n) l2 (lN a) (lN b) (lN hh) (nI c) (nI t) (lN s) (b2 came) (lN v)) 1 A' := by
  have key : ∀ w, w = lN (if v ≤ b then b else v) → AC (tx, n, hm, S, L, K, rd) (fs_L_kept_777 F61 (nI n) l2 1 (lN (a ||| s)) (lN hh) (nI c) (nI t) (b2 came) w) 1 A' := fun w hw => by
    unfold fs_L_kept_777
    refine AC.bd (w_team (x_team3 ok htm)) ?_
    dsimp only
    refine AC.le (show lN hh + tm.2.2.toInt64 = lN (hh + h) by rw [h3, nI_l (by omega), lN_add]) ?_
    cases came with
    | true =>
      refine AC.neg (by decide) ?_
      unfold fs_L_kept_803
      refine AC.le (nI_add c 1) (AC.le (nI_1 t) ?_)
      rw [hw]
      exact hF
    | false =>
      refine AC.pos rfl ?_
      unfold fs_L_kept_803
      refine AC.le (nI_add c 0) (AC.le (nI_1 t) ?_)
      rw [hw]
      exact hF
  unfold fs_L_kept_749 fs_L_kept_754
  refine AC.le (wb_or (by omega) (by omega)) ?_
  by_cases q : v ≤ b
  · exact AC.pos ((lcmp_le (by omega) (by omega)).mpr q) (key _ (by rw [if_pos q]))
  · exact AC.neg (fun e => q ((lcmp_le (by omega) (by omega)).mp e)) (key _ (by rw [if_neg q]))
theorem k_448c (ok : okA tx n hm S L K) (htm : S.2.2.2[t]? = some tm) (h3 : tm.2.2 = nI h) (ha : a < 2 ^ 30) (hb : b < 2 ^ 30) (hv : v < 2 ^ 30) (hh3 : h < 2 ^ 30) (hc : (setOf tm.1).testBit (n - 1) = true) (l20 : Int64) (hF : AC (tx, n, hm, S, L, K, rd) (kGo F61 n l2 a b hh c t (setOf tm.1) v h true) 1 A') : AC (tx, n, hm, S, L, K, rd) (fs_L_kept_448 F61 (nI n) l2 1 (lN a) (lN b) (lN hh) (nI c) (nI t) (lN (setOf tm.1)) (b2 true) (lN v) l20) 1 A' := by
  obtain ⟨o1, o2, h2, hn, o5, o6, o7, o8⟩ := id ok
  have h1 := ok_get o6 htm
  have hs : setOf tm.1 < 2 ^ n := setOf_lt h1.1.2
  have hs2 := lt1024 hs hn
  have hW := wOf_end (H := effH hm S.2.2.1) hs hc
  have hf : fin n (effH hm S.2.2.1) none (setOf tm.1) = true := (k_fin h2 hs).mpr (.inl hc)
  have eo := w_orders (x_orders (rd := rd) ok htm)
  have en := w_needed (x_needed (rd := rd) ok htm)
  have es := w_shortest (x_shortest0 (rd := rd) ok htm)
  have eq := w_quickest (x_quickest0 (rd := rd) ok htm)
  unfold qkT at eq
  rw [hW] at eo
  rw [if_pos hf, hW] at en
  rw [if_pos hf, hW] at es
  rw [if_pos hc] at eq
  have k9 := k_749 (rd := rd) (came := true) ok htm h3 ha (show setOf tm.1 < 2 ^ 30 by omega) hb hv hh3 hF
  unfold fs_L_kept_448 fs_L_kept_464 fs_L_kept_465
  refine AC.neg (by decide) (AC.bd eo ?_)
  dsimp only
  refine AC.lt (AC.bd en ?_)
  dsimp only
  refine AC.lt (AC.neg (by decide) (AC.neg (by decide) ?_))
  unfold fs_L_kept_499 fs_L_kept_509 fs_L_kept_514
  refine AC.neg (by decide) (AC.pos rfl (AC.neg (by decide) ?_))
  unfold fs_L_kept_531 fs_L_kept_545 fs_L_kept_546
  refine AC.neg (by decide) (AC.pos rfl (AC.pos rfl ?_))
  unfold fs_L_kept_642
  refine AC.neg (by decide) (AC.bd es ?_)
  dsimp only
  refine AC.pos (by decide) (AC.bd eq ?_)
  dsimp only
  exact AC.pos (by decide) (AC.pos (by decide) (AC.pos (by decide) k9))
theorem k_448n (ok : okA tx n hm S L K) (htm : S.2.2.2[t]? = some tm) (h3 : tm.2.2 = nI h) (ha : a < 2 ^ 30) (hb : b < 2 ^ 30) (hv : v < 2 ^ 30) (hh3 : h < 2 ^ 30) (hc : (setOf tm.1).testBit (n - 1) = false) (hz : safe n (effH hm S.2.2.1) (setOf tm.1) = 0) (hF : AC (tx, n, hm, S, L, K, rd) (kGo F61 n l2 a b hh c t (setOf tm.1) v h false) 1 A') : AC (tx, n, hm, S, L, K, rd) (fs_L_kept_448 F61 (nI n) l2 1 (lN a) (lN b) (lN hh) (nI c) (nI t) (lN (setOf tm.1)) (b2 false) (lN v) (lN (safe n (effH hm S.2.2.1) (setOf tm.1)))) 1 A' := by
  obtain ⟨o1, o2, h2, hn, o5, o6, o7, o8⟩ := id ok
  have h1 := ok_get o6 htm
  have hs : setOf tm.1 < 2 ^ n := setOf_lt h1.1.2
  have hs2 := lt1024 hs hn
  have hsq := bit_split h2 hs hc
  have hf : fin n (effH hm S.2.2.1) none (setOf tm.1) = false := by
    cases e : fin n (effH hm S.2.2.1) none (setOf tm.1) with
    | false => rfl
    | true =>
      rcases (k_fin h2 hs).mp e with q | q
      · rw [hc] at q; cases q
      · exact absurd hz q
  have ho : (wOf n (effH hm S.2.2.1) (setOf tm.1)).2.1 = 0 := by
    cases e : (wOf n (effH hm S.2.2.1) (setOf tm.1)).2.1 with
    | zero => rfl
    | succ k =>
      have := (k_ord h2 hn hs).mp (by rw [e]; omega)
      rw [hf] at this
      cases this
  have hq : qOf n (effH hm S.2.2.1) S (setOf tm.1) tm.1.getLast? = none := (qOf_none h2 hn (2 ^ (n - 1)) _ hsq (by omega) _).mpr hf
  have eo := w_orders (x_orders (rd := rd) ok htm)
  have en := w_needed (x_needed (rd := rd) ok htm)
  have es := w_shortest (x_shortest0 (rd := rd) ok htm)
  have es1 := w_shortest (x_shortest1 (rd := rd) ok htm)
  have eq := w_quickest (x_quickest0 (rd := rd) ok htm)
  have eq1 := w_quickest (x_quickest1 (rd := rd) ok htm)
  unfold qkT at eq
  unfold qkF at eq1
  rw [ho] at eo
  rw [if_neg (by rw [hf]; decide)] at en es
  rw [shP_no h2 hs (.inr hf)] at es1
  rw [if_neg (by rw [hc]; decide), hq] at eq eq1
  have eq1 : AC (tx, n, hm, S, L, K, rd) (f_L_quickest (nI t) (nI 1)) (-9 : Int32).toInt64 (tx, n, hm, S, L, K, rd) := eq1
  have k9 := k_749 (rd := rd) (came := false) ok htm h3 ha (show setOf tm.1 < 2 ^ 30 by omega) hb hv hh3 hF
  rw [hz]
  unfold fs_L_kept_448 fs_L_kept_464 fs_L_kept_465
  refine AC.pos rfl (AC.pos (by decide) (AC.bd eo ?_))
  dsimp only
  refine AC.lt (AC.bd en ?_)
  dsimp only
  refine AC.lt (AC.neg (by decide) (AC.pos (by decide) ?_))
  unfold fs_L_kept_499 fs_L_kept_514
  refine AC.pos rfl (AC.pos rfl (AC.pos rfl (AC.pos (by decide) ?_)))
  unfold fs_L_kept_531 fs_L_kept_546
  refine AC.pos rfl (AC.pos rfl (AC.pos rfl (AC.pos rfl ?_)))
  unfold fs_L_kept_642
  refine AC.pos rfl (AC.pos rfl (AC.bd es ?_))
  dsimp only
  refine AC.pos (by decide) (AC.bd es1 ?_)
  dsimp only
  refine AC.pos (by decide) (AC.bd eq ?_)
  dsimp only
  refine AC.pos (by decide) (AC.bd eq1 ?_)
  dsimp only
  exact AC.pos (by decide) k9
theorem k_448y (ok : okA tx n hm S L K) (htm : S.2.2.2[t]? = some tm) (h3 : tm.2.2 = nI h) (ha : a < 2 ^ 30) (hb : b < 2 ^ 30) (hv : v < 2 ^ 30) (hh3 : h < 2 ^ 30) (hc : (setOf tm.1).testBit (n - 1) = false) (hz : safe n (effH hm S.2.2.1) (setOf tm.1) ≠ 0) (hF : AC (tx, n, hm, S, L, K, rd) (kGo F61 n l2 a b hh c t (setOf tm.1) v h false) 1 A') : AC (tx, n, hm, S, L, K, rd) (fs_L_kept_448 F61 (nI n) l2 1 (lN a) (lN b) (lN hh) (nI c) (nI t) (lN (setOf tm.1)) (b2 false) (lN v) (lN (safe n (effH hm S.2.2.1) (setOf tm.1)))) 1 A' := by
  obtain ⟨o1, o2, h2, hn, o5, o6, o7, o8⟩ := id ok
  have h1 := ok_get o6 htm
  have hs : setOf tm.1 < 2 ^ n := setOf_lt h1.1.2
  have hs2 := lt1024 hs hn
  have hsq := bit_split h2 hs hc
  have hsm := wOf_small (effH hm S.2.2.1) h2 hn hs
  have hf : fin n (effH hm S.2.2.1) none (setOf tm.1) = true := (k_fin h2 hs).mpr (.inr hz)
  have ho := (k_ord h2 hn hs).mpr hf
  have hsl : safe n (effH hm S.2.2.1) (setOf tm.1) < 1024 := lt1024 (msk_lt _ _) hn
  obtain ⟨j, hj, hjs, -, hjF, -⟩ := k_sh h2 hn hs hc hf
  obtain ⟨m, i, hm1, hi, his, -, hiF, -⟩ := k_qk (S := S) h2 hn hsq tm.1.getLast? hf
  have hmq := k_quick h2 hn (2 ^ (n - 1)) _ hsq (by omega) _ m hm1
  have hm190 : m ≤ 190 := qOf_190 h2 hn (fun p hp => o6.2.2.1 p hp) hsq (fr := tm.1.getLast?) (fun q hq => Nat.lt_of_lt_of_le (h1.1.2 q (List.mem_of_getLast? hq)) hn) m hm1
  have hct := k_cnt h2 hn (2 ^ n) _ hs (by omega) hf
  have eo := w_orders (x_orders (rd := rd) ok htm)
  have en := w_needed (x_needed (rd := rd) ok htm)
  have es := w_shortest (x_shortest0 (rd := rd) ok htm)
  have es1 := w_shortest (x_shortest1 (rd := rd) ok htm)
  have eq := w_quickest (x_quickest0 (rd := rd) ok htm)
  have eq1 := w_quickest (x_quickest1 (rd := rd) ok htm)
  have hL := L_has (A := (tx, n, hm, S, L, K, rd)) (x := (wOf n (effH hm S.2.2.1) (setOf tm.1)).2.2.2) (p := n - 1) (by omega) (by omega)
  rw [k_need_last h2 hn hs hf hc] at hL
  have hL' : AC (tx, n, hm, S, L, K, rd) (f_L_has (lN (wOf n (effH hm S.2.2.1) (setOf tm.1)).2.2.2) (nI n - 1)) (b2 true) (tx, n, hm, S, L, K, rd) := by
    rw [show nI n - (1 : Int32) = nI (n - 1) from by obtain ⟨k, rfl⟩ : ∃ k, n = k + 1 := ⟨n - 1, by omega⟩; exact nI_pred k]
    exact hL
  have hM := L_many (A := (tx, n, hm, S, L, K, rd)) (x := (wOf n (effH hm S.2.2.1) (setOf tm.1)).2.2.2) (by omega)
  have hS1 := L_has (A := (tx, n, hm, S, L, K, rd)) (x := safe n (effH hm S.2.2.1) (setOf tm.1)) (p := j) (by omega) (by omega)
  have hS2 := L_has (A := (tx, n, hm, S, L, K, rd)) (x := safe n (effH hm S.2.2.1) (setOf tm.1)) (p := i) (by omega) (by omega)
  rw [hjs] at hS1
  rw [his] at hS2
  have hand := k_need_and (H := effH hm S.2.2.1) h2 hn hs hf
  unfold qkT at eq
  unfold qkF at eq1
  rw [nI_l (by omega)] at eo
  rw [if_pos hf, nI_l (by omega)] at en es
  rw [hjF, nI_l (by omega)] at es1
  rw [if_neg (by rw [hc]; decide), hm1] at eq
  rw [if_neg (by rw [hc]; decide), hm1] at eq1
  have eqA : AC (tx, n, hm, S, L, K, rd) (f_L_quickest (nI t) (nI 0)) (lN m) (tx, n, hm, S, L, K, rd) := by
    rw [← nI_l (show m < 2 ^ 31 by omega)]
    exact eq
  have eqB : AC (tx, n, hm, S, L, K, rd) (f_L_quickest (nI t) (nI 1)) (lN i) (tx, n, hm, S, L, K, rd) := by
    rw [← nI_l (show i < 2 ^ 31 by omega), ← hiF]
    exact eq1
  have k9 := k_749 (rd := rd) (came := false) ok htm h3 ha (show setOf tm.1 < 2 ^ 30 by omega) hb hv hh3 hF
  have hcl := cnt_k (fun i => (wOf n (effH hm S.2.2.1) (setOf tm.1)).2.2.2.testBit i) 10
  generalize (wOf n (effH hm S.2.2.1) (setOf tm.1)).2.2.2 = nd at *
  generalize (wOf n (effH hm S.2.2.1) (setOf tm.1)).2.2.1 = fw at *
  generalize (wOf n (effH hm S.2.2.1) (setOf tm.1)).2.1 = od at *
  generalize safe n (effH hm S.2.2.1) (setOf tm.1) = sf at *
  generalize setOf tm.1 = s at *
  unfold fs_L_kept_448 fs_L_kept_464 fs_L_kept_465
  refine AC.pos rfl (AC.neg (fun e => hz ((lcmp_eq (b := 0) (by omega) (by decide)).mp e)) (AC.bd eo ?_))
  dsimp only
  refine AC.lt (AC.bd en ?_)
  dsimp only
  refine AC.lt (AC.neg (by decide) (AC.neg (fun e => by have := (lcmp_le (b := 0) (by omega) (by decide)).mp e; omega) ?_))
  unfold fs_L_kept_499 fs_L_kept_509 fs_L_kept_514
  refine AC.pos rfl (AC.neg (by decide) (AC.pos rfl (AC.neg (lN_ne9 (by omega)) ?_)))
  unfold fs_L_kept_531 fs_L_kept_545 fs_L_kept_546
  refine AC.pos rfl (AC.neg (by decide) (AC.pos rfl (AC.neg (by decide) (AC.bd hL' ?_))))
  dsimp only
  refine AC.neg (by decide) (AC.pos (by rw [wb_and (by omega) (by omega), hand]; decide) (AC.bd hM ?_))
  dsimp only
  refine AC.bdg es (fun _ => ?_)
  dsimp only
  refine AC.neg (fun e => by rw [nI_l (by omega)] at e; have := (lcmp_gt (by omega) (by omega)).mp e; omega) (AC.bd es ?_)
  dsimp only
  refine AC.bdg eqA (fun _ => ?_)
  dsimp only
  refine AC.neg (fun e => by have := (lcmp_gt (by omega) (by omega)).mp e; omega) (AC.bd es1 ?_)
  dsimp only
  rw [lN_i]
  refine AC.bd hS1 ?_
  dsimp only
  refine AC.neg (by decide) (AC.bd eqB ?_)
  dsimp only
  rw [lN_i]
  refine AC.bd hS2 ?_
  dsimp only
  refine AC.neg (by decide) ?_
  unfold fs_L_kept_642
  exact AC.pos rfl (AC.neg (by decide) k9)
end KA
