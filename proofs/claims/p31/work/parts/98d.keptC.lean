/-! PURE: what is kept, all teams. -/
section KC
variable {tx : List Nat} {n : Nat} {hm : Nat → Nat} {S : aS} {L : List aS} {K : Nat → Option aS} {rd : aR} {t : Nat} {tm : aT} {A' : aA}
variable {F61 : Int32 → Int32 → Int32 → Int64 → Int64 → Int64 → Int32 → Int32 → gG → Option (Int32 × gG)} {l2 : Int32} {a b hh c v h m B : Nat}
theorem i32_sub {a b : Nat} (ha : a < 2 ^ 30) (hb : b < 2 ^ 30) : (nI a - nI b).toInt = (a : Int) - b := by
  rw [Int32.toInt_sub, nI_toInt (by omega), nI_toInt (by omega), Int.bmod_eq_of_le (by omega) (by omega)]
theorem i64_sub {a b : Nat} (ha : a < 2 ^ 30) (hb : b < 2 ^ 30) : (lN a - lN b).toInt = (a : Int) - b := by
  rw [Int64.toInt_sub, pf_lI (by omega), pf_lI (by omega), Int.bmod_eq_of_le (by omega) (by omega)]
theorem i32_subN {a b : Nat} (ha : a < 2 ^ 30) (hb : b ≤ a) : nI a - nI b = nI (a - b) := Int32.toInt_inj.mp (by rw [i32_sub ha (by omega), nI_toInt (by omega)]; omega)
def scV (n : Nat) (tm : aT) (m h : Nat) : Nat := if (setOf tm.1).testBit (n - 1) = true then 200 - (m + 10 * h) else 0
theorem scV_le : scV n tm m h ≤ 200 := by
  unfold scV
  split <;> omega
theorem scr_scV (h2m : tm.2.1 = nI m) (hm1 : m ≤ 190) (h3 : tm.2.2 = nI h) (hh1 : h ≤ 1000) : scr n tm = nI (scV n tm m h) := by
  unfold scr scV
  rw [h2m, h3, show (10 : Int32) * nI h = nI (10 * h) from pk_mul 10 h, show (200 : Int32) - nI m = nI (200 - m) from i32_subN (a := 200) (by omega) (by omega)]
  cases (setOf tm.1).testBit (n - 1) with
  | false => rfl
  | true =>
    rw [if_pos rfl, if_pos rfl]
    by_cases q : m + 10 * h < 200
    · rw [i32_subN (by omega) (by omega), if_pos (show (0 : Int32) < nI (200 - m - 10 * h) from nI_lt (a := 0) (by omega) (by omega))]
      congr 1
      omega
    · rw [if_neg, show 200 - (m + 10 * h) = 0 by omega]
      · rfl
      · intro e
        have := Int32.lt_iff_toInt_lt.mp e
        rw [i32_sub (by omega) (by omega)] at this
        have h0 : (0 : Int32).toInt = 0 := by decide
        omega
theorem k_180 (ok : okA tx n hm S L K) (htm : S.2.2.2[t]? = some tm) (h2m : tm.2.1 = nI m) (hm1 : tm.1.length ≤ m) (hm2 : m ≤ 19 * tm.1.length) (h3 : tm.2.2 = nI h) (hh1 : h ≤ 1000) (ha : a < 2 ^ 30) (hb : b < 2 ^ 30) (hF : AC (tx, n, hm, S, L, K, rd) (kGo F61 n l2 a b hh c t (setOf tm.1) (scV n tm m h) h ((setOf tm.1).testBit (n - 1))) 1 A') : AC (tx, n, hm, S, L, K, rd) (fs_L_kept_180 F61 (nI n) l2 1 (lN a) (lN b) (lN hh) (nI c) (nI t) (lN (setOf tm.1)) (nI tm.1.length)) 1 A' := by
  obtain ⟨o1, o2, h2, hn, o5, o6, o7, o8⟩ := id ok
  have h1 := ok_get o6 htm
  have hs : setOf tm.1 < 2 ^ n := setOf_lt h1.1.2
  have hs2 := lt1024 hs hn
  have hln := okT_len h1.1
  have hm190 : m ≤ 190 := by omega
  have hv := scV_le (n := n) (tm := tm) (m := m) (h := h)
  have hL := L_has (A := (tx, n, hm, S, L, K, rd)) (x := setOf tm.1) (p := n - 1) (by omega) (by omega)
  rw [show nI (n - 1) = nI n - (1 : Int32) from by obtain ⟨k, rfl⟩ : ∃ k, n = k + 1 := ⟨n - 1, by omega⟩; exact (nI_pred k).symm] at hL
  have e2 := w_team (x_team2 (rd := rd) ok htm)
  have e3 := w_team (x_team3 (rd := rd) ok htm)
  rw [h2m, nI_l (by omega)] at e2
  rw [h3, nI_l (by omega)] at e3
  have nx : ∀ w, w = lN (scV n tm m h) → AC (tx, n, hm, S, L, K, rd) (fs_L_kept_233 F61 (nI n) l2 1 (lN a) (lN b) (lN hh) (nI c) (nI t) (lN (setOf tm.1)) (nI tm.1.length) (b2 ((setOf tm.1).testBit (n - 1))) w) 1 A' := fun w hw => by
    rw [hw]
    exact k_233 ok htm h2m hm1 hm2 (scr_scV h2m hm190 h3 hh1) h3 ha hb (by omega) (by omega) hF
  unfold fs_L_kept_180
  refine AC.bd hL ?_
  dsimp only
  refine AC.lt (AC.bd e2 ?_)
  dsimp only
  refine AC.bd e3 ?_
  dsimp only
  rw [show (10 : Int64) * lN h = lN (10 * h) from lN_mul 10 h, show (200 : Int64) - lN m = lN (200 - m) from lN_sub (a := 200) (by omega)]
  refine AC.lt ?_
  cases hc : (setOf tm.1).testBit (n - 1) with
  | false =>
    rw [hc] at nx
    refine AC.pos rfl ?_
    unfold fs_L_kept_232
    refine nx _ ?_
    unfold scV
    rw [hc]
    rfl
  | true =>
    rw [hc] at nx
    by_cases q : m + 10 * h < 200
    · refine AC.neg (by decide) (AC.neg ?_ (nx _ ?_))
      · rw [lN_sub (by omega), show (0 : Int64) = lN 0 from rfl, lcmp_le (by omega) (by omega)]
        omega
      · rw [lN_sub (by omega)]
        unfold scV
        rw [if_pos hc]
        congr 1
        omega
    · refine AC.neg (by decide) (AC.pos ?_ ?_)
      · rw [lg_cmp_le, Int64.le_iff_toInt_le, i64_sub (by omega) (by omega)]
        have h0 : (0 : Int64).toInt = 0 := by decide
        omega
      · unfold fs_L_kept_232
        refine nx _ ?_
        unfold scV
        rw [if_pos hc, show 200 - (m + 10 * h) = 0 by omega]
        rfl
theorem k_77 (ok : okA tx n hm S L K) (htm : S.2.2.2[t]? = some tm) (hcan : ∀ k p, tm.1[k]? = some p → canV n (effH hm S.2.2.1) (setOf (tm.1.take k)) p = true) (h2m : tm.2.1 = nI m) (hm1 : tm.1.length ≤ m) (hm2 : m ≤ 19 * tm.1.length) (h3 : tm.2.2 = nI h) (hh1 : h ≤ 1000) (ha : a < 2 ^ 30) (hb : b < 2 ^ 30) (hF : AC (tx, n, hm, S, L, K, rd) (kGo F61 n l2 a b hh c t (setOf tm.1) (scV n tm m h) h ((setOf tm.1).testBit (n - 1))) 1 A') (d : Nat) : ∀ k fu, k + d = tm.1.length → d < fu → AC (tx, n, hm, S, L, K, rd) (fb_L_kept_77 F61 fu (nI n) l2 1 (lN a) (lN b) (lN hh) (nI c) (nI t) (lN (setOf (tm.1.take k))) (nI k)) 1 A' := by
  obtain ⟨o1, o2, h2, hn, o5, o6, o7, o8⟩ := id ok
  have h1 := ok_get o6 htm
  have hln := okT_len h1.1
  induction d with
  | zero =>
    intro k fu hk hf
    obtain ⟨fu, rfl⟩ : ∃ f', fu = f' + 1 := ⟨fu - 1, by omega⟩
    have k8 := k_180 (rd := rd) ok htm h2m hm1 hm2 h3 hh1 ha hb hF
    have ht := w_trail (x_trail (rd := rd) ok htm (j := k) (by omega))
    obtain rfl : k = tm.1.length := by omega
    rw [List.take_length]
    rw [List.getElem?_eq_none (Nat.le_refl _)] at ht
    unfold fb_L_kept_77 fs_L_kept_77
    by_cases q : 10 ≤ tm.1.length
    · exact AC.pos (nI_le (a := 10) q (by omega)) k8
    · refine AC.neg (nI_ge (b := 10) (by omega) (by decide)) (AC.bd ht ?_)
      dsimp only
      exact AC.pos (by decide) k8
  | succ d ih =>
    intro k fu hk hf
    obtain ⟨fu, rfl⟩ : ∃ f', fu = f' + 1 := ⟨fu - 1, by omega⟩
    obtain ⟨p, hp⟩ := get_lt (show k < tm.1.length by omega)
    have hpn : p < n := h1.1.2 p (List.mem_of_getElem? hp)
    obtain ⟨c1, c2, c3⟩ := canV_s (hcan k p hp)
    have hs : setOf (tm.1.take k) < 2 ^ n := setOf_lt (fun q hq => h1.1.2 q (List.mem_of_mem_take hq))
    have hs2 := lt1024 hs hn
    have ht := w_trail (x_trail (rd := rd) ok htm (j := k) (by omega))
    rw [hp, show oI (some p) = nI p from rfl, nI_l (by omega)] at ht
    have hP := L_has (A := (tx, n, hm, S, L, K, rd)) (x := setOf (tm.1.take k)) (p := p) (by omega) (by omega)
    have hH := w_holds (x_holds (rd := rd) ok hpn hs)
    have hL := L_has (A := (tx, n, hm, S, L, K, rd)) (x := setOf (tm.1.take k)) (p := n - 1) (by omega) (by omega)
    rw [show nI (n - 1) = nI n - (1 : Int32) from by obtain ⟨k, rfl⟩ : ∃ k, n = k + 1 := ⟨n - 1, by omega⟩; exact (nI_pred k).symm] at hL
    rw [c1] at hP
    rw [c2] at hL
    rw [c3] at hH
    have et : setOf (tm.1.take (k + 1)) = setOf (tm.1.take k) ||| 2 ^ p := by rw [List.take_succ, hp]; exact setOf_app _ p
    have hw : 2 ^ p < 2 ^ 10 := Nat.pow_lt_pow_right (by decide) (by omega)
    unfold fb_L_kept_77 fs_L_kept_77
    refine AC.neg (nI_ge (b := 10) (by omega) (by decide)) (AC.bd ht ?_)
    dsimp only
    refine AC.neg (lN_ne9 (by omega)) (AC.neg (by decide) (AC.bd ht ?_))
    dsimp only
    rw [lN_i]
    refine AC.bd hP ?_
    dsimp only
    refine AC.pos rfl (AC.bd ht ?_)
    dsimp only
    rw [lN_i, lN_i]
    refine AC.bd hH ?_
    dsimp only
    refine AC.pos (by decide) (AC.bd hL ?_)
    dsimp only
    refine AC.pos rfl ?_
    unfold fs_L_kept_157
    refine AC.bd ht ?_
    dsimp only
    rw [lN_i]
    refine AC.le (y := lN (setOf (tm.1.take (k + 1)))) ?_ (AC.le (nI_1 k) (ih (k + 1) fu (by omega) (by omega)))
    rw [show (1 : Int64) <<< ((nI p).toInt64 &&& 63) = lN (1 * 2 ^ p) from wb_shl 1 (by omega), Nat.one_mul, wb_or (by omega) (by omega), et]
theorem fO_half {H : Nat → Nat → Bool} : ∀ k j c, fOpens H 0 (2 * k) (2 * j) c ≤ c + k
  | 0, j, c => Nat.le_refl _
  | k + 1, j, c => by
    rw [show 2 * (k + 1) = (2 * k + 1) + 1 from rfl]
    unfold fOpens
    generalize hc' : (if (2 * j).testBit 0 = false ∧ H 0 (2 * j) = true then c + 1 else c) = c'
    have h1 : c' ≤ c + 1 := by
      rw [← hc']
      split <;> omega
    unfold fOpens
    rw [if_neg (by rw [Nat.testBit_zero]; simp)]
    have := fO_half (H := H) k (j + 1) c'
    rw [show 2 * j + 1 + 1 = 2 * (j + 1) from rfl]
    omega
theorem k_892 (ok : okA tx n hm S L K) : AC (tx, n, hm, S, L, K, rd) (fs_L_kept_892 (nI n)) 1 (tx, n, hm, S, L, K, rd) := by
  obtain ⟨o1, o2, h2, hn, o5, o6, o7, o8⟩ := id ok
  have hp := w_place (x_place3 (rd := rd) ok (p := 0) (by omega))
  have ho := fO_half (H := effH hm S.2.2.1) (2 ^ (n - 1)) 0 0
  have hw : 2 ^ (n - 1) ≤ 2 ^ 9 := Nat.pow_le_pow_right (by decide) (by omega)
  rw [← two_n h2, Nat.mul_zero] at ho
  rw [nI_l (by omega)] at hp
  have hi := L_inN (A := (tx, n, hm, S, L, K, rd)) (a := fOpens (effH hm S.2.2.1) 0 (2 ^ n) 0 0) (l := 0) (h := 2 ^ (n - 1)) (by omega) (by omega) (by omega)
  rw [decide_eq_true ⟨Nat.zero_le _, by omega⟩] at hi
  unfold fs_L_kept_892
  refine AC.bd hp ?_
  dsimp only
  rw [show ((1 : Int32) <<< ((nI n - (1 : Int32)) &&& 31)).toInt64 = lN (2 ^ (n - 1)) from by
    rw [← nI_l (show 2 ^ (n - 1) < 2 ^ 31 by omega), ← nI_shl1 (show n - 1 < 31 by omega)]
    obtain ⟨k, rfl⟩ : ∃ k, n = k + 1 := ⟨n - 1, by omega⟩
    rw [nI_pred]
    rfl]
  refine AC.bd hi ?_
  dsimp only
  exact AC.neg (by decide) AC.ret
theorem k_812 (ok : okA tx n hm S L K) (hb2 : fBest n S.2.2.2 0 = nI b) (hb : b < 2 ^ 30) (hh2 : fHints S.2.2.2 0 = nI hh) (hh1 : hh < 2 ^ 30) (ha : fAny S.2.2.2 0 < 1024) : AC (tx, n, hm, S, L, K, rd) (fs_L_kept_812 (nI n) 1 (lN (fAny S.2.2.2 0)) (lN b) (lN hh) (nI (fTeamsAt (n - 1) S.2.2.2 0))) 1 (tx, n, hm, S, L, K, rd) := by
  obtain ⟨o1, o2, h2, hn, o5, o6, o7, o8⟩ := id ok
  have e2 := w_about (x_about2 (rd := rd) ok)
  have e3 := w_about (x_about3 (rd := rd) ok)
  have e4 := w_about (x_about4 (rd := rd) ok)
  have e5 := w_about (x_about5 (rd := rd) ok)
  have eM := L_many (A := (tx, n, hm, S, L, K, rd)) (x := fAny S.2.2.2 0) (by omega)
  rw [hb2, nI_l (by omega)] at e3
  rw [hh2, nI_l (by omega)] at e5
  have hcl : dedN n (effH hm S.2.2.1) ≤ 2 ^ n := cnt_k (ded n (effH hm S.2.2.1)) (2 ^ n)
  have h1024 : 2 ^ n ≤ 1024 := Nat.pow_le_pow_right (n := 2) (j := 10) (by decide) hn
  have k8 := k_892 (rd := rd) ok
  unfold fs_L_kept_812
  refine AC.bd (x_easeBy ok) ?_
  dsimp only
  refine AC.lt (AC.neg (by decide) (AC.bd e2 ?_))
  dsimp only
  refine AC.pos (lg_refl _) (AC.bd e3 ?_)
  dsimp only
  refine AC.pos (lg_refl _) (AC.bd e4 ?_)
  dsimp only
  refine AC.bdg eM (fun _ => ?_)
  dsimp only
  refine AC.pos (lg_refl _) (AC.bdg e5 (fun _ => ?_))
  dsimp only
  refine AC.pos (lg_refl _) (AC.bdg (x_deadEnds ok) (fun _ => ?_))
  dsimp only
  refine AC.neg (nI_pos (by omega)) (AC.bdg (x_deadEnds ok) (fun _ => ?_))
  dsimp only
  by_cases q : dedN n (effH hm S.2.2.1) = 0
  · rw [q, if_pos rfl]
    exact AC.neg (by decide) (AC.pos rfl k8)
  · exact AC.pos (nI_lt (a := 0) (by omega) (by omega)) k8
theorem k_61 (ok : okA tx n hm S L K) (hst : stOK n hm B S) (hB : B ≤ 1000) (d : Nat) : ∀ t fu b hh, t + d = S.2.2.2.length → d < fu → fBest n (S.2.2.2.take t) 0 = nI b → b ≤ 200 → fHints (S.2.2.2.take t) 0 = nI hh → hh ≤ t * 1000 → fAny (S.2.2.2.take t) 0 < 1024 → AC (tx, n, hm, S, L, K, rd) (fb_L_kept_61 fu (nI n) (nI S.2.2.2.length) 1 (lN (fAny (S.2.2.2.take t) 0)) (lN b) (lN hh) (nI (fTeamsAt (n - 1) (S.2.2.2.take t) 0)) (nI t)) 1 (tx, n, hm, S, L, K, rd) := by
  obtain ⟨o1, o2, h2, hn, o5, o6, o7, o8⟩ := id ok
  have hT4 := o6.2.1
  induction d with
  | zero =>
    intro t fu b hh ht hf hb2 hb hh2 hh1 ha
    obtain ⟨fu, rfl⟩ : ∃ f', fu = f' + 1 := ⟨fu - 1, by omega⟩
    obtain rfl : t = S.2.2.2.length := by omega
    rw [List.take_length] at hb2 hh2 ha ⊢
    unfold fb_L_kept_61 fs_L_kept_61
    exact AC.pos (nI_le (Nat.le_refl _) (by omega)) (k_812 ok hb2 (by omega) hh2 (by omega) ha)
  | succ d ih =>
    intro t fu b hh ht hf hb2 hb hh2 hh1 ha
    obtain ⟨fu, rfl⟩ : ∃ f', fu = f' + 1 := ⟨fu - 1, by omega⟩
    obtain ⟨tm, htm⟩ := get_lt (show t < S.2.2.2.length by omega)
    have h1 := ok_get o6 htm
    have hs := lt1024 (setOf_lt h1.1.2) hn
    obtain ⟨hcan, ⟨m, h2m, hm1, hm2⟩, h, h3, hhB⟩ := hst tm (List.mem_of_getElem? htm)
    have hln := okT_len h1.1
    have hsc := scr_scV (n := n) h2m (by omega) h3 (by omega)
    have hv := scV_le (n := n) (tm := tm) (m := m) (h := h)
    have et : S.2.2.2.take (t + 1) = S.2.2.2.take t ++ [tm] := by rw [List.take_succ, htm]; rfl
    have key := ih (t + 1) fu (if scV n tm m h ≤ b then b else scV n tm m h) (hh + h) (by omega) (by omega) (by
      rw [et]
      unfold fBest at hb2 ⊢
      rw [List.foldl_append, hb2]
      show (if nI b < scr n tm then scr n tm else nI b) = _
      rw [hsc]
      by_cases q : scV n tm m h ≤ b
      · rw [if_pos q, if_neg (nI_nlt q (by omega))]
      · rw [if_neg q, if_pos (nI_lt (by omega) (by omega))]) (by split <;> omega) (by
      rw [et]
      unfold fHints at hh2 ⊢
      rw [List.foldl_append, hh2]
      show nI hh + tm.2.2 = _
      rw [h3, nI_add]) (by omega) (by
      rw [et]
      unfold fAny at ha ⊢
      rw [List.foldl_append]
      exact Nat.or_lt_two_pow (n := 10) ha hs)
    have eA : fAny (S.2.2.2.take (t + 1)) 0 = fAny (S.2.2.2.take t) 0 ||| setOf tm.1 := by
      rw [et]
      unfold fAny
      rw [List.foldl_append]
      rfl
    have eC : fTeamsAt (n - 1) (S.2.2.2.take (t + 1)) 0 = fTeamsAt (n - 1) (S.2.2.2.take t) 0 + (if (setOf tm.1).testBit (n - 1) = true then 1 else 0) := by
      rw [et]
      unfold fTeamsAt
      rw [List.foldl_append]
      show (if (setOf tm.1).testBit (n - 1) = true then _ + 1 else _) = _
      split <;> rfl
    rw [eA, eC] at key
    unfold fb_L_kept_61 fs_L_kept_61
    refine AC.neg (nI_ge (by omega) (by omega)) (AC.neg (by decide) ?_)
    exact k_77 ok htm hcan h2m hm1 hm2 h3 (by omega) (by omega) (by omega) key tm.1.length 0 gFuelL (by omega) (by unfold gFuelL; omega)
theorem L_kept (ok : okA tx n hm S L K) (hst : stOK n hm B S) (hB : B ≤ 1000) : AC (tx, n, hm, S, L, K, rd) f_L_kept 1 (tx, n, hm, S, L, K, rd) := by
  obtain ⟨o1, o2, h2, hn, o5, o6, o7, o8⟩ := id ok
  have hT4 := o6.2.1
  have e0 := w_about (x_about0 (rd := rd) ok)
  have e1 := w_about (x_about1 (rd := rd) ok)
  rw [nI_l (by omega)] at e0 e1
  have i0 := L_inN (A := (tx, n, hm, S, L, K, rd)) (a := n) (l := 2) (h := 10) (by omega) (by omega) (by omega)
  have i1 := L_inN (A := (tx, n, hm, S, L, K, rd)) (a := S.2.2.2.length) (l := 0) (h := 4) (by omega) (by omega) (by omega)
  rw [decide_eq_true ⟨h2, hn⟩] at i0
  rw [decide_eq_true ⟨Nat.zero_le _, hT4⟩] at i1
  unfold f_L_kept
  refine AC.bd e0 ?_
  dsimp only
  refine AC.le (lN_i n) (AC.bd e1 ?_)
  dsimp only
  refine AC.le (lN_i _) ?_
  rw [nI_l (by omega), nI_l (by omega)]
  refine AC.bd i0 ?_
  dsimp only
  refine AC.neg (by decide) (AC.bd i1 ?_)
  dsimp only
  refine AC.neg (by decide) ?_
  unfold fs_L_kept_45
  exact k_61 ok hst hB S.2.2.2.length 0 gFuel5 0 0 (by omega) (by unfold gFuel5; omega) rfl (by omega) rfl (by omega) (show 0 < 1024 by decide)
end KC
