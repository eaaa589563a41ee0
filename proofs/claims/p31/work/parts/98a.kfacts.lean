/-! PURE: what is told of a team holds together. -/
section KF
variable {n : Nat} {H : Nat → Nat → Bool} {s : Nat}
theorem canV_s {p : Nat} (h : canV n H s p = true) : s.testBit p = false ∧ s.testBit (n - 1) = false ∧ H p s = true := by
  unfold canV at h
  simp only [Bool.and_eq_true, Bool.not_eq_true'] at h
  exact ⟨h.1, h.2.1, h.2.2⟩
theorem k_ord (h2 : 2 ≤ n) (hn : n ≤ 10) (hs : s < 2 ^ n) : 0 < (wOf n H s).2.1 ↔ fin n H none s = true := wOf_pos h2 hn (2 ^ n) s hs (by omega)
theorem k_fin (h2 : 2 ≤ n) (hs : s < 2 ^ n) : fin n H none s = true ↔ (s.testBit (n - 1) = true ∨ safe n H s ≠ 0) := by
  rw [fin_iff h2 hs]
  constructor
  · rintro (h | ⟨p, hp, hv, hf⟩)
    · exact .inl h
    · refine .inr (fun e => ?_)
      have h1 := safe_b hp hv
      rw [e, hf, Nat.zero_testBit] at h1
      cases h1
  · rintro (h | h)
    · exact .inl h
    · by_cases e : ∃ i, (safe n H s).testBit i = true
      · obtain ⟨i, hi⟩ := e
        exact .inr ⟨i, safe_bit hi⟩
      · refine absurd (Nat.eq_of_testBit_eq (fun i => ?_)) h
        rw [Nat.zero_testBit]
        cases hb : (safe n H s).testBit i with
        | false => rfl
        | true => exact absurd ⟨i, hb⟩ e
theorem k_noc (h2 : 2 ≤ n) (m : Nat) : ∀ s, s < 2 ^ n → 2 ^ n - s ≤ m → s.testBit (n - 1) = false → fin n H (some (n - 1)) s = false := by
  induction m with
  | zero => intro s hs hm; omega
  | succ m ih =>
    intro s hs hm hc
    cases e : fin n H (some (n - 1)) s with
    | false => rfl
    | true =>
      rcases (fin_iffb h2 hs).mp e with h | ⟨p, hp, hne, hv, hf⟩
      · rw [hc] at h; cases h
      · have hg := or_gt (canV_s hv).1
        have hl := or_lt hs hp
        have hpn : p ≠ n - 1 := fun q => hne (by rw [q])
        have := ih (s ||| 2 ^ p) hl (by omega) (by rw [Nat.testBit_or, hc, Nat.testBit_two_pow]; simp [hpn])
        rw [this] at hf
        cases hf
theorem k_need_bit (h2 : 2 ≤ n) (hn : n ≤ 10) (hs : s < 2 ^ n) (hf : fin n H none s = true) (q : Nat) : (wOf n H s).2.2.2.testBit q = (decide (q < n) && (!s.testBit q && !fin n H (some q) s)) := by
  rw [need_msk h2 hn hs hf, msk_bit]
theorem k_need_last (h2 : 2 ≤ n) (hn : n ≤ 10) (hs : s < 2 ^ n) (hf : fin n H none s = true) (hc : s.testBit (n - 1) = false) : (wOf n H s).2.2.2.testBit (n - 1) = true := by
  rw [k_need_bit h2 hn hs hf, hc, k_noc h2 (2 ^ n) s hs (by omega) hc]
  simp
  omega
theorem k_need_and (h2 : 2 ≤ n) (hn : n ≤ 10) (hs : s < 2 ^ n) (hf : fin n H none s = true) : (wOf n H s).2.2.2 &&& s = 0 := by
  refine Nat.eq_of_testBit_eq (fun i => ?_)
  rw [Nat.testBit_and, k_need_bit h2 hn hs hf, Nat.zero_testBit]
  cases s.testBit i <;> simp
theorem k_few_le (hn : n ≤ 10) (hs : s < 2 ^ n) {p x : Nat} (hp : p < n) (h : fewC n H s p = some x) : (wOf n H s).2.2.1 ≤ x := by
  rw [wOf_few hn hs]
  cases e : fewO n H s with
  | none => exact Nat.zero_le _
  | some m => exact (minO_some e).2 p x hp h
theorem k_few_ex (h2 : 2 ≤ n) (hn : n ≤ 10) (hs : s < 2 ^ n) (hc : s.testBit (n - 1) = false) (hf : fin n H none s = true) : fewO n H s = some (wOf n H s).2.2.1 := by
  rw [wOf_few hn hs]
  cases e : fewO n H s with
  | none =>
    have := (fewO_none h2 hn hs hc).mp e
    rw [this] at hf
    cases hf
  | some m => rfl
theorem fewC_ex {p x : Nat} (h : fewC n H s p = some x) : canV n H s p = true ∧ 0 < (wOf n H (s ||| 2 ^ p)).2.1 ∧ x = (wOf n H (s ||| 2 ^ p)).2.2.1 + 1 := by
  unfold fewC at h
  by_cases e : canV n H s p = true ∧ 0 < (wOf n H (s ||| 2 ^ p)).2.1
  · rw [if_pos e] at h
    exact ⟨e.1, e.2, (Option.some.inj h).symm⟩
  · rw [if_neg e] at h
    cases h
theorem fewC_mk {p : Nat} (hv : canV n H s p = true) (ho : 0 < (wOf n H (s ||| 2 ^ p)).2.1) : fewC n H s p = some ((wOf n H (s ||| 2 ^ p)).2.2.1 + 1) := by
  unfold fewC
  rw [if_pos ⟨hv, ho⟩]
theorem k_cnt (h2 : 2 ≤ n) (hn : n ≤ 10) (m : Nat) : ∀ s, s < 2 ^ n → 2 ^ n - s ≤ m → fin n H none s = true → cnt (fun i => (wOf n H s).2.2.2.testBit i) 10 ≤ (wOf n H s).2.2.1 := by
  induction m with
  | zero => intro s hs hm; omega
  | succ m ih =>
    intro s hs hm hf
    cases hc : s.testBit (n - 1) with
    | true => rw [wOf_end hs hc]; decide
    | false =>
      obtain ⟨⟨p, hp, hx⟩, -⟩ := minO_some (k_few_ex h2 hn hs hc hf)
      obtain ⟨hv, ho, ex⟩ := fewC_ex hx
      have hg := or_gt (canV_s hv).1
      have hl := or_lt hs hp
      have hf' := (k_ord h2 hn hl).mp ho
      have h1 := ih (s ||| 2 ^ p) hl (by omega) hf'
      have hQp : (wOf n H (s ||| 2 ^ p)).2.2.2.testBit p = false := by
        rw [k_need_bit h2 hn hl hf', Nat.testBit_or, Nat.testBit_two_pow_self]
        simp
      have h3 := cnt_one (P := fun i => (wOf n H (s ||| 2 ^ p)).2.2.2.testBit i || decide (i = p)) (Q := fun i => (wOf n H (s ||| 2 ^ p)).2.2.2.testBit i) (p := p) (by simp) hQp (fun i hi => by simp [hi]) 10
      rw [if_pos (by omega)] at h3
      have h4 := cnt_le (P := fun i => (wOf n H s).2.2.2.testBit i) (Q := fun i => (wOf n H (s ||| 2 ^ p)).2.2.2.testBit i || decide (i = p)) (fun i hi => by
        by_cases e : i = p
        · simp [e]
        · have hi' : (wOf n H s).2.2.2.testBit i = true := hi
          rw [k_need_bit h2 hn hs hf] at hi'
          simp only [Bool.and_eq_true, decide_eq_true_eq, Bool.not_eq_true'] at hi'
          obtain ⟨a1, a2, a3⟩ := hi'
          have a4 : (s ||| 2 ^ p).testBit i = false := by
            rw [Nat.testBit_or, a2, Nat.testBit_two_pow]
            simp
            omega
          have a5 : fin n H (some i) (s ||| 2 ^ p) = false := by
            cases e9 : fin n H (some i) (s ||| 2 ^ p) with
            | false => rfl
            | true =>
              rw [(fin_iffb h2 hs).mpr (.inr ⟨p, hp, fun q => e (Option.some.inj q), hv, e9⟩)] at a3
              cases a3
          show (_ || _) = true
          rw [k_need_bit h2 hn hl hf', a4, a5]
          simp [a1]) 10
      omega
theorem qV_ex {S : aS} {fr : Option Nat} {p x : Nat} (h : qV n H S s fr p = some x) : canV n H s p = true ∧ ((p = n - 1 ∧ x = mns S fr p) ∨ (p ≠ n - 1 ∧ ∃ y, qOf n H S (s ||| 2 ^ p) (some p) = some y ∧ x = y + mns S fr p)) := by
  unfold qV qC at h
  by_cases hv : canV n H s p = true
  · rw [if_pos hv] at h
    refine ⟨hv, ?_⟩
    by_cases e : p = n - 1
    · rw [if_pos e] at h
      refine .inl ⟨e, ?_⟩
      have h9 : 0 + mns S fr p = x := Option.some.inj h
      omega
    · rw [if_neg e] at h
      cases e2 : qOf n H S (s ||| 2 ^ p) (some p) with
      | none => rw [e2] at h; cases h
      | some y =>
        rw [e2] at h
        exact .inr ⟨e, y, rfl, (Option.some.inj h).symm⟩
  · rw [if_neg hv] at h
    cases h
theorem k_quick {S : aS} (h2 : 2 ≤ n) (hn : n ≤ 10) (m : Nat) : ∀ s, s < 2 ^ (n - 1) → 2 ^ (n - 1) - s ≤ m → ∀ fr q, qOf n H S s fr = some q → (wOf n H s).2.2.1 ≤ q := by
  have hw : 2 ^ (n - 1) ≤ 2 ^ n := Nat.pow_le_pow_right (by decide) (by omega)
  induction m with
  | zero => intro s hs hm; omega
  | succ m ih =>
    intro s hs hm fr q hq
    rw [qOf_eq n H S hs] at hq
    obtain ⟨⟨p, hp, hx⟩, -⟩ := minO_some hq
    obtain ⟨hv, h⟩ := qV_ex hx
    have hm1 := mns_ge S fr p
    have hc : s.testBit (n - 1) = false := chest_of hs
    rcases h with ⟨e, ex⟩ | ⟨e, y, ey, ex⟩
    · have hH := (canV_s hv).2.2
      subst e
      have := k_few_le hn (Nat.lt_of_lt_of_le hs hw) hp (by rw [fewC_chest h2 (Nat.lt_of_lt_of_le hs hw) hc, if_pos hH])
      omega
    · have hg := or_gt (canV_s hv).1
      have hl := or_lt (k := n - 1) hs (p := p) (by omega)
      have h1 := ih (s ||| 2 ^ p) hl (by omega) (some p) y ey
      have hf : fin n H none (s ||| 2 ^ p) = true := by
        cases e9 : fin n H none (s ||| 2 ^ p) with
        | true => rfl
        | false =>
          rw [(qOf_none h2 hn (2 ^ (n - 1)) (s ||| 2 ^ p) hl (by omega) (some p)).mpr e9] at ey
          cases ey
      have h3 := k_few_le hn (Nat.lt_of_lt_of_le hs hw) hp (fewC_mk hv ((k_ord h2 hn (Nat.lt_of_lt_of_le hl hw)).mpr hf))
      omega
theorem fFirst_ex {P : Nat → Bool} : ∀ (d i : Nat), (∃ p, i ≤ p ∧ p < i + d ∧ P p = true) → ∃ j, i ≤ j ∧ j < i + d ∧ P j = true ∧ fFirst P d i = nI j ∧ ∀ k, i ≤ k → k < j → P k = false
  | 0, i, ⟨p, h1, h2, _⟩ => by omega
  | d + 1, i, ⟨p, h1, h2, h3⟩ => by
    unfold fFirst
    cases e : P i with
    | true => exact ⟨i, Nat.le_refl _, by omega, e, if_pos rfl, fun k a b => by omega⟩
    | false =>
      have hne : p ≠ i := fun q => by rw [q, e] at h3; cases h3
      obtain ⟨j, a1, a2, a3, a4, a5⟩ := fFirst_ex (P := P) d (i + 1) ⟨p, by omega, by omega, h3⟩
      refine ⟨j, by omega, by omega, a3, (if_neg (by decide)).trans a4, fun k b1 b2 => ?_⟩
      by_cases q : k = i
      · rw [q]; exact e
      · exact a5 k (by omega) b2
theorem k_sh (h2 : 2 ≤ n) (hn : n ≤ 10) (hs : s < 2 ^ n) (hc : s.testBit (n - 1) = false) (hf : fin n H none s = true) : ∃ j, j < n ∧ (safe n H s).testBit j = true ∧ (wOf n H (s ||| 2 ^ j)).2.2.1 + 1 = (wOf n H s).2.2.1 ∧ shF n H s = nI j ∧ ∀ k, k < j → shP n H s k = false := by
  obtain ⟨p, -, hp, hP⟩ := shP_ex h2 hn hs (k_few_ex h2 hn hs hc hf)
  obtain ⟨j, -, b2, b3, b4, b5⟩ := fFirst_ex (P := shP n H s) n 0 ⟨p, Nat.zero_le _, by omega, hP⟩
  have b3' := b3
  unfold shP at b3'
  have b6 := Bool.and_eq_true_iff.mp b3'
  exact ⟨j, by omega, b6.1, of_decide_eq_true b6.2, b4, fun k hk => b5 k (Nat.zero_le _) hk⟩
theorem k_qk {S : aS} (h2 : 2 ≤ n) (hn : n ≤ 10) (hs : s < 2 ^ (n - 1)) (fr : Option Nat) (hf : fin n H none s = true) : ∃ m j, qOf n H S s fr = some m ∧ j < n ∧ (safe n H s).testBit j = true ∧ qV n H S s fr j = some m ∧ fFirst (fun p => decide (qV n H S s fr p = some m)) n 0 = nI j ∧ ∀ k, k < j → qV n H S s fr k ≠ some m := by
  cases e : qOf n H S s fr with
  | none =>
    rw [(qOf_none h2 hn (2 ^ (n - 1)) s hs (by omega) fr).mp e] at hf
    cases hf
  | some m =>
    have e2 := e
    rw [qOf_eq n H S hs] at e2
    obtain ⟨⟨p, hp, hx⟩, -⟩ := minO_some e2
    obtain ⟨j, -, b2, b3, b4, b5⟩ := fFirst_ex (P := fun p => decide (qV n H S s fr p = some m)) n 0 ⟨p, Nat.zero_le _, by omega, decide_eq_true hx⟩
    have b3' := of_decide_eq_true b3
    refine ⟨m, j, rfl, by omega, ?_, b3', b4, fun k hk => of_decide_eq_false (b5 k (Nat.zero_le _) hk)⟩
    cases e9 : (safe n H s).testBit j with
    | true => rfl
    | false =>
      rw [(qV_lead h2 hn hs fr (show j < n by omega)).2 e9] at b3'
      cases b3'
end KF
