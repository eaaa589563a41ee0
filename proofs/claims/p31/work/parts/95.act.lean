/-! PURE: one random call of the law: answered, and what holds of every state holds behind it. -/
section EXC
variable {A A1 : aA} {B B' : Nat} {α : Type}
theorem EX.id {X : gG → Option (Int64 × gG)} (h : EX B B' A X) : EX B B' A (fun g => (X g).bind (fun u => some (u.1, u.2))) := by
  obtain ⟨v, A', h1, h2⟩ := h
  exact ⟨v, A', h1, AC.bd h2 AC.ret⟩
theorem EX.bd {X : gG → Option (α × gG)} {v : α} {G : α × gG → Option (Int64 × gG)} (h1 : AC A X v A) (h2 : EX B B' A (fun g => G (v, g))) : EX B B' A (fun g => (X g).bind G) := by
  obtain ⟨z, A', k1, k2⟩ := h2
  exact ⟨z, A', k1, AC.bd h1 k2⟩
theorem EX.any {c : Prop} {d : gG → Decidable c} {X Y : gG → Option (Int64 × gG)} (h1 : EX B B' A X) (h2 : EX B B' A Y) : EX B B' A (fun g => @ite _ c (d g) (X g) (Y g)) := by
  by_cases hc : c
  · obtain ⟨z, A', k1, k2⟩ := h1
    exact ⟨z, A', k1, AC.pos hc k2⟩
  · obtain ⟨z, A', k1, k2⟩ := h2
    exact ⟨z, A', k1, AC.neg hc k2⟩
theorem EX.pos {c : Prop} {d : gG → Decidable c} {X Y : gG → Option (Int64 × gG)} (hc : c) (h1 : EX B B' A X) : EX B B' A (fun g => @ite _ c (d g) (X g) (Y g)) := by
  obtain ⟨z, A', k1, k2⟩ := h1
  exact ⟨z, A', k1, AC.pos hc k2⟩
theorem EX.neg {c : Prop} {d : gG → Decidable c} {X Y : gG → Option (Int64 × gG)} (hc : ¬ c) (h1 : EX B B' A Y) : EX B B' A (fun g => @ite _ c (d g) (X g) (Y g)) := by
  obtain ⟨z, A', k1, k2⟩ := h1
  exact ⟨z, A', k1, AC.neg hc k2⟩
theorem has_any (a : Int64) (p : Int32) : ∃ v, ∀ A, AC A (f_L_has a p) v A := by
  by_cases h : (lg_cmp ((a >>> (p.toInt64 &&& 63)) &&& (1 : Int64)) (1 : Int64)) = (0 : Int32)
  · exact ⟨1, fun A g hg => ⟨g, by unfold f_L_has; rw [if_pos h], hg⟩⟩
  · exact ⟨0, fun A g hg => ⟨g, by unfold f_L_has; rw [if_neg h], hg⟩⟩
end EXC
section ACTS
variable {tx : List Nat} {n : Nat} {hm : Nat → Nat} {X Y : Nat → Nat} {E : Nat} {T : List aT} {L : List aS} {K : Nat → Option aS} {rd : aR} {B : Nat}
theorem e_237 (h : okQ B tx n hm (X, Y, E, T) L K rd) (l3 l4 : Int32) : EX B (B + 1) (tx, n, hm, (X, Y, E, T), L, K, rd) (fs_L_act_237 l3 l4 (nI n)) := by
  obtain ⟨o1, o2, h2, hn, o5, o6, o7, o8⟩ := h.1
  unfold fs_L_act_237
  refine EX.neg (fun e => ?_) (EX.id (e_go h _ _))
  have := (nI_z (a := n) (by omega)).mp e
  omega
theorem e_190 (h : okQ B tx n hm (X, Y, E, T) L K rd) (l2 l3 : Int32) (l6 : Int64) (d : Nat) : ∀ i l4 fu, i + d = n → d < fu → EX B (B + 1) (tx, n, hm, (X, Y, E, T), L, K, rd) (fb_L_act_190 fu l2 l3 l4 (nI n) l6 (nI i)) := by
  obtain ⟨o1, o2, h2, hn, o5, o6, o7, o8⟩ := h.1
  induction d with
  | zero =>
    intro i l4 fu hi hf
    obtain ⟨fu, rfl⟩ : ∃ f', fu = f' + 1 := ⟨fu - 1, by omega⟩
    unfold fb_L_act_190 fs_L_act_190
    exact EX.pos (show nI n ≤ nI i from nI_le (by omega) (by omega)) (e_237 h _ _)
  | succ d ih =>
    intro i l4 fu hi hf
    obtain ⟨fu, rfl⟩ : ∃ f', fu = f' + 1 := ⟨fu - 1, by omega⟩
    obtain ⟨v, hv⟩ := has_any l6 (l4 - l4 / nI n * nI n)
    unfold fb_L_act_190 fs_L_act_190
    refine EX.neg (show ¬ (nI n ≤ nI i) from nI_ge (by omega) (by omega)) (EX.bd (L_in _ _ _) ?_)
    dsimp only
    refine EX.any (e_237 h _ _) (EX.any (e_237 h _ _) (EX.neg (fun e => ?_) (EX.bd (hv _) ?_)))
    · have := (nI_z (a := n) (by omega)).mp e
      omega
    · dsimp only
      refine EX.any ?_ (e_237 h _ _)
      simp only [gl_eq, nI_s]
      exact ih (i + 1) (l4 + 1) fu (by omega) (by omega)
theorem e_act0 (h : okQ B tx n hm (X, Y, E, T) L K rd) (a1 a2 : Int32) : EX B (B + 1) (tx, n, hm, (X, Y, E, T), L, K, rd) (f_L_act a1 a2) := by
  obtain ⟨o1, o2, h2, hn, o5, o6, o7, o8⟩ := h.1
  have e64 : EX B (B + 1) (tx, n, hm, (X, Y, E, T), L, K, rd) fs_L_act_64 := by
    unfold fs_L_act_64
    exact EX.id (e_addTeam h)
  have e69 : ∀ x, EX B (B + 1) (tx, n, hm, (X, Y, E, T), L, K, rd) (fs_L_act_69 x) := fun x => by
    unfold fs_L_act_69
    exact EX.id (e_hint h x)
  have hop : ∀ x, ∃ v, AC (tx, n, hm, (X, Y, E, T), L, K, rd) (f_L_open x) v (tx, n, hm, (X, Y, E, T), L, K, rd) := fun x => by
    cases hT : isT (X, Y, E, T) x with
    | false => exact ⟨_, w_open3 (x_open_no h.1 hT)⟩
    | true =>
      obtain ⟨t, ht, rfl⟩ := isT_t hT o6.2.1
      obtain ⟨tm, htm⟩ := get_lt ht
      exact ⟨_, w_open (x_open h.1 htm)⟩
  unfold f_L_act
  simp only [gl_eq]
  refine EX.any e64 (EX.any e64 (EX.any e64 (EX.any (e69 _) (EX.any (e69 _) (EX.any (EX.id (e_giveUp h _)) (EX.any (EX.id (e_move h _ _ _)) (EX.any (EX.any (EX.id (e_ease h _)) (EX.id (e_addTeam h))) (EX.any (EX.id (e_undo h)) (EX.any (EX.any (EX.id (e_save h _)) (EX.id (e_restore h _))) ?_)))))))))
  obtain ⟨v, hv⟩ := hop (a2 - a2 / 4 * 4)
  refine EX.bd (w_about (x_about0 h.1)) ?_
  dsimp only
  refine EX.bd hv ?_
  dsimp only
  have e2 : (nI n).toInt64.toInt32 = nI n := by rw [nI_l (by omega), lN_i]
  rw [e2]
  exact e_190 h _ _ _ n 0 _ gFuelL (by omega) (by unfold gFuelL; omega)
end ACTS
theorem e_act {tx : List Nat} {n : Nat} {hm : Nat → Nat} {S : aS} {L : List aS} {K : Nat → Option aS} {rd : aR} {B : Nat} (h : okQ B tx n hm S L K rd) (a1 a2 : Int32) : EX B (B + 1) (tx, n, hm, S, L, K, rd) (f_L_act a1 a2) := by
  obtain ⟨X, Y, E, T⟩ := S
  exact e_act0 h a1 a2
