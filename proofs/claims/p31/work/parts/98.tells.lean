/-! PURE: a hunt is told. -/
section TEL
variable {tx : List Nat} {n : Nat} {hm : Nat → Nat} {S : aS} {L : List aS} {K : Nat → Option aS} {rd : aR} {A' : aA} {β : Type}
theorem okA_say (ok : okA tx n hm S L K) {c : Nat} (hc : c ≤ 255) (hl : tx.length < 120) : okA (tx ++ [c]) n hm S L K := by
  obtain ⟨o1, o2, o3⟩ := ok
  refine ⟨?_, ?_, o3⟩
  · rw [List.length_append]
    show tx.length + 1 ≤ 120
    omega
  · intro x hx
    rcases List.mem_append.mp hx with h | h
    · exact o2 x h
    · rw [List.mem_singleton.mp h]; omega
theorem L_says (ok : okA tx n hm S L K) {c : Nat} (hc : c ≤ 255) (hl : tx.length < 120) : AC (tx, n, hm, S, L, K, rd) (f_L_says (nI c)) 1 (tx ++ [c], n, hm, S, L, K, rd) := by
  have h := w_append (x_append (rd := rd) ok hc hl)
  rw [nI_l (show tx.length + 1 < 2 ^ 31 by omega)] at h
  unfold f_L_says
  refine AC.bd h ?_
  dsimp only
  refine AC.neg ?_ AC.ret
  rw [show (0 : Int64) = lN 0 from rfl, lcmp_le (by omega) (by decide)]
  omega
theorem AC.say (c : Nat) {y : Int32} (hy : y = nI c) {G : Int32 × gG → Option (β × gG)} {z : β} (ok : okA tx n hm S L K) (hc : c ≤ 255) (hl : tx.length < 120) (h : okA (tx ++ [c]) n hm S L K → AC (tx ++ [c], n, hm, S, L, K, rd) (fun g => G (1, g)) z A') : AC (tx, n, hm, S, L, K, rd) (fun g => (f_L_says y g).bind G) z A' := by
  subst hy
  exact AC.bd (L_says ok hc hl) (h (okA_say ok hc hl))
theorem app1 (l m : List Nat) (c : Nat) : (l ++ [c]) ++ m = l ++ (c :: m) := by rw [List.append_assoc]; rfl
variable {F : Int32 → Int32 → Int32 → Int32 → gG → Option (Int32 × gG)} {l1 l3 : Int32} {p v a b : Nat}
theorem t_166 (ok : okA tx n hm S L K) (hl : tx.length + 6 ≤ 120) (ha : a ≤ 255) (hb : b ≤ 255) (hv : v < 2 ^ 30) {k : Nat} (hk : k < 7) (hp : p < 2 ^ 30) (hF : okA (tx ++ cnd k a b (v / 7 % 2)) n hm S L K → AC (tx ++ cnd k a b (v / 7 % 2), n, hm, S, L, K, rd) (F l1 l3 1 (nI (p + 1))) 1 A') : AC (tx, n, hm, S, L, K, rd) (fs_L_tells_166 F l1 l3 1 (nI p) (nI v) (nI a) (nI b) (nI k)) 1 A' := by
  have e49 : (49 : Int32) + ((nI v / (7 : Int32)) - (nI v / (7 : Int32)) / (2 : Int32) * (2 : Int32)) = nI (49 + v / 7 % 2) := by
    rw [show nI v / (7 : Int32) = nI (v / 7) from pk_div (d := 7) (by omega) (by decide) (by decide), show nI (v / 7) - nI (v / 7) / (2 : Int32) * (2 : Int32) = nI (v / 7 % 2) from pk_rem (d := 2) (by have := Nat.div_le_self v 7; omega) (by decide) (by decide)]
    exact nI_add 49 _
  have he : v / 7 % 2 < 2 := Nat.mod_lt _ (by decide)
  generalize v / 7 % 2 = e at *
  have fin : ∀ tx', tx' = tx ++ cnd k a b e → okA tx' n hm S L K → AC (tx', n, hm, S, L, K, rd) (fs_L_tells_450 F l1 l3 (nI p)) 1 A' := by
    intro tx' htx ok'
    subst htx
    unfold fs_L_tells_450 fs_L_tells_455
    simp only [gl_eq, nI_s]
    exact hF ok'
  unfold fs_L_tells_166
  refine AC.neg (by decide) ?_
  have : k = 0 ∨ k = 1 ∨ k = 2 ∨ k = 3 ∨ k = 4 ∨ k = 5 ∨ k = 6 := by omega
  rcases this with rfl | rfl | rfl | rfl | rfl | rfl | rfl
  · refine AC.pos (show nI 0 = (0 : Int32) from rfl) ?_
    refine AC.say (42) rfl ok (by omega) (by omega) (fun ok => ?_)
    dsimp only
    refine AC.neg (by decide) ?_
    exact fin _ (by simp [cnd]) ok
  · refine AC.neg (show ¬ (nI 1 = (0 : Int32)) by decide) ?_
    refine AC.pos (show nI 1 = (1 : Int32) from rfl) ?_
    refine AC.say (a) rfl ok (by omega) (by omega) (fun ok => ?_)
    dsimp only
    refine AC.neg (by decide) ?_
    exact fin _ (by simp [cnd]) ok
  · refine AC.neg (show ¬ (nI 2 = (0 : Int32)) by decide) ?_
    refine AC.neg (show ¬ (nI 2 = (1 : Int32)) by decide) ?_
    refine AC.pos (show nI 2 = (2 : Int32) from rfl) ?_
    refine AC.say (33) rfl ok (by omega) (by omega) (fun ok => ?_)
    dsimp only
    refine AC.neg (by decide) ?_
    refine AC.say (a) rfl ok (by omega) (by simp only [List.length_append, List.length_cons, List.length_nil]; omega) (fun ok => ?_)
    dsimp only
    refine AC.neg (by decide) ?_
    exact fin _ (by simp [cnd]) ok
  · refine AC.neg (show ¬ (nI 3 = (0 : Int32)) by decide) ?_
    refine AC.neg (show ¬ (nI 3 = (1 : Int32)) by decide) ?_
    refine AC.neg (show ¬ (nI 3 = (2 : Int32)) by decide) ?_
    refine AC.pos (show nI 3 = (3 : Int32) from rfl) ?_
    refine AC.say (a) rfl ok (by omega) (by omega) (fun ok => ?_)
    dsimp only
    refine AC.neg (by decide) ?_
    refine AC.say (46) rfl ok (by omega) (by simp only [List.length_append, List.length_cons, List.length_nil]; omega) (fun ok => ?_)
    dsimp only
    refine AC.neg (by decide) ?_
    refine AC.say (b) rfl ok (by omega) (by simp only [List.length_append, List.length_cons, List.length_nil]; omega) (fun ok => ?_)
    dsimp only
    refine AC.neg (by decide) ?_
    exact fin _ (by simp [cnd]) ok
  · refine AC.neg (show ¬ (nI 4 = (0 : Int32)) by decide) ?_
    refine AC.neg (show ¬ (nI 4 = (1 : Int32)) by decide) ?_
    refine AC.neg (show ¬ (nI 4 = (2 : Int32)) by decide) ?_
    refine AC.neg (show ¬ (nI 4 = (3 : Int32)) by decide) ?_
    refine AC.pos (show nI 4 = (4 : Int32) from rfl) ?_
    refine AC.say (a) rfl ok (by omega) (by omega) (fun ok => ?_)
    dsimp only
    refine AC.neg (by decide) ?_
    refine AC.say (43) rfl ok (by omega) (by simp only [List.length_append, List.length_cons, List.length_nil]; omega) (fun ok => ?_)
    dsimp only
    refine AC.neg (by decide) ?_
    refine AC.say (33) rfl ok (by omega) (by simp only [List.length_append, List.length_cons, List.length_nil]; omega) (fun ok => ?_)
    dsimp only
    refine AC.neg (by decide) ?_
    refine AC.say (33) rfl ok (by omega) (by simp only [List.length_append, List.length_cons, List.length_nil]; omega) (fun ok => ?_)
    dsimp only
    refine AC.neg (by decide) ?_
    refine AC.say (b) rfl ok (by omega) (by simp only [List.length_append, List.length_cons, List.length_nil]; omega) (fun ok => ?_)
    dsimp only
    refine AC.neg (by decide) ?_
    exact fin _ (by simp [cnd]) ok
  · refine AC.neg (show ¬ (nI 5 = (0 : Int32)) by decide) ?_
    refine AC.neg (show ¬ (nI 5 = (1 : Int32)) by decide) ?_
    refine AC.neg (show ¬ (nI 5 = (2 : Int32)) by decide) ?_
    refine AC.neg (show ¬ (nI 5 = (3 : Int32)) by decide) ?_
    refine AC.neg (show ¬ (nI 5 = (4 : Int32)) by decide) ?_
    refine AC.pos (show nI 5 = (5 : Int32) from rfl) ?_
    refine AC.say (49 + e) e49 ok (by omega) (by omega) (fun ok => ?_)
    dsimp only
    refine AC.neg (by decide) ?_
    refine AC.say (91) rfl ok (by omega) (by simp only [List.length_append, List.length_cons, List.length_nil]; omega) (fun ok => ?_)
    dsimp only
    refine AC.neg (by decide) ?_
    refine AC.say (a) rfl ok (by omega) (by simp only [List.length_append, List.length_cons, List.length_nil]; omega) (fun ok => ?_)
    dsimp only
    refine AC.neg (by decide) ?_
    refine AC.say (44) rfl ok (by omega) (by simp only [List.length_append, List.length_cons, List.length_nil]; omega) (fun ok => ?_)
    dsimp only
    refine AC.neg (by decide) ?_
    refine AC.say (b) rfl ok (by omega) (by simp only [List.length_append, List.length_cons, List.length_nil]; omega) (fun ok => ?_)
    dsimp only
    refine AC.neg (by decide) ?_
    refine AC.say (93) rfl ok (by omega) (by simp only [List.length_append, List.length_cons, List.length_nil]; omega) (fun ok => ?_)
    dsimp only
    refine AC.neg (by decide) ?_
    exact fin _ (by simp [cnd]) ok
  · refine AC.neg (show ¬ (nI 6 = (0 : Int32)) by decide) ?_
    refine AC.neg (show ¬ (nI 6 = (1 : Int32)) by decide) ?_
    refine AC.neg (show ¬ (nI 6 = (2 : Int32)) by decide) ?_
    refine AC.neg (show ¬ (nI 6 = (3 : Int32)) by decide) ?_
    refine AC.neg (show ¬ (nI 6 = (4 : Int32)) by decide) ?_
    refine AC.neg (show ¬ (nI 6 = (5 : Int32)) by decide) ?_
    refine AC.say (33) rfl ok (by omega) (by omega) (fun ok => ?_)
    dsimp only
    refine AC.neg (by decide) ?_
    refine AC.say (40) rfl ok (by omega) (by simp only [List.length_append, List.length_cons, List.length_nil]; omega) (fun ok => ?_)
    dsimp only
    refine AC.neg (by decide) ?_
    refine AC.say (a) rfl ok (by omega) (by simp only [List.length_append, List.length_cons, List.length_nil]; omega) (fun ok => ?_)
    dsimp only
    refine AC.neg (by decide) ?_
    refine AC.say (46) rfl ok (by omega) (by simp only [List.length_append, List.length_cons, List.length_nil]; omega) (fun ok => ?_)
    dsimp only
    refine AC.neg (by decide) ?_
    refine AC.say (b) rfl ok (by omega) (by simp only [List.length_append, List.length_cons, List.length_nil]; omega) (fun ok => ?_)
    dsimp only
    refine AC.neg (by decide) ?_
    refine AC.say (41) rfl ok (by omega) (by simp only [List.length_append, List.length_cons, List.length_nil]; omega) (fun ok => ?_)
    dsimp only
    refine AC.neg (by decide) ?_
    exact fin _ (by simp [cnd]) ok
theorem t_100 (ok : okA tx n hm S L K) (hl : tx.length + 9 ≤ 120) (ha : a ≤ 255) (hb : b ≤ 255) (hv : v < 2 ^ 30) (hp : p < 2 ^ 30) {y1 y2 : Int32} (hy : y1 + y2 = nI b) (hF : okA (tx ++ ([47, 48 + v % 10, 48 + v / 10 % 10] ++ cnd (if p = 0 then 0 else v % 7) a b (v / 7 % 2))) n hm S L K → AC (tx ++ ([47, 48 + v % 10, 48 + v / 10 % 10] ++ cnd (if p = 0 then 0 else v % 7) a b (v / 7 % 2)), n, hm, S, L, K, rd) (F l1 l3 1 (nI (p + 1))) 1 A') : AC (tx, n, hm, S, L, K, rd) (fs_L_tells_100 F l1 l3 (nI p) (nI v) (nI a) y1 y2) 1 A' := by
  have e1 : (48 : Int32) + (nI v - nI v / (10 : Int32) * (10 : Int32)) = nI (48 + v % 10) := by
    rw [show nI v - nI v / (10 : Int32) * (10 : Int32) = nI (v % 10) from pk_rem (d := 10) (by omega) (by decide) (by decide)]
    exact nI_add 48 _
  have e2 : (48 : Int32) + ((nI v / (10 : Int32)) - (nI v / (10 : Int32)) / (10 : Int32) * (10 : Int32)) = nI (48 + v / 10 % 10) := by
    rw [show nI v / (10 : Int32) = nI (v / 10) from pk_div (d := 10) (by omega) (by decide) (by decide), show nI (v / 10) - nI (v / 10) / (10 : Int32) * (10 : Int32) = nI (v / 10 % 10) from pk_rem (d := 10) (by have := Nat.div_le_self v 10; omega) (by decide) (by decide)]
    exact nI_add 48 _
  have e7 : nI v - nI v / (7 : Int32) * (7 : Int32) = nI (v % 7) := pk_rem (d := 7) (by omega) (by decide) (by decide)
  unfold fs_L_tells_100
  refine AC.le hy ?_
  refine AC.say 47 rfl ok (by omega) (by omega) (fun ok => ?_)
  dsimp only
  refine AC.neg (by decide) (AC.say (48 + v % 10) e1 ok (by omega) (by simp only [List.length_append, List.length_cons, List.length_nil]; omega) (fun ok => ?_))
  dsimp only
  refine AC.neg (by decide) (AC.say (48 + v / 10 % 10) e2 ok (by omega) (by simp only [List.length_append, List.length_cons, List.length_nil]; omega) (fun ok => ?_))
  dsimp only
  refine AC.neg (by decide) ?_
  have hl2 : ((tx ++ [47]) ++ [48 + v % 10] ++ [48 + v / 10 % 10]).length + 6 ≤ 120 := by simp only [List.length_append, List.length_cons, List.length_nil]; omega
  have ea : ∀ m : List Nat, ((tx ++ [47]) ++ [48 + v % 10] ++ [48 + v / 10 % 10]) ++ m = tx ++ ([47, 48 + v % 10, 48 + v / 10 % 10] ++ m) := fun m => by simp
  unfold fs_L_tells_150
  by_cases h0 : p = 0
  · subst h0
    refine AC.pos rfl (t_166 ok hl2 ha hb hv (k := 0) (by decide) (by decide) ?_)
    rw [ea]
    exact hF
  · refine AC.neg (fun e => h0 ((nI_z (by omega)).mp e)) ?_
    rw [e7]
    refine t_166 ok hl2 ha hb hv (Nat.mod_lt _ (by decide)) hp ?_
    rw [ea]
    rw [if_neg h0] at hF
    exact hF
theorem t_78 (ok : okA tx n hm S L K) (hl : tx.length + 9 ≤ 120) (hv : v < 2 ^ 30) (hp : p ≤ 10) {qa : Nat} (hqa : qa ≤ 10) {y1 y2 : Int32} (hy : y1 + y2 = nI (97 + qa)) (hF : okA (tx ++ ([47, 48 + v % 10, 48 + v / 10 % 10] ++ cnd (if p = 0 then 0 else v % 7) (97 + qa) (97 + (if p = 0 then 0 else v / 80 % p)) (v / 7 % 2))) n hm S L K → AC (tx ++ ([47, 48 + v % 10, 48 + v / 10 % 10] ++ cnd (if p = 0 then 0 else v % 7) (97 + qa) (97 + (if p = 0 then 0 else v / 80 % p)) (v / 7 % 2)), n, hm, S, L, K, rd) (F l1 l3 1 (nI (p + 1))) 1 A') : AC (tx, n, hm, S, L, K, rd) (fs_L_tells_78 F l1 l3 (nI p) (nI v) y1 y2) 1 A' := by
  unfold fs_L_tells_78
  refine AC.le hy ?_
  by_cases h0 : p = 0
  · subst h0
    exact AC.pos rfl (t_100 ok hl (by omega) (b := 97) (by decide) hv (by decide) rfl hF)
  · have hz : ¬ (nI p = (0 : Int32)) := fun e => h0 ((nI_z (by omega)).mp e)
    have hm : v / 80 % p < p := Nat.mod_lt _ (by omega)
    refine AC.neg hz (AC.neg hz ?_)
    have ey : (97 : Int32) + ((nI v / (80 : Int32)) - (nI v / (80 : Int32)) / nI p * nI p) = nI (97 + (if p = 0 then 0 else v / 80 % p)) := by
      rw [if_neg h0, show nI v / (80 : Int32) = nI (v / 80) from pk_div (d := 80) (by omega) (by decide) (by decide), pk_rem (by have := Nat.div_le_self v 80; omega) (by omega) (by omega)]
      exact nI_add 97 _
    exact t_100 ok hl (by omega) (by rw [if_neg h0]; omega) hv (by omega) ey hF
theorem t_33 {x many : Nat} (hx : x < 2 ^ 31) (hm10 : many ≤ 10) (r : Nat) : ∀ (p fu : Nat) (tx : List Nat), p + r = many → r < fu → okA tx n hm S L K → rdok rd → tx.length + 9 * r ≤ 120 → (∃ D, (pT (tx ++ plas x r p)).2 = some D) → AC (tx, n, hm, S, L, K, rd) (fb_L_tells_33 fu (nI x) (nI many) 1 (nI p)) 1 (tx ++ plas x r p, n, hm, S, L, K, pTR (tx ++ plas x r p) rd) := by
  induction r with
  | zero =>
    intro p fu tx hp hf ok hr hl hD
    obtain ⟨fu, rfl⟩ : ∃ f', fu = f' + 1 := ⟨fu - 1, by omega⟩
    have e0 : tx ++ plas x 0 p = tx := List.append_nil tx
    rw [e0] at hD ⊢
    obtain ⟨D, hD⟩ := hD
    unfold fb_L_tells_33 fs_L_tells_33
    refine AC.pos (show nI many ≤ nI p from nI_le (by omega) (by omega)) ?_
    unfold fs_L_tells_463
    refine AC.neg (by decide) (AC.bd (x_err ok hr).1 ?_)
    dsimp only
    exact AC.pos (by rw [hD]; exact if_neg (by simp)) AC.ret
  | succ r ih =>
    intro p fu tx hp hf ok hr hl hD
    obtain ⟨fu, rfl⟩ : ∃ f', fu = f' + 1 := ⟨fu - 1, by omega⟩
    have hv : vOf x p < 2 ^ 30 := by
      have : x / 2 ^ p % 65536 < 65536 := Nat.mod_lt _ (by decide)
      unfold vOf
      omega
    have ev : ((nI x >>> (nI p &&& (31 : Int32))) &&& (65535 : Int32)) + ((31 : Int32) * nI p) = nI (vOf x p) := by
      rw [show nI x >>> (nI p &&& (31 : Int32)) = nI (x / 2 ^ p) from nI_shr hx (by omega), show nI (x / 2 ^ p) &&& (65535 : Int32) = nI (x / 2 ^ p % 65536) from fa_mask _ 16, show (31 : Int32) * nI p = nI (31 * p) from pk_mul 31 p, nI_add]
      rfl
    have ea : ∀ m : List Nat, tx ++ (pla (vOf x p) p ++ m) = (tx ++ pla (vOf x p) p) ++ m := fun m => (List.append_assoc _ _ _).symm
    have hpl : (pla (vOf x p) p).length ≤ 9 := by
      unfold pla
      rw [List.length_append]
      have := cnd_len (if p = 0 then 0 else vOf x p % 7) (97 + (if p = 0 then 0 else vOf x p / 8 % p)) (97 + (if p = 0 then 0 else vOf x p / 80 % p)) (vOf x p / 7 % 2)
      show 3 + _ ≤ 9
      omega
    have hgo : okA (tx ++ pla (vOf x p) p) n hm S L K → AC (tx ++ pla (vOf x p) p, n, hm, S, L, K, rd) (fb_L_tells_33 fu (nI x) (nI many) 1 (nI (p + 1))) 1 (tx ++ plas x (r + 1) p, n, hm, S, L, K, pTR (tx ++ plas x (r + 1) p) rd) := by
      intro ok'
      have hD : ∃ D, (pT (tx ++ (pla (vOf x p) p ++ plas x r (p + 1)))).2 = some D := hD
      show AC _ _ _ (tx ++ (pla (vOf x p) p ++ plas x r (p + 1)), n, hm, S, L, K, pTR (tx ++ (pla (vOf x p) p ++ plas x r (p + 1))) rd)
      rw [ea] at hD ⊢
      exact ih (p + 1) fu (tx ++ pla (vOf x p) p) (by omega) (by omega) ok' hr (by rw [List.length_append]; omega) hD
    unfold fb_L_tells_33 fs_L_tells_33
    refine AC.neg (show ¬ (nI many ≤ nI p) from nI_ge (by omega) (by omega)) (AC.neg (by decide) (AC.le ev ?_))
    by_cases h0 : p = 0
    · subst h0
      exact AC.pos rfl (t_78 ok (by omega) hv (by decide) (qa := 0) (by decide) rfl hgo)
    · have hz : ¬ (nI p = (0 : Int32)) := fun e => h0 ((nI_z (by omega)).mp e)
      have hm : vOf x p / 8 % p < p := Nat.mod_lt _ (by omega)
      refine AC.neg hz (AC.neg hz ?_)
      have ey : (97 : Int32) + ((nI (vOf x p) / (8 : Int32)) - (nI (vOf x p) / (8 : Int32)) / nI p * nI p) = nI (97 + vOf x p / 8 % p) := by
        rw [show nI (vOf x p) / (8 : Int32) = nI (vOf x p / 8) from pk_div (d := 8) (by omega) (by decide) (by decide), pk_rem (by have := Nat.div_le_self (vOf x p) 8; omega) (by omega) (by omega)]
        exact nI_add 97 _
      refine t_78 ok (by omega) hv (by omega) (by omega) ey ?_
      have hgo2 := hgo
      unfold pla at hgo2
      rw [if_neg (h0 : ¬ p = 0)] at hgo2
      rw [if_neg (h0 : ¬ p = 0)] at hgo2 ⊢
      exact hgo2
theorem L_tells (ok : okA tx n hm S L K) (hr : rdok rd) {x y : Nat} (hx : x < 2 ^ 31) (hy : y < 2 ^ 31) : AC (tx, n, hm, S, L, K, rd) (f_L_tells (nI x) (nI y)) 1 (txtOf x (2 + y % 9), n, hm, S, L, K, pTR (txtOf x (2 + y % 9)) rd) := by
  have h9 : y % 9 < 9 := Nat.mod_lt _ (by decide)
  have em : (2 : Int32) + (nI y - nI y / (9 : Int32) * (9 : Int32)) = nI (2 + y % 9) := by
    rw [show nI y - nI y / (9 : Int32) * (9 : Int32) = nI (y % 9) from pk_rem (d := 9) hy (by decide) (by decide)]
    exact nI_add 2 _
  have ok0 : okA [] n hm S L K := ⟨by simp, fun c hc => by simp at hc, ok.2.2⟩
  unfold f_L_tells
  refine AC.le em (AC.bd (x_clearText ok) ?_)
  dsimp only
  refine AC.neg (nI_pos (by have := ok.1; omega)) ?_
  refine AC.say 72 rfl ok0 (by decide) (by decide) (fun ok => ?_)
  dsimp only
  refine AC.neg (by decide) ?_
  unfold fs_L_tells_28
  exact t_33 hx (by omega) (2 + y % 9) 0 gFuelL [72] (by omega) (by unfold gFuelL; omega) ok hr (by show 1 + _ ≤ 120; omega) (txt_ok (by omega) (by omega))
end TEL
