/-! PURE: simulations. -/
def wk (n : Nat) (H : Nat → Nat → Bool) (S : aS) : Nat → List Nat → Nat → Int64 → List Nat × Nat × Int64
  | 0, l, m, x => (l, m, x)
  | d + 1, l, m, x => if opn n H (setOf l) = 0 then (l, m, x) else wk n H S d (l ++ [nthM (opn n H (setOf l)) 10 (drw (nxt x) (opn n H (setOf l))) 0]) (m + mns S l.getLast? (nthM (opn n H (setOf l)) 10 (drw (nxt x) (opn n H (setOf l))) 0)) (nxt x)
theorem wk_0 {n : Nat} {H : Nat → Nat → Bool} {S : aS} {d : Nat} {l : List Nat} {m : Nat} {x : Int64} (h0 : opn n H (setOf l) = 0) : wk n H S (d + 1) l m x = (l, m, x) := if_pos h0
theorem wk_1 {n : Nat} {H : Nat → Nat → Bool} {S : aS} {d : Nat} {l : List Nat} {m : Nat} {x : Int64} (h0 : ¬ opn n H (setOf l) = 0) : wk n H S (d + 1) l m x = wk n H S d (l ++ [nthM (opn n H (setOf l)) 10 (drw (nxt x) (opn n H (setOf l))) 0]) (m + mns S l.getLast? (nthM (opn n H (setOf l)) 10 (drw (nxt x) (opn n H (setOf l))) 0)) (nxt x) := if_neg h0
section WK
variable {tx : List Nat} {n : Nat} {hm : Nat → Nat} {S : aS} {L : List aS} {K : Nat → Option aS}
theorem drawn {H : Nat → Nat → Bool} {s : Nat} (hn : n ≤ 10) (h0 : opn n H s ≠ 0) (x : Int64) : nthM (opn n H s) 10 (drw x (opn n H s)) 0 < n ∧ canV n H s (nthM (opn n H s) 10 (drw x (opn n H s)) 0) = true := by
  have hO : opn n H s < 1024 := lt1024 opn_lt hn
  have hp := cnt_pos _ hO h0
  have hk10 := cnt_k (fun i => (opn n H s).testBit i) 10
  have hk : drw x (opn n H s) < cnt (fun i => (opn n H s).testBit i) 10 := Nat.mod_lt _ hp
  have hb := (nth_all _ hO _ (by omega) hk).2.1
  rw [opn_bit] at hb
  have h9 := Bool.and_eq_true_iff.mp hb
  exact ⟨of_decide_eq_true h9.1, h9.2⟩
theorem opn_full {H : Nat → Nat → Bool} {l : List Nat} (hn : n ≤ 10) (hl : okT n (l, 0, 0)) (h10 : 10 ≤ l.length) : opn n H (setOf l) = 0 := by
  apply Nat.eq_of_testBit_eq
  intro i
  rw [opn_bit]
  cases e : (decide (i < n) && canV n H (setOf l) i) with
  | false => simp
  | true =>
    have h9 := Bool.and_eq_true_iff.mp e
    have h8 := okT_len (okT_app (tm := (l, 0, 0)) hl (of_decide_eq_true h9.1) (canV_bit h9.2) 0 0)
    rw [List.length_append] at h8
    have h8 : l.length + 1 ≤ n := h8
    omega
theorem wk_ok {H : Nat → Nat → Bool} (hn : n ≤ 10) (okx : okX S) (d : Nat) : ∀ (l : List Nat) (m : Nat) (x : Int64), okT n (l, 0, 0) → m ≤ 19 * l.length → okT n ((wk n H S d l m x).1, 0, 0) ∧ (wk n H S d l m x).2.1 ≤ 19 * (wk n H S d l m x).1.length := by
  induction d with
  | zero => intro l m x hl hm9; exact ⟨hl, hm9⟩
  | succ d ih =>
    intro l m x hl hm9
    by_cases h0 : opn n H (setOf l) = 0
    · rw [wk_0 h0]; exact ⟨hl, hm9⟩
    · rw [wk_1 h0]
      obtain ⟨q1, q2⟩ := drawn (H := H) hn h0 (nxt x)
      refine ih _ _ _ (okT_app (tm := (l, 0, 0)) hl q1 (canV_bit q2) 0 0) ?_
      have := mns_le okx (fr := l.getLast?) (p := nthM (opn n H (setOf l)) 10 (drw (nxt x) (opn n H (setOf l))) 0) (by omega) (fun q hq => by
        have := hl.2 q (List.mem_of_getLast? hq); omega)
      rw [List.length_append]
      show _ ≤ 19 * (l.length + 1)
      omega
theorem wk_190 {H : Nat → Nat → Bool} (hn : n ≤ 10) (okx : okX S) (x : Int64) : (wk n H S 10 [] 0 x).2.1 ≤ 190 := by
  have hnil : okT n ([], 0, 0) := ⟨List.nodup_nil, fun p hp => by simp at hp⟩
  obtain ⟨a, b⟩ := wk_ok (H := H) hn okx 10 [] 0 x hnil (Nat.zero_le _)
  have := okT_len a
  have this : (wk n H S 10 [] 0 x).1.length ≤ n := this
  omega
/-- what the class's walk answers -/
def wkR (n : Nat) (r : List Nat × Nat × Int64) : Int32 := if (setOf r.1).testBit (n - 1) = true then nI r.2.1 else -9
theorem c_walk_e {g : gG} (h2 : 2 ≤ n) (hn : n ≤ 10) (hC : InvC tx n hm S L K g) {l : List Nat} (hl : okT n (l, 0, 0)) (m : Nat) (x : Int64) : fs_X4_walk_76 16 (nI (setOf l)) (nI m) g = some (wkR n (l, m, x), g) := by
  unfold fs_X4_walk_76 wkR
  rw [c_hasChest hC.2.1 h2 hn (lt1024 (setOf_lt hl.2) hn)]
  simp only [ob_eq]
  cases (setOf l).testBit (n - 1) with
  | true => rw [b2_t, if_neg one0, if_pos rfl]
  | false => rw [b2_f, if_pos zero0, if_neg (by decide)]
theorem c_walk_l (ok : okA tx n hm S L K) (d : Nat) : ∀ (g : gG) (l : List Nat) (m : Nat) fu, l.length + d = 10 → d < fu → InvC tx n hm S L K g → okT n (l, 0, 0) → ∃ g', fb_X4_walk_11 16 fu (nI (setOf l)) (frI l.getLast?) (nI m) (nI l.length) g = some (wkR n (wk n (effH hm S.2.2.1) S d l m (g.2 173 1)), g') ∧ g'.1 = g.1 ∧ g'.2 173 1 = (wk n (effH hm S.2.2.1) S d l m (g.2 173 1)).2.2 := by
  obtain ⟨o1, o2, h2, hn, o5, o6, o7, o8⟩ := id ok
  induction d with
  | zero =>
    intro g l m fu hi hf hC hl
    obtain ⟨fu, rfl⟩ : ∃ f', fu = f' + 1 := ⟨fu - 1, by omega⟩
    refine ⟨g, ?_, rfl, rfl⟩
    unfold fb_X4_walk_11 fs_X4_walk_11
    rw [if_pos (show (10 : Int32) ≤ nI l.length from nI_le (a := 10) (by omega) (by omega)), c_walk_e h2 hn hC hl]
    rfl
  | succ d ih =>
    intro g l m fu hi hf hC hl
    obtain ⟨fu, rfl⟩ : ∃ f', fu = f' + 1 := ⟨fu - 1, by omega⟩
    have h10 := lt1024 (setOf_lt hl.2) hn
    have hO : opn n (effH hm S.2.2.1) (setOf l) < 1024 := lt1024 opn_lt hn
    unfold fb_X4_walk_11 fs_X4_walk_11
    rw [if_neg (show ¬ ((10 : Int32) ≤ nI l.length) from nI_ge (b := 10) (by omega) (by decide)), c_eased hC.2.2.1]
    simp only [ob_eq]
    rw [c_openAfter hC.2.1 h2 hn o6.1 h10]
    simp only [ob_eq, gl_eq]
    by_cases h0 : opn n (effH hm S.2.2.1) (setOf l) = 0
    · rw [if_pos ((nI_z (by omega)).mpr h0)]
      refine ⟨g, ?_, rfl, ?_⟩
      · rw [c_walk_e h2 hn hC hl m (g.2 173 1)]
        rw [wk_0 h0]
      · rw [wk_0 h0]
    · obtain ⟨q1, q2⟩ := drawn (H := effH hm S.2.2.1) hn h0 (nxt (g.2 173 1))
      rw [if_neg (fun e => h0 ((nI_z (by omega)).mp e)), c_draw hO h0]
      simp only [ob_eq]
      have hC1 : InvC tx n hm S L K (gL1 g 173 1 (nxt (g.2 173 1))) := InvC_eq hC (fun j _ => rfl)
      have hfr : ∀ q, l.getLast? = some q → q < 10 := fun q hq => by
        have := hl.2 q (List.mem_of_getLast? hq); omega
      have em := c_minutes (X := S.1) (Y := S.2.1) (E := S.2.2.1) (T := S.2.2.2) hC1.2.2.1 o6 (f := l.getLast?) (p := nthM (opn n (effH hm S.2.2.1) (setOf l)) 10 (drw (nxt (g.2 173 1)) (opn n (effH hm S.2.2.1) (setOf l))) 0) (by omega) hfr
      rw [em]
      simp only [ob_eq]
      obtain ⟨g', e, a, b⟩ := ih (gL1 g 173 1 (nxt (g.2 173 1))) (l ++ [nthM (opn n (effH hm S.2.2.1) (setOf l)) 10 (drw (nxt (g.2 173 1)) (opn n (effH hm S.2.2.1) (setOf l))) 0]) (m + mns S l.getLast? (nthM (opn n (effH hm S.2.2.1) (setOf l)) 10 (drw (nxt (g.2 173 1)) (opn n (effH hm S.2.2.1) (setOf l))) 0)) fu (by rw [List.length_append]; show l.length + 1 + d = 10; omega) (by omega) hC1 (okT_app (tm := (l, 0, 0)) hl q1 (canV_bit q2) 0 0)
      rw [gL1_2] at e b
      refine ⟨g', ?_, a, ?_⟩
      · rw [nI_add, show (1 : Int32) <<< (nI (nthM (opn n (effH hm S.2.2.1) (setOf l)) 10 (drw (nxt (g.2 173 1)) (opn n (effH hm S.2.2.1) (setOf l))) 0) &&& 31) = nI (2 ^ (nthM (opn n (effH hm S.2.2.1) (setOf l)) 10 (drw (nxt (g.2 173 1)) (opn n (effH hm S.2.2.1) (setOf l))) 0)) from nI_shl1 (by omega), fa_or, nI_1, ← setOf_app]
        rw [List.getLast?_append, List.length_append] at e
        rw [wk_1 h0]
        exact e
      · rw [b]
        rw [wk_1 h0]
/-- the counts of all walks -/
def rn (n : Nat) (H : Nat → Nat → Bool) (S : aS) : Nat → Int32 → Int32 → Int64 → Int32 × Int32
  | 0, c, s, _ => (c, s)
  | d + 1, c, s, x => if (setOf (wk n H S 10 [] 0 x).1).testBit (n - 1) = true then rn n H S d (c + 1) (s + nI (wk n H S 10 [] 0 x).2.1) (wk n H S 10 [] 0 x).2.2 else rn n H S d c s (wk n H S 10 [] 0 x).2.2
theorem rn_1 {n : Nat} {H : Nat → Nat → Bool} {S : aS} {d : Nat} {c s : Int32} {x : Int64} (h : (setOf (wk n H S 10 [] 0 x).1).testBit (n - 1) = true) : rn n H S (d + 1) c s x = rn n H S d (c + 1) (s + nI (wk n H S 10 [] 0 x).2.1) (wk n H S 10 [] 0 x).2.2 := if_pos h
theorem rn_0 {n : Nat} {H : Nat → Nat → Bool} {S : aS} {d : Nat} {c s : Int32} {x : Int64} (h : (setOf (wk n H S 10 [] 0 x).1).testBit (n - 1) = false) : rn n H S (d + 1) c s x = rn n H S d c s (wk n H S 10 [] 0 x).2.2 := if_neg (by rw [h]; decide)
theorem wkR_1 {n : Nat} {r : List Nat × Nat × Int64} (h : (setOf r.1).testBit (n - 1) = true) : wkR n r = nI r.2.1 := if_pos h
theorem wkR_0 {n : Nat} {r : List Nat × Nat × Int64} (h : (setOf r.1).testBit (n - 1) = false) : wkR n r = -9 := if_neg (by rw [h]; decide)
def rnV (r : Int32 × Int32) : Int32 := (100000 : Int32) * r.1 + (if (99999 : Int32) < r.2 then 99999 else r.2)
theorem c_run_l (ok : okA tx n hm S L K) {M : Nat} (hM : M ≤ 50) (d : Nat) : ∀ (g : gG) i (c s : Int32) fu, i + d = M → d < fu → InvC tx n hm S L K g → ∃ g', fb_X4_run_14 16 fu (nI M) c s (nI i) g = some (rnV (rn n (effH hm S.2.2.1) S d c s (g.2 173 1)), g') ∧ g'.1 = g.1 := by
  obtain ⟨o1, o2, h2, hn, o5, o6, o7, o8⟩ := id ok
  have hnil : okT n ([], 0, 0) := ⟨List.nodup_nil, fun p hp => by simp at hp⟩
  induction d with
  | zero =>
    intro g i c s fu hi hf hC
    obtain ⟨fu, rfl⟩ : ∃ f', fu = f' + 1 := ⟨fu - 1, by omega⟩
    have e : i = M := by omega
    subst e
    refine ⟨g, ?_, rfl⟩
    unfold fb_X4_run_14 fs_X4_run_14
    rw [if_pos (nI_le (Nat.le_refl _) (by omega))]
    rfl
  | succ d ih =>
    intro g i c s fu hi hf hC
    obtain ⟨fu, rfl⟩ : ∃ f', fu = f' + 1 := ⟨fu - 1, by omega⟩
    obtain ⟨g1, e1, a1, b1⟩ := c_walk_l ok 10 g [] 0 gFuel rfl (by unfold gFuel; omega) hC hnil
    have e1 : f_X4_walk 16 g = some (wkR n (wk n (effH hm S.2.2.1) S 10 [] 0 (g.2 173 1)), g1) := e1
    have hC1 : InvC tx n hm S L K g1 := InvC_eq hC (fun j _ => by rw [a1])
    have hb := wk_190 (H := effH hm S.2.2.1) hn o6.2.2.1 (g.2 173 1)
    show ∃ g', fs_X4_run_14 16 (fb_X4_run_14 16 fu) (nI M) c s (nI i) g = _ ∧ _
    unfold fs_X4_run_14
    rw [if_neg (nI_ge (by omega) (by omega)), e1]
    simp only [ob_eq, gl_eq, nI_1]
    cases ec : (setOf (wk n (effH hm S.2.2.1) S 10 [] 0 (g.2 173 1)).1).testBit (n - 1) with
    | true =>
      obtain ⟨g2, e2, a2⟩ := ih g1 (i + 1) (c + 1) (s + nI (wk n (effH hm S.2.2.1) S 10 [] 0 (g.2 173 1)).2.1) fu (by omega) (by omega) hC1
      rw [b1] at e2
      refine ⟨g2, ?_, a2.trans a1⟩
      rw [wkR_1 ec, rn_1 ec, if_neg (nI_ne9 (by omega))]
      exact e2
    | false =>
      obtain ⟨g2, e2, a2⟩ := ih g1 (i + 1) c s fu (by omega) (by omega) hC1
      rw [b1] at e2
      refine ⟨g2, ?_, a2.trans a1⟩
      rw [wkR_0 ec, rn_0 ec, if_pos rfl]
      exact e2
end WK
