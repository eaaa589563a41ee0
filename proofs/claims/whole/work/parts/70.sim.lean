/-! PURE: simulations. -/
def wk (n : Nat) (H : Nat → Nat → Bool) (S : aS) : Nat → List Nat → Nat → Int64 → List Nat × Nat × Int64
  | 0, l, m, x => (l, m, x)
  | d + 1, l, m, x => if opn n H (setOf l) = 0 then (l, m, x) else wk n H S d (l ++ [nthM (opn n H (setOf l)) 10 (drw (nxt x) (opn n H (setOf l))) 0]) (m + mns S l.getLast? (nthM (opn n H (setOf l)) 10 (drw (nxt x) (opn n H (setOf l))) 0)) (nxt x)
theorem wk_0 {n : Nat} {H : Nat → Nat → Bool} {S : aS} {d : Nat} {l : List Nat} {m : Nat} {x : Int64} (h0 : opn n H (setOf l) = 0) : wk n H S (d + 1) l m x = (l, m, x) := if_pos h0
theorem wk_1 {n : Nat} {H : Nat → Nat → Bool} {S : aS} {d : Nat} {l : List Nat} {m : Nat} {x : Int64} (h0 : ¬ opn n H (setOf l) = 0) : wk n H S (d + 1) l m x = wk n H S d (l ++ [nthM (opn n H (setOf l)) 10 (drw (nxt x) (opn n H (setOf l))) 0]) (m + mns S l.getLast? (nthM (opn n H (setOf l)) 10 (drw (nxt x) (opn n H (setOf l))) 0)) (nxt x) := if_neg h0
section WK
variable {tx : List Nat} {n : Nat} {hm : Nat → Nat} {S : aS} {L : List aS} {K : Nat → Option aS}
theorem drawn {H : Nat → Nat → Bool} {s : Nat} (hn : n ≤ 10) (h0 : opn n H s ≠ 0) (x : Int64) : nthM (opn n H s) 10 (drw x (opn n H s)) 0 < n ∧ canV n H s (nthM (opn n H s) 10 (drw x (opn n H s)) 0) = true := by
  have hO : opn n H s < 1024 := lt1024 opn_lt hn
  have hp := cnt_pos _ hO h0
  have hk10 := cnt_k (fun i => (opn n H s).testBit i) 10
  have hk : drw x (opn n H s) < cnt (fun i => (opn n H s).testBit i) 10 := Nat.mod_lt _ hp
  have hb := (nth_all _ hO _ (by omega) hk).2.1
  rw [opn_bit] at hb
  have h9 := Bool.and_eq_true_iff.mp hb
  exact ⟨of_decide_eq_true h9.1, h9.2⟩
theorem opn_full {H : Nat → Nat → Bool} {l : List Nat} (hn : n ≤ 10) (hl : okT n (l, 0, 0)) (h10 : 10 ≤ l.length) : opn n H (setOf l) = 0 := by
  apply Nat.eq_of_testBit_eq
  intro i
  rw [opn_bit]
  cases e : (decide (i < n) && canV n H (setOf l) i) with
  | false => simp
  | true =>
    have h9 := Bool.and_eq_true_iff.mp e
    have h8 := okT_len (okT_app (tm := (l, 0, 0)) hl (of_decide_eq_true h9.1) (canV_bit h9.2) 0 0)
    rw [List.length_append] at h8
    have h8 : l.length + 1 ≤ n := h8
    omega
theorem wk_ok {H : Nat → Nat → Bool} (hn : n ≤ 10) (okx : okX S) (d : Nat) : ∀ (l : List Nat) (m : Nat) (x : Int64), okT n (l, 0, 0) → m ≤ 19 * l.length → okT n ((wk n H S d l m x).1, 0, 0) ∧ (wk n H S d l m x).2.1 ≤ 19 * (wk n H S d l m x).1.length := by
  induction d with
  | zero => intro l m x hl hm9; exact ⟨hl, hm9⟩
  | succ d ih =>
    intro l m x hl hm9
    by_cases h0 : opn n H (setOf l) = 0
    · rw [wk_0 h0]; exact ⟨hl, hm9⟩
    · rw [wk_1 h0]
      obtain ⟨q1, q2⟩ := drawn (H := H) hn h0 (nxt x)
      refine ih _ _ _ (okT_app (tm := (l, 0, 0)) hl q1 (canV_bit q2) 0 0) ?_
      have := mns_le okx (fr := l.getLast?) (p := nthM (opn n H (setOf l)) 10 (drw (nxt x) (opn n H (setOf l))) 0) (by omega) (fun q hq => by
        have := hl.2 q (List.mem_of_getLast? hq); omega)
      rw [List.length_append]
      show _ ≤ 19 * (l.length + 1)
      omega
theorem wk_190 {H : Nat → Nat → Bool} (hn : n ≤ 10) (okx : okX S) (x : Int64) : (wk n H S 10 [] 0 x).2.1 ≤ 190 := by
  have hnil : okT n ([], 0, 0) := ⟨List.nodup_nil, fun p hp => by simp at hp⟩
  obtain ⟨a, b⟩ := wk_ok (H := H) hn okx 10 [] 0 x hnil (Nat.zero_le _)
  have := okT_len a
  have this : (wk n H S 10 [] 0 x).1.length ≤ n := this
  omega
/-- what the class's walk answers -/
def wkR (n : Nat) (r : List Nat × Nat × Int64) : Int32 := if (setOf r.1).testBit (n - 1) = true then nI r.2.1 else -9
theorem c_walk_e {g : gG} (h2 : 2 ≤ n) (hn : n ≤ 10) (hC : InvC tx n hm S L K g) {l : List Nat} (hl : okT n (l, 0, 0)) (m : Nat) (x : Int64) : fs_X4_walk_76 16 (nI (setOf l)) (nI m) g = some (wkR n (l, m, x), g) := by
  unfold fs_X4_walk_76 wkR
  rw [c_hasChest hC.2.1 h2 hn (lt1024 (setOf_lt hl.2) hn)]
  simp only [ob_eq]
  cases (setOf l).testBit (n - 1) with
  | true => rw [b2_t, if_neg one0, if_pos rfl]
  | false => rw [b2_f, if_pos zero0, if_neg (by decide)]
theorem c_walk_l (ok : okA tx n hm S L K) (d : Nat) : ∀ (g : gG) (l : List Nat) (m : Nat) fu, l.length + d = 10 → d < fu → InvC tx n hm S L K g → okT n (l, 0, 0) → ∃ g', fb_X4_walk_11 16 fu (nI (setOf l)) (frI l.getLast?) (nI m) (nI l.length) g = some (wkR n (wk n (effH hm S.2.2.1) S d l m (g.2 173 1)), g') ∧ g'.1 = g.1 ∧ g'.2 173 1 = (wk n (effH hm S.2.2.1) S d l m (g.2 173 1)).2.2 := by
  obtain ⟨o1, o2, h2, hn, o5, o6, o7, o8⟩ := id ok
  induction d with
  | zero =>
    intro g l m fu hi hf hC hl
    obtain ⟨fu, rfl⟩ : ∃ f', fu = f' + 1 := ⟨fu - 1, by omega⟩
    refine ⟨g, ?_, rfl, rfl⟩
    unfold fb_X4_walk_11 fs_X4_walk_11
    rw [if_pos (show (10 : Int32) ≤ nI l.length from nI_le (a := 10) (by omega) (by omega)), c_walk_e h2 hn hC hl]
    rfl
  | succ d ih =>
    intro g l m fu hi hf hC hl
    obtain ⟨fu, rfl⟩ : ∃ f', fu = f' + 1 := ⟨fu - 1, by omega⟩
    have h10 := lt1024 (setOf_lt hl.2) hn
    have hO : opn n (effH hm S.2.2.1) (setOf l) < 1024 := lt1024 opn_lt hn
    unfold fb_X4_walk_11 fs_X4_walk_11
    rw [if_neg (show ¬ ((10 : Int32) ≤ nI l.length) from nI_ge (b := 10) (by omega) (by decide)), c_eased hC.2.2.1]
    simp only [ob_eq]
    rw [c_openAfter hC.2.1 h2 hn o6.1 h10]
    simp only [ob_eq, gl_eq]
    by_cases h0 : opn n (effH hm S.2.2.1) (setOf l) = 0
    · rw [if_pos ((nI_z (by omega)).mpr h0)]
      refine ⟨g, ?_, rfl, ?_⟩
      · rw [c_walk_e h2 hn hC hl m (g.2 173 1)]
        rw [wk_0 h0]
      · rw [wk_0 h0]
    · obtain ⟨q1, q2⟩ := drawn (H := effH hm S.2.2.1) hn h0 (nxt (g.2 173 1))
      rw [if_neg (fun e => h0 ((nI_z (by omega)).mp e)), c_draw hO h0]
      simp only [ob_eq]
      have hC1 : InvC tx n hm S L K (gL1 g 173 1 (nxt (g.2 173 1))) := InvC_eq hC (fun j _ => rfl)
      have hfr : ∀ q, l.getLast? = some q → q < 10 := fun q hq => by
        have := hl.2 q (List.mem_of_getLast? hq); omega
      have em := c_minutes (X := S.1) (Y := S.2.1) (E := S.2.2.1) (T := S.2.2.2) hC1.2.2.1 o6 (f := l.getLast?) (p := nthM (opn n (effH hm S.2.2.1) (setOf l)) 10 (drw (nxt (g.2 173 1)) (opn n (effH hm S.2.2.1) (setOf l))) 0) (by omega) hfr
      rw [em]
      simp only [ob_eq]
      obtain ⟨g', e, a, b⟩ := ih (gL1 g 173 1 (nxt (g.2 173 1))) (l ++ [nthM (opn n (effH hm S.2.2.1) (setOf l)) 10 (drw (nxt (g.2 173 1)) (opn n (effH hm S.2.2.1) (setOf l))) 0]) (m + mns S l.getLast? (nthM (opn n (effH hm S.2.2.1) (setOf l)) 10 (drw (nxt (g.2 173 1)) (opn n (effH hm S.2.2.1) (setOf l))) 0)) fu (by rw [List.length_append]; show l.length + 1 + d = 10; omega) (by omega) hC1 (okT_app (tm := (l, 0, 0)) hl q1 (canV_bit q2) 0 0)
      rw [gL1_2] at e b
      refine ⟨g', ?_, a, ?_⟩
      · rw [nI_add, show (1 : Int32) <<< (nI (nthM (opn n (effH hm S.2.2.1) (setOf l)) 10 (drw (nxt (g.2 173 1)) (opn n (effH hm S.2.2.1) (setOf l))) 0) &&& 31) = nI (2 ^ (nthM (opn n (effH hm S.2.2.1) (setOf l)) 10 (drw (nxt (g.2 173 1)) (opn n (effH hm S.2.2.1) (setOf l))) 0)) from nI_shl1 (by omega), fa_or, nI_1, ← setOf_app]
        rw [List.getLast?_append, List.length_append] at e
        rw [wk_1 h0]
        exact e
      · rw [b]
        rw [wk_1 h0]
/-- the counts of all walks -/
def rn (n : Nat) (H : Nat → Nat → Bool) (S : aS) : Nat → Int32 → Int32 → Int64 → Int32 × Int32
  | 0, c, s, _ => (c, s)
  | d + 1, c, s, x => if (setOf (wk n H S 10 [] 0 x).1).testBit (n - 1) = true then rn n H S d (c + 1) (s + nI (wk n H S 10 [] 0 x).2.1) (wk n H S 10 [] 0 x).2.2 else rn n H S d c s (wk n H S 10 [] 0 x).2.2
theorem rn_1 {n : Nat} {H : Nat → Nat → Bool} {S : aS} {d : Nat} {c s : Int32} {x : Int64} (h : (setOf (wk n H S 10 [] 0 x).1).testBit (n - 1) = true) : rn n H S (d + 1) c s x = rn n H S d (c + 1) (s + nI (wk n H S 10 [] 0 x).2.1) (wk n H S 10 [] 0 x).2.2 := if_pos h
theorem rn_0 {n : Nat} {H : Nat → Nat → Bool} {S : aS} {d : Nat} {c s : Int32} {x : Int64} (h : (setOf (wk n H S 10 [] 0 x).1).testBit (n - 1) = false) : rn n H S (d + 1) c s x = rn n H S d c s (wk n H S 10 [] 0 x).2.2 := if_neg (by rw [h]; decide)
theorem wkR_1 {n : Nat} {r : List Nat × Nat × Int64} (h : (setOf r.1).testBit (n - 1) = true) : wkR n r = nI r.2.1 := if_pos h
theorem wkR_0 {n : Nat} {r : List Nat × Nat × Int64} (h : (setOf r.1).testBit (n - 1) = false) : wkR n r = -9 := if_neg (by rw [h]; decide)
def rnV (r : Int32 × Int32) : Int32 := (100000 : Int32) * r.1 + (if (99999 : Int32) < r.2 then 99999 else r.2)
theorem c_run_l (ok : okA tx n hm S L K) {M : Nat} (hM : M ≤ 50) (d : Nat) : ∀ (g : gG) i (c s : Int32) fu, i + d = M → d < fu → InvC tx n hm S L K g → ∃ g', fb_X4_run_14 16 fu (nI M) c s (nI i) g = some (rnV (rn n (effH hm S.2.2.1) S d c s (g.2 173 1)), g') ∧ g'.1 = g.1 := by
  obtain ⟨o1, o2, h2, hn, o5, o6, o7, o8⟩ := id ok
  have hnil : okT n ([], 0, 0) := ⟨List.nodup_nil, fun p hp => by simp at hp⟩
  induction d with
  | zero =>
    intro g i c s fu hi hf hC
    obtain ⟨fu, rfl⟩ : ∃ f', fu = f' + 1 := ⟨fu - 1, by omega⟩
    have e : i = M := by omega
    subst e
    refine ⟨g, ?_, rfl⟩
    unfold fb_X4_run_14 fs_X4_run_14
    rw [if_pos (nI_le (Nat.le_refl _) (by omega))]
    rfl
  | succ d ih =>
    intro g i c s fu hi hf hC
    obtain ⟨fu, rfl⟩ : ∃ f', fu = f' + 1 := ⟨fu - 1, by omega⟩
    obtain ⟨g1, e1, a1, b1⟩ := c_walk_l ok 10 g [] 0 gFuel rfl (by unfold gFuel; omega) hC hnil
    have e1 : f_X4_walk 16 g = some (wkR n (wk n (effH hm S.2.2.1) S 10 [] 0 (g.2 173 1)), g1) := e1
    have hC1 : InvC tx n hm S L K g1 := InvC_eq hC (fun j _ => by rw [a1])
    have hb := wk_190 (H := effH hm S.2.2.1) hn o6.2.2.1 (g.2 173 1)
    show ∃ g', fs_X4_run_14 16 (fb_X4_run_14 16 fu) (nI M) c s (nI i) g = _ ∧ _
    unfold fs_X4_run_14
    rw [if_neg (nI_ge (by omega) (by omega)), e1]
    simp only [ob_eq, gl_eq, nI_1]
    cases ec : (setOf (wk n (effH hm S.2.2.1) S 10 [] 0 (g.2 173 1)).1).testBit (n - 1) with
    | true =>
      obtain ⟨g2, e2, a2⟩ := ih g1 (i + 1) (c + 1) (s + nI (wk n (effH hm S.2.2.1) S 10 [] 0 (g.2 173 1)).2.1) fu (by omega) (by omega) hC1
      rw [b1] at e2
      refine ⟨g2, ?_, a2.trans a1⟩
      rw [wkR_1 ec, rn_1 ec, if_neg (nI_ne9 (by omega))]
      exact e2
    | false =>
      obtain ⟨g2, e2, a2⟩ := ih g1 (i + 1) c s fu (by omega) (by omega) hC1
      rw [b1] at e2
      refine ⟨g2, ?_, a2.trans a1⟩
      rw [wkR_0 ec, rn_0 ec, if_pos rfl]
      exact e2
theorem m_walk_l {H : Nat → Nat → Bool} (h2 : 2 ≤ n) (hn : n ≤ 10) (okx : okX S) (F42 : Int32 → Int64 → Int32 → Int32 → Int32 → gG → Option (Int32 × gG)) (l3 l6 l7 l8 : Int32) (d : Nat) : ∀ (g : gG) (l : List Nat) (m : Nat) (x : Int64) fu, l.length + d = 10 → d < fu → okT n (l, 0, 0) → tW (g.1 184) n H S (l, nI m, 0) → ∃ g', fb_X10_simulate_66 F42 fu l3 x l6 l7 l8 (nI (opn n H (setOf l))) g = (f_X10_isThere 184 394 (0 : Int32) g').bind (fun u2 => if u2.1 = (0 : Int32) then (fs_X10_simulate_150 F42 l3 (wk n H S d l m x).2.2 l7 l8 l6 (0 : Int32) u2.2) else (fs_X10_simulate_150 F42 l3 (wk n H S d l m x).2.2 l7 l8 l6 (1 : Int32) u2.2)) ∧ tW (g'.1 184) n H S ((wk n H S d l m x).1, nI (wk n H S d l m x).2.1, 0) ∧ frm 184 185 g g' := by
  induction d with
  | zero =>
    intro g l m x fu hi hf hl hT
    obtain ⟨fu, rfl⟩ : ∃ f', fu = f' + 1 := ⟨fu - 1, by omega⟩
    refine ⟨g, ?_, hT, frm.rf⟩
    unfold fb_X10_simulate_66 fs_X10_simulate_66
    rw [opn_full hn hl (by omega), if_pos (show nI 0 = (0 : Int32) from rfl)]
    rfl
  | succ d ih =>
    intro g l m x fu hi hf hl hT
    obtain ⟨fu, rfl⟩ : ∃ f', fu = f' + 1 := ⟨fu - 1, by omega⟩
    have hO : opn n H (setOf l) < 1024 := lt1024 opn_lt hn
    by_cases h0 : opn n H (setOf l) = 0
    · refine ⟨g, ?_, ?_, frm.rf⟩
      · rw [wk_0 h0]
        unfold fb_X10_simulate_66 fs_X10_simulate_66
        rw [if_pos ((nI_z (by omega)).mpr h0)]
      · rw [wk_0 h0]; exact hT
    · obtain ⟨q1, q2⟩ := drawn (H := H) hn h0 (nxt x)
      have hp := cnt_pos _ hO h0
      have hk10 := cnt_k (fun i => (opn n H (setOf l)).testBit i) 10
      obtain ⟨r1, r2⟩ := r_eq (nxt x)
      obtain ⟨g1, e1, a1, c1⟩ := w_visit (g := g) (r := 184) h2 hn okx hT hl q1 (canV_bit q2)
      have hl' := okT_app (tm := (l, 0, 0)) hl q1 (canV_bit q2) 0 0
      have a1 : tW (g1.1 184) n H S (l ++ [nthM (opn n H (setOf l)) 10 (drw (nxt x) (opn n H (setOf l))) 0], nI (m + mns S l.getLast? (nthM (opn n H (setOf l)) 10 (drw (nxt x) (opn n H (setOf l))) 0)), 0) := by
        rw [← nI_add]; exact a1
      obtain ⟨g2, e2, a2, c2⟩ := ih g1 (l ++ [nthM (opn n H (setOf l)) 10 (drw (nxt x) (opn n H (setOf l))) 0]) (m + mns S l.getLast? (nthM (opn n H (setOf l)) 10 (drw (nxt x) (opn n H (setOf l))) 0)) (nxt x) fu (by rw [List.length_append]; show l.length + 1 + d = 10; omega) (by omega) hl' a1
      have e1 : f_X10_visit 184 394 (0 : Int32) (nI (nthM (opn n H (setOf l)) 10 (drw (nxt x) (opn n H (setOf l))) 0)) g = some ((), g1) := e1
      have ev : f_X10_visited 184 394 (0 : Int32) g1 = some (nI (setOf (l ++ [nthM (opn n H (setOf l)) 10 (drw (nxt x) (opn n H (setOf l))) 0])), g1) := w_visited a1.2.2 hl' (by decide) hn
      refine ⟨g2, ?_, ?_, c1.tr c2⟩
      · show fs_X10_simulate_66 F42 (fb_X10_simulate_66 F42 fu) l3 x l6 l7 l8 (nI (opn n H (setOf l))) g = _
        unfold fs_X10_simulate_66
        rw [if_neg (fun e => h0 ((nI_z (by omega)).mp e))]
        simp only [gl_eq]
        rw [show (x * (6364136223846793005 : Int64)) + (1442695040888963407 : Int64) = nxt x from rfl, r1, m_count (by omega)]
        simp only [ob_eq]
        rw [if_neg (fun e => by have := (nI_z (by omega)).mp e; omega), pk_rem r2 hp (by omega), show uN (nxt x) / 2 ^ 33 % cnt (fun i => (opn n H (setOf l)).testBit i) 10 = drw (nxt x) (opn n H (setOf l)) from rfl, m_nth hO h0]
        simp only [ob_eq]
        rw [e1]
        simp only [ob_eq]
        rw [ev]
        simp only [ob_eq]
        rw [m_openOf a1.1 h2 hn (lt1024 (setOf_lt hl'.2) hn)]
        simp only [ob_eq]
        rw [e2]
        rw [wk_1 h0]
      · rw [wk_1 h0]
        exact a2
theorem m_sim_l {H : Nat → Nat → Bool} (h2 : 2 ≤ n) (hn : n ≤ 10) (okx : okX S) {M : Nat} (hM : M ≤ 50) (d : Nat) : ∀ (g : gG) i (c s : Int32) (x : Int64) fu, i + d = M → d < fu → mH (g.1 184) n H → mP (g.1 184) n S → ∃ g', fb_X10_simulate_42 fu (nI M) x c s (nI i) g = some (rnV (rn n H S d c s x), g') ∧ frm 184 185 g g' := by
  have hnil : okT n ([], 0, 0) := ⟨List.nodup_nil, fun p hp => by simp at hp⟩
  induction d with
  | zero =>
    intro g i c s x fu hi hf hH hP
    obtain ⟨fu, rfl⟩ : ∃ f', fu = f' + 1 := ⟨fu - 1, by omega⟩
    have e : i = M := by omega
    subst e
    refine ⟨g, ?_, frm.rf⟩
    unfold fb_X10_simulate_42 fs_X10_simulate_42
    rw [if_pos (nI_le (Nat.le_refl _) (by omega))]
    show _ = some ((100000 : Int32) * c + (if (99999 : Int32) < s then 99999 else s), g)
    by_cases h : s ≤ (99999 : Int32)
    · rw [if_pos h, if_neg (fun e => by
        have a1 := Int32.le_iff_toInt_le.mp h
        have a2 := Int32.lt_iff_toInt_lt.mp e
        omega)]
    · rw [if_neg h, if_pos (fa_of_nle h)]
  | succ d ih =>
    intro g i c s x fu hi hf hH hP
    obtain ⟨fu, rfl⟩ : ∃ f', fu = f' + 1 := ⟨fu - 1, by omega⟩
    obtain ⟨g1, e1, a1, c1⟩ := w_clear (g := g) (r := 184) hn hH hP
    have e1 : f_X10_clearTeam 184 394 (0 : Int32) g = some ((), g1) := e1
    obtain ⟨g2, e2, a2, c2⟩ := m_walk_l h2 hn okx (fb_X10_simulate_42 fu) (nI M) c s (nI i) 10 g1 [] 0 x gFuel rfl (by unfold gFuel; omega) hnil a1
    have hokl := (wk_ok (H := H) hn okx 10 [] 0 x hnil (Nat.zero_le _)).1
    have eT := w_isThere (r := 184) (g := g2) a2.1 a2.2.2 hokl (by decide) h2 hn
    have eT : f_X10_isThere 184 394 (0 : Int32) g2 = some (b2 ((setOf (wk n H S 10 [] 0 x).1).testBit (n - 1)), g2) := eT
    have eO : f_X10_openOf 184 394 (0 : Int32) g1 = some (nI (opn n H (setOf [])), g1) := m_openOf (s := 0) a1.1 h2 hn (by decide)
    have fr := c1.tr c2
    show ∃ g', fs_X10_simulate_42 (fb_X10_simulate_42 fu) (nI M) x c s (nI i) g = _ ∧ _
    unfold fs_X10_simulate_42
    rw [if_neg (nI_ge (by omega) (by omega)), e1]
    simp only [ob_eq]
    rw [eO]
    simp only [ob_eq, gl_eq]
    rw [e2, eT]
    simp only [ob_eq]
    unfold fs_X10_simulate_150 fs_X10_simulate_180
    simp only [gl_eq, nI_1]
    cases ec : (setOf (wk n H S 10 [] 0 x).1).testBit (n - 1) with
    | true =>
      obtain ⟨g3, e3, c3⟩ := ih g2 (i + 1) (c + 1) (s + nI (wk n H S 10 [] 0 x).2.1) (wk n H S 10 [] 0 x).2.2 fu (by omega) (by omega) a2.1 a2.2.1
      refine ⟨g3, ?_, fr.tr c3⟩
      rw [b2_t, if_neg one0, eT, ec]
      simp only [ob_eq]
      rw [b2_t, if_neg one0, show f_X10_cell (0 : Int32) (1 : Int32) g2 = _ from m_cell 0 1 g2]
      simp only [ob_eq]
      rw [if_pos (inb_nI (by decide) (by decide)), nI_clamp (by decide), show g2.1 184 (342 + 13 * 0 + 1) = nI (wk n H S 10 [] 0 x).2.1 from a2.2.2.2.1, rn_1 ec]
      exact e3
    | false =>
      obtain ⟨g3, e3, c3⟩ := ih g2 (i + 1) c s (wk n H S 10 [] 0 x).2.2 fu (by omega) (by omega) a2.1 a2.2.1
      refine ⟨g3, ?_, fr.tr c3⟩
      rw [b2_f, if_pos zero0, eT, ec]
      simp only [ob_eq]
      rw [b2_f, if_pos zero0, Int32.add_zero, Int32.add_zero, rn_0 ec]
      exact e3
theorem op_simulate (ok : okA tx n hm S L K) (s : Int64) (a : Int32) : opOK tx n hm S L K (f_X9_simulate s a) (f_X10_simulate s a) G1 := by
  obtain ⟨o1, o2, h2, hn, o5, o6, o7, o8⟩ := id ok
  have hin : ∀ g, f_X10_in a.toInt64 (1 : Int64) (50 : Int64) g = some (b2 (decide ((1 : Int64).toInt ≤ a.toInt64.toInt ∧ a.toInt64.toInt ≤ (lN 50).toInt)), g) := fun g => m_inG _ _ _ g
  cases hT : decide ((1 : Int64).toInt ≤ a.toInt64.toInt ∧ a.toInt64.toInt ≤ (lN 50).toInt) with
  | false =>
    refine opOK_same ok (.inr 1) (fun g hC => stC_rf hC ?_) (fun g hM => resM_r 0 1 one0 (fun _ => rfl) (stM_rf hM ?_))
    · unfold f_X9_simulate fs_X9_simulate_11
      rcases range14_no (by decide) hT with h | ⟨h, h3⟩
      · rw [if_pos h]
      · rw [if_neg h, if_neg (show ¬ a ≤ (50 : Int32) from h3)]
    · unfold f_X10_simulate
      rw [hin, hT]
      simp only [ob_eq]
      rw [b2_f, if_pos zero0]
      unfold fs_X10_simulate_18
      rw [ref1]
      simp only [ob_eq]
      rw [if_neg one0]
  | true =>
    obtain ⟨M, hm1, hm4, rfl⟩ := range14 (by decide) hT
    refine opOK_same ok (.inl (rnV (rn n (effH hm S.2.2.1) S M 0 0 s))) (fun g hC => ?_) (fun g hM => resM_l ?_)
    · obtain ⟨g1, e1, a1⟩ := c_run_l ok hm4 M (gL1 g 173 1 s) 0 0 0 gFuel (by omega) (by unfold gFuel; omega) (InvC_eq hC (fun j _ => rfl))
      rw [gL1_2] at e1
      refine ⟨g1, ?_, InvC_eq hC (fun j _ => by rw [a1]; rfl), fun j _ => by rw [a1]; rfl⟩
      unfold f_X9_simulate f_X4_run
      rw [if_neg (show ¬ (nI M < (1 : Int32)) from nI_nlt (b := 1) hm1 (by omega)), if_pos (show nI M ≤ (50 : Int32) from nI_le (b := 50) hm4 (by decide))]
      simp only [gl_eq]
      rw [show fb_X4_run_14 16 gFuel (nI M) (0 : Int32) (0 : Int32) (0 : Int32) (gL1 g 173 1 s) = _ from e1]
      simp only [ob_eq]
    · have hM' := InvM_r 0 hM
      obtain ⟨g1, e1, a1, b1, d1⟩ := m_begin hn o6 hM'.2.1
      obtain ⟨g2, e2, c2⟩ := m_sim_l (S := S) (H := effH hm S.2.2.1) h2 hn o6.2.2.1 hm4 M g1 0 0 0 s gFuel (by omega) (by unfold gFuel; omega) a1.1 a1.2.2.1
      have fr : ∀ j, j ≠ 184 → g2.1 j = (gI1 g 174 0 0).1 j := fun j h7 => (c2.1 j (by omega)).trans (b1 j h7)
      refine ⟨g2, ?_, InvM_eq hM' (by rw [fr 174 (by decide)]) (by rw [fr 174 (by decide)]) (fun j hj => fr j (by omega)), by rw [fr 174 (by decide), r_self, if_pos rfl], fun j hj => by rw [fr j (by omega), gI1_1, if_neg (by omega)], c2.2.trans d1⟩
      unfold f_X10_simulate
      rw [hin, hT]
      simp only [ob_eq]
      rw [b2_t, if_neg one0]
      unfold fs_X10_simulate_18
      rw [ref0]
      simp only [ob_eq]
      rw [if_pos trivial, e1]
      simp only [ob_eq]
      exact e2
end WK
