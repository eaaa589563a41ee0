/-! PURE: the state of one object, and a call: its answer and the next state. -/
abbrev aR : Type := (Nat → Int32) × (Nat → Int32)
abbrev aA : Type := List Nat × Nat × (Nat → Nat) × aS × List aS × (Nat → Option aS) × aR
def Iv (A : aA) (g : gG) : Prop := InvC A.1 A.2.1 A.2.2.1 A.2.2.2.1 A.2.2.2.2.1 A.2.2.2.2.2.1 g ∧ g.1 6 = A.2.2.2.2.2.2.1 ∧ g.1 7 = A.2.2.2.2.2.2.2
def AC {α : Type} (A : aA) (X : gG → Option (α × gG)) (v : α) (A' : aA) : Prop := ∀ g, Iv A g → ∃ g', X g = some (v, g') ∧ Iv A' g'
section AC0
variable {tx tx' : List Nat} {n n' : Nat} {hm hm' : Nat → Nat} {S S' : aS} {L L' : List aS} {K K' : Nat → Option aS} {rd : aR} {α β : Type} {A A1 A2 : aA}
theorem AC.ro {X : gG → Option (α × gG)} {v : α} (h : ∀ g, InvC tx n hm S L K g → X g = some (v, g)) : AC (tx, n, hm, S, L, K, rd) X v (tx, n, hm, S, L, K, rd) := fun g hg => ⟨g, h g hg.1, hg⟩
theorem AC.fr {X : gG → Option (α × gG)} {v : α} {a b : Nat} (ha : 156 ≤ a) (h : ∀ g, InvC tx n hm S L K g → ∃ g', X g = some (v, g') ∧ frm a b g g') : AC (tx, n, hm, S, L, K, rd) X v (tx, n, hm, S, L, K, rd) := fun g hg => by
  obtain ⟨g', e, f⟩ := h g hg.1
  exact ⟨g', e, InvC_fr hg.1 f ha, (f.1 6 (by omega)).trans hg.2.1, (f.1 7 (by omega)).trans hg.2.2⟩
theorem AC.st {X : gG → Option (α × gG)} {v : α} (h : ∀ g, InvC tx n hm S L K g → ∃ g', X g = some (v, g') ∧ InvC tx' n' hm' S' L' K' g' ∧ ∀ j, (174 ≤ j ∨ j = 6 ∨ j = 7) → g'.1 j = g.1 j) : AC (tx, n, hm, S, L, K, rd) X v (tx', n', hm', S', L', K', rd) := fun g hg => by
  obtain ⟨g', e, i, f⟩ := h g hg.1
  exact ⟨g', e, i, (f 6 (by omega)).trans hg.2.1, (f 7 (by omega)).trans hg.2.2⟩
theorem AC.bd {X : gG → Option (α × gG)} {v : α} {G : α × gG → Option (β × gG)} {z : β} (h1 : AC A X v A1) (h2 : AC A1 (fun g => G (v, g)) z A2) : AC A (fun g => (X g).bind G) z A2 := fun g hg => by
  obtain ⟨g1, e1, i1⟩ := h1 g hg
  obtain ⟨g2, e2, i2⟩ := h2 g1 i1
  exact ⟨g2, by show (X g).bind G = _; rw [e1, ob_eq]; exact e2, i2⟩
theorem AC.ret {v : α} : AC A (fun g => some (v, g)) v A := fun g hg => ⟨g, rfl, hg⟩
theorem AC.pos {c : Prop} {d : gG → Decidable c} {X Y : gG → Option (α × gG)} {v : α} (hc : c) (h : AC A X v A1) : AC A (fun g => @ite _ c (d g) (X g) (Y g)) v A1 := fun g hg => by
  obtain ⟨g', e, i⟩ := h g hg
  exact ⟨g', (if_pos hc).trans e, i⟩
theorem AC.neg {c : Prop} {d : gG → Decidable c} {X Y : gG → Option (α × gG)} {v : α} (hc : ¬ c) (h : AC A Y v A1) : AC A (fun g => @ite _ c (d g) (X g) (Y g)) v A1 := fun g hg => by
  obtain ⟨g', e, i⟩ := h g hg
  exact ⟨g', (if_neg hc).trans e, i⟩
theorem AC.lt {x : α} {F : α → gG → Option (β × gG)} {v : β} (h : AC A (F x) v A1) : AC A (fun g => gLet x (fun y => F y g)) v A1 := h
theorem AC.uniq {X : gG → Option (α × gG)} {v v' : α} (h : AC A X v A1) (h' : AC A X v' A2) {g : gG} (hg : Iv A g) : v = v' := by
  obtain ⟨g1, e1, _⟩ := h g hg
  obtain ⟨g2, e2, _⟩ := h' g hg
  rw [e1] at e2
  cases e2
  rfl
end AC0
theorem j_of {i : Int32} {k : Nat} (h : decide (0 ≤ i.toInt ∧ i.toInt ≤ (k : Int)) = false) : ∀ j, j ≤ k → k < 2 ^ 30 → ¬ i = nI j := fun j hj hk e => by
  have h1 := of_decide_eq_false h
  rw [e, nI_toInt (by omega)] at h1
  omega
section OPS
variable {tx : List Nat} {n : Nat} {hm : Nat → Nat} {S : aS} {L : List aS} {K : Nat → Option aS} {rd : aR} {t : Nat} {tm : aT}
theorem x_open_no (ok : okA tx n hm S L K) {a : Int32} (hT : isT S a = false) : AC (tx, n, hm, S, L, K, rd) (f_X9_open a) (.inr 3) (tx, n, hm, S, L, K, rd) := by
  obtain ⟨o1, o2, h2, hn, o5, o6, o7, o8⟩ := id ok
  refine AC.ro (fun g hC => ?_)
  unfold f_X9_open
  rw [c_reqTeam hC.2.2.1 o6, hT, if_neg (by decide), gXb_r]
theorem x_orders_no (ok : okA tx n hm S L K) {a : Int32} (hT : isT S a = false) : AC (tx, n, hm, S, L, K, rd) (f_X9_orders a) (.inr 3) (tx, n, hm, S, L, K, rd) := by
  obtain ⟨o1, o2, h2, hn, o5, o6, o7, o8⟩ := id ok
  refine AC.ro (fun g hC => ?_)
  unfold f_X9_orders
  rw [c_reqTeam hC.2.2.1 o6, hT, if_neg (by decide), gXb_r]
theorem x_safe_no (ok : okA tx n hm S L K) {a : Int32} (hT : isT S a = false) : AC (tx, n, hm, S, L, K, rd) (f_X9_safe a) (.inr 3) (tx, n, hm, S, L, K, rd) := by
  obtain ⟨o1, o2, h2, hn, o5, o6, o7, o8⟩ := id ok
  refine AC.ro (fun g hC => ?_)
  unfold f_X9_safe
  rw [c_reqTeam hC.2.2.1 o6, hT, if_neg (by decide), gXb_r]
theorem x_needed_no (ok : okA tx n hm S L K) {a : Int32} (hT : isT S a = false) : AC (tx, n, hm, S, L, K, rd) (f_X9_needed a) (.inr 3) (tx, n, hm, S, L, K, rd) := by
  obtain ⟨o1, o2, h2, hn, o5, o6, o7, o8⟩ := id ok
  refine AC.ro (fun g hC => ?_)
  unfold f_X9_needed
  rw [c_reqTeam hC.2.2.1 o6, hT, if_neg (by decide), gXb_r]
theorem x_trail_no (ok : okA tx n hm S L K) {a : Int32} (i : Int32) (hT : isT S a = false) : AC (tx, n, hm, S, L, K, rd) (f_X9_trail a i) (.inr 3) (tx, n, hm, S, L, K, rd) := by
  obtain ⟨o1, o2, h2, hn, o5, o6, o7, o8⟩ := id ok
  refine AC.ro (fun g hC => ?_)
  unfold f_X9_trail
  rw [c_reqTeam hC.2.2.1 o6, hT, if_neg (by decide), gXb_r]
theorem x_team_no (ok : okA tx n hm S L K) {a : Int32} (i : Int32) (hT : isT S a = false) : AC (tx, n, hm, S, L, K, rd) (f_X9_team a i) (.inr 3) (tx, n, hm, S, L, K, rd) := by
  obtain ⟨o1, o2, h2, hn, o5, o6, o7, o8⟩ := id ok
  refine AC.ro (fun g hC => ?_)
  unfold f_X9_team
  rw [c_reqTeam hC.2.2.1 o6, hT, if_neg (by decide), gXb_r]
theorem x_shortest_no (ok : okA tx n hm S L K) {a : Int32} (i : Int32) (hT : isT S a = false) : AC (tx, n, hm, S, L, K, rd) (f_X9_shortest a i) (.inr 3) (tx, n, hm, S, L, K, rd) := by
  obtain ⟨o1, o2, h2, hn, o5, o6, o7, o8⟩ := id ok
  refine AC.ro (fun g hC => ?_)
  unfold f_X9_shortest
  rw [c_reqTeam hC.2.2.1 o6, hT, if_neg (by decide), gXb_r]
theorem x_quickest_no (ok : okA tx n hm S L K) {a : Int32} (i : Int32) (hT : isT S a = false) : AC (tx, n, hm, S, L, K, rd) (f_X9_quickest a i) (.inr 3) (tx, n, hm, S, L, K, rd) := by
  obtain ⟨o1, o2, h2, hn, o5, o6, o7, o8⟩ := id ok
  refine AC.ro (fun g hC => ?_)
  unfold f_X9_quickest
  rw [c_reqTeam hC.2.2.1 o6, hT, if_neg (by decide), gXb_r]
theorem x_go_no (ok : okA tx n hm S L K) {a : Int32} (i : Int32) (hT : isT S a = false) : AC (tx, n, hm, S, L, K, rd) (f_X9_go a i) (.inr 3) (tx, n, hm, S, L, K, rd) := by
  obtain ⟨o1, o2, h2, hn, o5, o6, o7, o8⟩ := id ok
  refine AC.ro (fun g hC => ?_)
  unfold f_X9_go
  rw [c_reqTeam hC.2.2.1 o6, hT, if_neg (by decide), gXb_r]
theorem x_hint_no (ok : okA tx n hm S L K) {a : Int32} (hT : isT S a = false) : AC (tx, n, hm, S, L, K, rd) (f_X9_hint a) (.inr 3) (tx, n, hm, S, L, K, rd) := by
  obtain ⟨o1, o2, h2, hn, o5, o6, o7, o8⟩ := id ok
  refine AC.ro (fun g hC => ?_)
  unfold f_X9_hint
  rw [c_reqTeam hC.2.2.1 o6, hT, if_neg (by decide), gXb_r]
theorem x_giveUp_no (ok : okA tx n hm S L K) {a : Int32} (hT : isT S a = false) : AC (tx, n, hm, S, L, K, rd) (f_X9_giveUp a) (.inr 3) (tx, n, hm, S, L, K, rd) := by
  obtain ⟨o1, o2, h2, hn, o5, o6, o7, o8⟩ := id ok
  refine AC.ro (fun g hC => ?_)
  unfold f_X9_giveUp
  rw [c_reqTeam hC.2.2.1 o6, hT, if_neg (by decide), gXb_r]
theorem x_open (ok : okA tx n hm S L K) (htm : S.2.2.2[t]? = some tm) : AC (tx, n, hm, S, L, K, rd) (f_X9_open (nI t)) (.inl (nI (opn n (effH hm S.2.2.1) (setOf tm.1)))) (tx, n, hm, S, L, K, rd) := by
  obtain ⟨o1, o2, h2, hn, o5, o6, o7, o8⟩ := id ok
  have h1 := ok_get o6 htm
  have hT : isT S (nI t) = true := by rw [isT_nI (by omega)]; exact decide_eq_true h1.2.1
  have hs := setOf_lt h1.1.2
  have h10 := lt1024 hs hn
  have hlen := okT_len h1.1
  refine AC.ro (fun g hC => ?_)
  unfold f_X9_open
  rw [c_reqTeam hC.2.2.1 o6, hT, if_pos rfl, gXb_l, c_openTo hC.2.1 h2 hn hC.2.2.1 o6 htm]
  simp only [ob_eq]
theorem x_orders (ok : okA tx n hm S L K) (htm : S.2.2.2[t]? = some tm) : AC (tx, n, hm, S, L, K, rd) (f_X9_orders (nI t)) (.inl (nI (wOf n (effH hm S.2.2.1) (setOf tm.1)).2.1)) (tx, n, hm, S, L, K, rd) := by
  obtain ⟨o1, o2, h2, hn, o5, o6, o7, o8⟩ := id ok
  have h1 := ok_get o6 htm
  have hT : isT S (nI t) = true := by rw [isT_nI (by omega)]; exact decide_eq_true h1.2.1
  have hs := setOf_lt h1.1.2
  have h10 := lt1024 hs hn
  have hlen := okT_len h1.1
  refine AC.fr (a := 157) (b := 162) (by decide) (fun g hC => ?_)
  obtain ⟨g', e, f⟩ := c_ordersOf hC.2.1 h2 hn hC.2.2.1 o6 htm
  refine ⟨g', ?_, f⟩
  unfold f_X9_orders
  rw [c_reqTeam hC.2.2.1 o6, hT, if_pos rfl, gXb_l, e]
  simp only [ob_eq]
theorem x_safe (ok : okA tx n hm S L K) (htm : S.2.2.2[t]? = some tm) : AC (tx, n, hm, S, L, K, rd) (f_X9_safe (nI t)) (.inl (nI (safe n (effH hm S.2.2.1) (setOf tm.1)))) (tx, n, hm, S, L, K, rd) := by
  obtain ⟨o1, o2, h2, hn, o5, o6, o7, o8⟩ := id ok
  have h1 := ok_get o6 htm
  have hT : isT S (nI t) = true := by rw [isT_nI (by omega)]; exact decide_eq_true h1.2.1
  have hs := setOf_lt h1.1.2
  have h10 := lt1024 hs hn
  have hlen := okT_len h1.1
  refine AC.fr (a := 157) (b := 162) (by decide) (fun g hC => ?_)
  obtain ⟨g', e, f⟩ := c_safeFor hC.2.1 h2 hn hC.2.2.1 o6 htm
  refine ⟨g', ?_, f⟩
  unfold f_X9_safe
  rw [c_reqTeam hC.2.2.1 o6, hT, if_pos rfl, gXb_l, e]
  simp only [ob_eq]
theorem x_needed (ok : okA tx n hm S L K) (htm : S.2.2.2[t]? = some tm) : AC (tx, n, hm, S, L, K, rd) (f_X9_needed (nI t)) (.inl (if fin n (effH hm S.2.2.1) none (setOf tm.1) = true then nI (wOf n (effH hm S.2.2.1) (setOf tm.1)).2.2.2 else -9)) (tx, n, hm, S, L, K, rd) := by
  obtain ⟨o1, o2, h2, hn, o5, o6, o7, o8⟩ := id ok
  have h1 := ok_get o6 htm
  have hT : isT S (nI t) = true := by rw [isT_nI (by omega)]; exact decide_eq_true h1.2.1
  have hs := setOf_lt h1.1.2
  have h10 := lt1024 hs hn
  have hlen := okT_len h1.1
  refine AC.fr (a := 157) (b := 162) (by decide) (fun g hC => ?_)
  obtain ⟨g', e, f⟩ := c_needed hC.2.1 h2 hn hC.2.2.1 o6 htm
  refine ⟨g', ?_, f⟩
  unfold f_X9_needed
  rw [c_reqTeam hC.2.2.1 o6, hT, if_pos rfl, gXb_l, e]
  simp only [ob_eq]
theorem x_trail_neg (ok : okA tx n hm S L K) (htm : S.2.2.2[t]? = some tm) {i : Int32} (hi : i < 0) : AC (tx, n, hm, S, L, K, rd) (f_X9_trail (nI t) i) (.inr 1) (tx, n, hm, S, L, K, rd) := by
  obtain ⟨o1, o2, h2, hn, o5, o6, o7, o8⟩ := id ok
  have h1 := ok_get o6 htm
  have hT : isT S (nI t) = true := by rw [isT_nI (by omega)]; exact decide_eq_true h1.2.1
  have hs := setOf_lt h1.1.2
  have h10 := lt1024 hs hn
  have hlen := okT_len h1.1
  refine AC.ro (fun g hC => ?_)
  unfold f_X9_trail
  rw [c_reqTeam hC.2.2.1 o6, hT, if_pos rfl, gXb_l, if_neg (fun e => (c_neg i).mp e hi)]
theorem x_trail (ok : okA tx n hm S L K) (htm : S.2.2.2[t]? = some tm) {j : Nat} (hj : j < 2 ^ 31) : AC (tx, n, hm, S, L, K, rd) (f_X9_trail (nI t) (nI j)) (.inl (oI tm.1[j]?)) (tx, n, hm, S, L, K, rd) := by
  obtain ⟨o1, o2, h2, hn, o5, o6, o7, o8⟩ := id ok
  have h1 := ok_get o6 htm
  have hT : isT S (nI t) = true := by rw [isT_nI (by omega)]; exact decide_eq_true h1.2.1
  have hs := setOf_lt h1.1.2
  have h10 := lt1024 hs hn
  have hlen := okT_len h1.1
  refine AC.ro (fun g hC => ?_)
  have hi : ¬ (nI j < 0) := nI_pos hj
  unfold f_X9_trail
  rw [c_reqTeam hC.2.2.1 o6, hT, if_pos rfl, gXb_l, if_pos ((c_neg _).mpr hi), c_visitOf hC.2.2.1 o6 hn htm, if_neg hi, nI_clamp hj]
  simp only [ob_eq]
  cases tm.1[j]? <;> rfl
theorem x_team_bad (ok : okA tx n hm S L K) (htm : S.2.2.2[t]? = some tm) {i : Int32} (hi : decide (0 ≤ i.toInt ∧ i.toInt ≤ ((5 : Nat) : Int)) = false) : AC (tx, n, hm, S, L, K, rd) (f_X9_team (nI t) i) (.inr 1) (tx, n, hm, S, L, K, rd) := by
  obtain ⟨o1, o2, h2, hn, o5, o6, o7, o8⟩ := id ok
  have h1 := ok_get o6 htm
  have hT : isT S (nI t) = true := by rw [isT_nI (by omega)]; exact decide_eq_true h1.2.1
  have hs := setOf_lt h1.1.2
  have h10 := lt1024 hs hn
  have hlen := okT_len h1.1
  have q := j_of hi
  refine AC.ro (fun g hC => ?_)
  unfold f_X9_team
  rw [c_reqTeam hC.2.2.1 o6, hT, if_pos rfl, gXb_l, if_neg (show ¬ i = (0 : Int32) from q 0 (by decide) (by decide)), if_neg (show ¬ i = (1 : Int32) from q 1 (by decide) (by decide)), if_neg (show ¬ i = (2 : Int32) from q 2 (by decide) (by decide)), if_neg (show ¬ i = (3 : Int32) from q 3 (by decide) (by decide)), if_neg (show ¬ i = (4 : Int32) from q 4 (by decide) (by decide)), if_neg (show ¬ i = (5 : Int32) from q 5 (by decide) (by decide))]
theorem x_team0 (ok : okA tx n hm S L K) (htm : S.2.2.2[t]? = some tm) : AC (tx, n, hm, S, L, K, rd) (f_X9_team (nI t) (nI 0)) (.inl (nI (setOf tm.1))) (tx, n, hm, S, L, K, rd) := by
  obtain ⟨o1, o2, h2, hn, o5, o6, o7, o8⟩ := id ok
  have h1 := ok_get o6 htm
  have hT : isT S (nI t) = true := by rw [isT_nI (by omega)]; exact decide_eq_true h1.2.1
  have hs := setOf_lt h1.1.2
  have h10 := lt1024 hs hn
  have hlen := okT_len h1.1
  refine AC.ro (fun g hC => ?_)
  unfold f_X9_team
  rw [c_reqTeam hC.2.2.1 o6, hT, if_pos rfl, gXb_l, if_pos (show nI 0 = (0 : Int32) from rfl), c_visitedBy hC.2.2.1 o6 htm]
  simp only [ob_eq]
theorem x_team1 (ok : okA tx n hm S L K) (htm : S.2.2.2[t]? = some tm) : AC (tx, n, hm, S, L, K, rd) (f_X9_team (nI t) (nI 1)) (.inl (nI tm.1.length)) (tx, n, hm, S, L, K, rd) := by
  obtain ⟨o1, o2, h2, hn, o5, o6, o7, o8⟩ := id ok
  have h1 := ok_get o6 htm
  have hT : isT S (nI t) = true := by rw [isT_nI (by omega)]; exact decide_eq_true h1.2.1
  have hs := setOf_lt h1.1.2
  have h10 := lt1024 hs hn
  have hlen := okT_len h1.1
  refine AC.ro (fun g hC => ?_)
  unfold f_X9_team
  rw [c_reqTeam hC.2.2.1 o6, hT, if_pos rfl, gXb_l, if_neg (show ¬ (nI 1 = (0 : Int32)) by decide), if_pos (show nI 1 = (1 : Int32) from rfl), c_visitsOf hC.2.2.1 o6 htm]
  simp only [ob_eq]
theorem x_team2 (ok : okA tx n hm S L K) (htm : S.2.2.2[t]? = some tm) : AC (tx, n, hm, S, L, K, rd) (f_X9_team (nI t) (nI 2)) (.inl (tm.2.1)) (tx, n, hm, S, L, K, rd) := by
  obtain ⟨o1, o2, h2, hn, o5, o6, o7, o8⟩ := id ok
  have h1 := ok_get o6 htm
  have hT : isT S (nI t) = true := by rw [isT_nI (by omega)]; exact decide_eq_true h1.2.1
  have hs := setOf_lt h1.1.2
  have h10 := lt1024 hs hn
  have hlen := okT_len h1.1
  refine AC.ro (fun g hC => ?_)
  unfold f_X9_team
  rw [c_reqTeam hC.2.2.1 o6, hT, if_pos rfl, gXb_l, if_neg (show ¬ (nI 2 = (0 : Int32)) by decide), if_neg (show ¬ (nI 2 = (1 : Int32)) by decide), if_pos (show nI 2 = (2 : Int32) from rfl), c_minutesOf hC.2.2.1 o6 htm]
  simp only [ob_eq]
theorem x_team3 (ok : okA tx n hm S L K) (htm : S.2.2.2[t]? = some tm) : AC (tx, n, hm, S, L, K, rd) (f_X9_team (nI t) (nI 3)) (.inl (tm.2.2)) (tx, n, hm, S, L, K, rd) := by
  obtain ⟨o1, o2, h2, hn, o5, o6, o7, o8⟩ := id ok
  have h1 := ok_get o6 htm
  have hT : isT S (nI t) = true := by rw [isT_nI (by omega)]; exact decide_eq_true h1.2.1
  have hs := setOf_lt h1.1.2
  have h10 := lt1024 hs hn
  have hlen := okT_len h1.1
  refine AC.ro (fun g hC => ?_)
  unfold f_X9_team
  rw [c_reqTeam hC.2.2.1 o6, hT, if_pos rfl, gXb_l, if_neg (show ¬ (nI 3 = (0 : Int32)) by decide), if_neg (show ¬ (nI 3 = (1 : Int32)) by decide), if_neg (show ¬ (nI 3 = (2 : Int32)) by decide), if_pos (show nI 3 = (3 : Int32) from rfl), c_hintsOf hC.2.2.1 o6 htm]
  simp only [ob_eq]
theorem x_team4 (ok : okA tx n hm S L K) (htm : S.2.2.2[t]? = some tm) : AC (tx, n, hm, S, L, K, rd) (f_X9_team (nI t) (nI 4)) (.inl (scr n tm)) (tx, n, hm, S, L, K, rd) := by
  obtain ⟨o1, o2, h2, hn, o5, o6, o7, o8⟩ := id ok
  have h1 := ok_get o6 htm
  have hT : isT S (nI t) = true := by rw [isT_nI (by omega)]; exact decide_eq_true h1.2.1
  have hs := setOf_lt h1.1.2
  have h10 := lt1024 hs hn
  have hlen := okT_len h1.1
  refine AC.ro (fun g hC => ?_)
  unfold f_X9_team
  rw [c_reqTeam hC.2.2.1 o6, hT, if_pos rfl, gXb_l, if_neg (show ¬ (nI 4 = (0 : Int32)) by decide), if_neg (show ¬ (nI 4 = (1 : Int32)) by decide), if_neg (show ¬ (nI 4 = (2 : Int32)) by decide), if_neg (show ¬ (nI 4 = (3 : Int32)) by decide), if_pos (show nI 4 = (4 : Int32) from rfl), c_scoreOf hC.2.1 h2 hn hC.2.2.1 o6 htm]
  simp only [ob_eq]
theorem x_team5 (ok : okA tx n hm S L K) (htm : S.2.2.2[t]? = some tm) : AC (tx, n, hm, S, L, K, rd) (f_X9_team (nI t) (nI 5)) (.inl (lastP tm.1)) (tx, n, hm, S, L, K, rd) := by
  obtain ⟨o1, o2, h2, hn, o5, o6, o7, o8⟩ := id ok
  have h1 := ok_get o6 htm
  have hT : isT S (nI t) = true := by rw [isT_nI (by omega)]; exact decide_eq_true h1.2.1
  have hs := setOf_lt h1.1.2
  have h10 := lt1024 hs hn
  have hlen := okT_len h1.1
  refine AC.ro (fun g hC => ?_)
  unfold f_X9_team
  rw [c_reqTeam hC.2.2.1 o6, hT, if_pos rfl, gXb_l, if_neg (show ¬ (nI 5 = (0 : Int32)) by decide), if_neg (show ¬ (nI 5 = (1 : Int32)) by decide), if_neg (show ¬ (nI 5 = (2 : Int32)) by decide), if_neg (show ¬ (nI 5 = (3 : Int32)) by decide), if_neg (show ¬ (nI 5 = (4 : Int32)) by decide), if_pos (show nI 5 = (5 : Int32) from rfl), c_lastOf hC.2.2.1 o6 hn htm]
  simp only [ob_eq]
theorem x_shortest_bad (ok : okA tx n hm S L K) (htm : S.2.2.2[t]? = some tm) {i : Int32} (hi : decide (0 ≤ i.toInt ∧ i.toInt ≤ ((1 : Nat) : Int)) = false) : AC (tx, n, hm, S, L, K, rd) (f_X9_shortest (nI t) i) (.inr 1) (tx, n, hm, S, L, K, rd) := by
  obtain ⟨o1, o2, h2, hn, o5, o6, o7, o8⟩ := id ok
  have h1 := ok_get o6 htm
  have hT : isT S (nI t) = true := by rw [isT_nI (by omega)]; exact decide_eq_true h1.2.1
  have hs := setOf_lt h1.1.2
  have h10 := lt1024 hs hn
  have hlen := okT_len h1.1
  have q := j_of hi
  refine AC.ro (fun g hC => ?_)
  unfold f_X9_shortest f_X9_requireZeroOrOne
  rw [c_reqTeam hC.2.2.1 o6, hT, if_pos rfl, gXb_l, if_neg (show ¬ i = (0 : Int32) from q 0 (by decide) (by decide)), if_neg (show ¬ i = (1 : Int32) from q 1 (by decide) (by decide)), gXb_r]
theorem x_quickest_bad (ok : okA tx n hm S L K) (htm : S.2.2.2[t]? = some tm) {i : Int32} (hi : decide (0 ≤ i.toInt ∧ i.toInt ≤ ((1 : Nat) : Int)) = false) : AC (tx, n, hm, S, L, K, rd) (f_X9_quickest (nI t) i) (.inr 1) (tx, n, hm, S, L, K, rd) := by
  obtain ⟨o1, o2, h2, hn, o5, o6, o7, o8⟩ := id ok
  have h1 := ok_get o6 htm
  have hT : isT S (nI t) = true := by rw [isT_nI (by omega)]; exact decide_eq_true h1.2.1
  have hs := setOf_lt h1.1.2
  have h10 := lt1024 hs hn
  have hlen := okT_len h1.1
  have q := j_of hi
  refine AC.ro (fun g hC => ?_)
  unfold f_X9_quickest f_X9_requireZeroOrOne
  rw [c_reqTeam hC.2.2.1 o6, hT, if_pos rfl, gXb_l, if_neg (show ¬ i = (0 : Int32) from q 0 (by decide) (by decide)), if_neg (show ¬ i = (1 : Int32) from q 1 (by decide) (by decide)), gXb_r]
theorem x_shortest0 (ok : okA tx n hm S L K) (htm : S.2.2.2[t]? = some tm) : AC (tx, n, hm, S, L, K, rd) (f_X9_shortest (nI t) (nI 0)) (.inl (if fin n (effH hm S.2.2.1) none (setOf tm.1) = true then nI (wOf n (effH hm S.2.2.1) (setOf tm.1)).2.2.1 else -9)) (tx, n, hm, S, L, K, rd) := by
  obtain ⟨o1, o2, h2, hn, o5, o6, o7, o8⟩ := id ok
  have h1 := ok_get o6 htm
  have hT : isT S (nI t) = true := by rw [isT_nI (by omega)]; exact decide_eq_true h1.2.1
  have hs := setOf_lt h1.1.2
  have h10 := lt1024 hs hn
  have hlen := okT_len h1.1
  refine AC.fr (a := 157) (b := 174) (by decide) (fun g hC => ?_)
  obtain ⟨g', e, f⟩ := c_fewest hC.2.1 h2 hn hC.2.2.1 o6 htm
  refine ⟨g', ?_, f.wd (by decide) (by decide)⟩
  unfold f_X9_shortest f_X9_requireZeroOrOne
  rw [c_reqTeam hC.2.2.1 o6, hT, if_pos rfl, gXb_l, if_pos (show nI 0 = (0 : Int32) from rfl), gXb_l, if_pos (show nI 0 = (0 : Int32) from rfl), e]
  simp only [ob_eq]
theorem x_shortest1 (ok : okA tx n hm S L K) (htm : S.2.2.2[t]? = some tm) : AC (tx, n, hm, S, L, K, rd) (f_X9_shortest (nI t) (nI 1)) (.inl (shF n (effH hm S.2.2.1) (setOf tm.1))) (tx, n, hm, S, L, K, rd) := by
  obtain ⟨o1, o2, h2, hn, o5, o6, o7, o8⟩ := id ok
  have h1 := ok_get o6 htm
  have hT : isT S (nI t) = true := by rw [isT_nI (by omega)]; exact decide_eq_true h1.2.1
  have hs := setOf_lt h1.1.2
  have h10 := lt1024 hs hn
  have hlen := okT_len h1.1
  refine AC.fr (a := 157) (b := 174) (by decide) (fun g hC => ?_)
  obtain ⟨g', e, f⟩ := c_firstS hC.2.1 h2 hn hC.2.2.1 o6 htm
  refine ⟨g', ?_, f.wd (by decide) (by decide)⟩
  unfold f_X9_shortest f_X9_requireZeroOrOne
  rw [c_reqTeam hC.2.2.1 o6, hT, if_pos rfl, gXb_l, if_neg (show ¬ (nI 1 = (0 : Int32)) by decide), if_pos (show nI 1 = (1 : Int32) from rfl), gXb_l, if_neg (show ¬ (nI 1 = (0 : Int32)) by decide), e]
  simp only [ob_eq]
theorem x_quickest0 (ok : okA tx n hm S L K) (htm : S.2.2.2[t]? = some tm) : AC (tx, n, hm, S, L, K, rd) (f_X9_quickest (nI t) (nI 0)) (.inl (qkT n hm S tm)) (tx, n, hm, S, L, K, rd) := by
  obtain ⟨o1, o2, h2, hn, o5, o6, o7, o8⟩ := id ok
  have h1 := ok_get o6 htm
  have hT : isT S (nI t) = true := by rw [isT_nI (by omega)]; exact decide_eq_true h1.2.1
  have hs := setOf_lt h1.1.2
  have h10 := lt1024 hs hn
  have hlen := okT_len h1.1
  refine AC.fr (a := 157) (b := 174) (by decide) (fun g hC => ?_)
  obtain ⟨g', e, f⟩ := c_fewMin (X := S.1) (Y := S.2.1) (E := S.2.2.1) (T := S.2.2.2) hC.2.1 h2 hn (by decide) hC.2.2.1 o6 htm
  refine ⟨g', ?_, f.wd (by decide) (by decide)⟩
  unfold f_X9_quickest f_X9_requireZeroOrOne
  rw [c_reqTeam hC.2.2.1 o6, hT, if_pos rfl, gXb_l, if_pos (show nI 0 = (0 : Int32) from rfl), gXb_l, if_pos (show nI 0 = (0 : Int32) from rfl), e]
  simp only [ob_eq]
theorem x_quickest1 (ok : okA tx n hm S L K) (htm : S.2.2.2[t]? = some tm) : AC (tx, n, hm, S, L, K, rd) (f_X9_quickest (nI t) (nI 1)) (.inl (qkF n hm S tm)) (tx, n, hm, S, L, K, rd) := by
  obtain ⟨o1, o2, h2, hn, o5, o6, o7, o8⟩ := id ok
  have h1 := ok_get o6 htm
  have hT : isT S (nI t) = true := by rw [isT_nI (by omega)]; exact decide_eq_true h1.2.1
  have hs := setOf_lt h1.1.2
  have h10 := lt1024 hs hn
  have hlen := okT_len h1.1
  refine AC.fr (a := 157) (b := 174) (by decide) (fun g hC => ?_)
  obtain ⟨g', e, f⟩ := c_firstQ (X := S.1) (Y := S.2.1) (E := S.2.2.1) (T := S.2.2.2) hC.2.1 h2 hn (by decide) hC.2.2.1 o6 htm
  refine ⟨g', ?_, f.wd (by decide) (by decide)⟩
  unfold f_X9_quickest f_X9_requireZeroOrOne
  rw [c_reqTeam hC.2.2.1 o6, hT, if_pos rfl, gXb_l, if_neg (show ¬ (nI 1 = (0 : Int32)) by decide), if_pos (show nI 1 = (1 : Int32) from rfl), gXb_l, if_neg (show ¬ (nI 1 = (0 : Int32)) by decide), e]
  simp only [ob_eq]
theorem x_about_bad (ok : okA tx n hm S L K) {i : Int32} (hi : decide (0 ≤ i.toInt ∧ i.toInt ≤ ((5 : Nat) : Int)) = false) : AC (tx, n, hm, S, L, K, rd) (f_X9_about i) (.inr 1) (tx, n, hm, S, L, K, rd) := by
  obtain ⟨o1, o2, h2, hn, o5, o6, o7, o8⟩ := id ok
  have q := j_of hi
  refine AC.ro (fun g hC => ?_)
  unfold f_X9_about
  rw [if_neg (show ¬ i = (0 : Int32) from q 0 (by decide) (by decide)), if_neg (show ¬ i = (1 : Int32) from q 1 (by decide) (by decide)), if_neg (show ¬ i = (2 : Int32) from q 2 (by decide) (by decide)), if_neg (show ¬ i = (3 : Int32) from q 3 (by decide) (by decide)), if_neg (show ¬ i = (4 : Int32) from q 4 (by decide) (by decide)), if_neg (show ¬ i = (5 : Int32) from q 5 (by decide) (by decide))]
theorem x_about0 (ok : okA tx n hm S L K) : AC (tx, n, hm, S, L, K, rd) (f_X9_about (nI 0)) (.inl (nI n)) (tx, n, hm, S, L, K, rd) := by
  obtain ⟨o1, o2, h2, hn, o5, o6, o7, o8⟩ := id ok
  refine AC.ro (fun g hC => ?_)
  unfold f_X9_about f_X0_count
  rw [if_pos (show nI 0 = (0 : Int32) from rfl), hC.2.1.1]
  simp only [ob_eq]
theorem x_about1 (ok : okA tx n hm S L K) : AC (tx, n, hm, S, L, K, rd) (f_X9_about (nI 1)) (.inl (nI S.2.2.2.length)) (tx, n, hm, S, L, K, rd) := by
  obtain ⟨o1, o2, h2, hn, o5, o6, o7, o8⟩ := id ok
  refine AC.ro (fun g hC => ?_)
  unfold f_X9_about f_X5_teamCount
  rw [if_neg (show ¬ (nI 1 = (0 : Int32)) by decide), if_pos (show nI 1 = (1 : Int32) from rfl), show g.1 16 9 = _ from hC.2.2.1.2.1]
  simp only [ob_eq]
theorem x_about2 (ok : okA tx n hm S L K) : AC (tx, n, hm, S, L, K, rd) (f_X9_about (nI 2)) (.inl (nI (fTeamsAt (n - 1) S.2.2.2 0))) (tx, n, hm, S, L, K, rd) := by
  obtain ⟨o1, o2, h2, hn, o5, o6, o7, o8⟩ := id ok
  refine AC.ro (fun g hC => ?_)
  unfold f_X9_about f_X0_chest
  rw [if_neg (show ¬ (nI 2 = (0 : Int32)) by decide), if_neg (show ¬ (nI 2 = (1 : Int32)) by decide), if_pos (show nI 2 = (2 : Int32) from rfl), hC.2.1.1, show nI n - (1 : Int32) = nI (n - 1) from pk_sub (a := n) (b := 1) (by omega)]
  simp only [ob_eq]
  rw [c_teamsAt hC.2.2.1 o6 hn (by omega)]
  simp only [ob_eq]
theorem x_about3 (ok : okA tx n hm S L K) : AC (tx, n, hm, S, L, K, rd) (f_X9_about (nI 3)) (.inl (fBest n S.2.2.2 0)) (tx, n, hm, S, L, K, rd) := by
  obtain ⟨o1, o2, h2, hn, o5, o6, o7, o8⟩ := id ok
  refine AC.ro (fun g hC => ?_)
  unfold f_X9_about 
  rw [if_neg (show ¬ (nI 3 = (0 : Int32)) by decide), if_neg (show ¬ (nI 3 = (1 : Int32)) by decide), if_neg (show ¬ (nI 3 = (2 : Int32)) by decide), if_pos (show nI 3 = (3 : Int32) from rfl), c_best hC.2.1 h2 hC.2.2.1 o6 hn]
  simp only [ob_eq]
theorem x_about4 (ok : okA tx n hm S L K) : AC (tx, n, hm, S, L, K, rd) (f_X9_about (nI 4)) (.inl (nI (cnt (fun i => (fAny S.2.2.2 0).testBit i) 10))) (tx, n, hm, S, L, K, rd) := by
  obtain ⟨o1, o2, h2, hn, o5, o6, o7, o8⟩ := id ok
  refine AC.ro (fun g hC => ?_)
  unfold f_X9_about 
  rw [if_neg (show ¬ (nI 4 = (0 : Int32)) by decide), if_neg (show ¬ (nI 4 = (1 : Int32)) by decide), if_neg (show ¬ (nI 4 = (2 : Int32)) by decide), if_neg (show ¬ (nI 4 = (3 : Int32)) by decide), if_pos (show nI 4 = (4 : Int32) from rfl), c_any hC.2.2.1 o6]
  simp only [ob_eq]
  rw [c_count (lt1024 (fAny_lt S.2.2.2 0 (Nat.two_pow_pos n) o6.2.2.2) hn)]
  simp only [ob_eq]
theorem x_about5 (ok : okA tx n hm S L K) : AC (tx, n, hm, S, L, K, rd) (f_X9_about (nI 5)) (.inl (fHints S.2.2.2 0)) (tx, n, hm, S, L, K, rd) := by
  obtain ⟨o1, o2, h2, hn, o5, o6, o7, o8⟩ := id ok
  refine AC.ro (fun g hC => ?_)
  unfold f_X9_about 
  rw [if_neg (show ¬ (nI 5 = (0 : Int32)) by decide), if_neg (show ¬ (nI 5 = (1 : Int32)) by decide), if_neg (show ¬ (nI 5 = (2 : Int32)) by decide), if_neg (show ¬ (nI 5 = (3 : Int32)) by decide), if_neg (show ¬ (nI 5 = (4 : Int32)) by decide), if_pos (show nI 5 = (5 : Int32) from rfl), c_hints hC.2.2.1 o6]
  simp only [ob_eq]
theorem x_place_no (ok : okA tx n hm S L K) {a : Int32} (i : Int32) (hP : decide (0 ≤ a.toInt ∧ a.toInt < n) = false) : AC (tx, n, hm, S, L, K, rd) (f_X9_place a i) (.inr 3) (tx, n, hm, S, L, K, rd) := by
  obtain ⟨o1, o2, h2, hn, o5, o6, o7, o8⟩ := id ok
  refine AC.ro (fun g hC => ?_)
  unfold f_X9_place
  rw [c_reqPlace hC.2.1 hn, hP, if_neg (by decide), gXb_r]
theorem x_holds_no (ok : okA tx n hm S L K) {a : Int32} (i : Int32) (hP : decide (0 ≤ a.toInt ∧ a.toInt < n) = false) : AC (tx, n, hm, S, L, K, rd) (f_X9_holds a i) (.inr 3) (tx, n, hm, S, L, K, rd) := by
  obtain ⟨o1, o2, h2, hn, o5, o6, o7, o8⟩ := id ok
  refine AC.ro (fun g hC => ?_)
  unfold f_X9_holds
  rw [c_reqPlace hC.2.1 hn, hP, if_neg (by decide), gXb_r]
theorem x_move_no (ok : okA tx n hm S L K) {a : Int32} (i : Int32) (k : Int32) (hP : decide (0 ≤ a.toInt ∧ a.toInt < n) = false) : AC (tx, n, hm, S, L, K, rd) (f_X9_move a i k) (.inr 3) (tx, n, hm, S, L, K, rd) := by
  obtain ⟨o1, o2, h2, hn, o5, o6, o7, o8⟩ := id ok
  refine AC.ro (fun g hC => ?_)
  unfold f_X9_move
  rw [c_reqPlace hC.2.1 hn, hP, if_neg (by decide), gXb_r]
theorem x_ease_no (ok : okA tx n hm S L K) {a : Int32} (hP : decide (0 ≤ a.toInt ∧ a.toInt < n) = false) : AC (tx, n, hm, S, L, K, rd) (f_X9_ease a) (.inr 3) (tx, n, hm, S, L, K, rd) := by
  obtain ⟨o1, o2, h2, hn, o5, o6, o7, o8⟩ := id ok
  refine AC.ro (fun g hC => ?_)
  unfold f_X9_ease
  rw [c_reqPlace hC.2.1 hn, hP, if_neg (by decide), gXb_r]
theorem x_place_bad (ok : okA tx n hm S L K) {p : Nat} (hp : p < n) {i : Int32} (hi : decide (0 ≤ i.toInt ∧ i.toInt ≤ ((3 : Nat) : Int)) = false) : AC (tx, n, hm, S, L, K, rd) (f_X9_place (nI p) i) (.inr 1) (tx, n, hm, S, L, K, rd) := by
  obtain ⟨o1, o2, h2, hn, o5, o6, o7, o8⟩ := id ok
  have hP : decide (0 ≤ (nI p).toInt ∧ (nI p).toInt < n) = true := by rw [nI_toInt (by omega)]; exact decide_eq_true (by omega)
  have q := j_of hi
  refine AC.ro (fun g hC => ?_)
  unfold f_X9_place
  rw [c_reqPlace hC.2.1 hn, hP, if_pos rfl, gXb_l, if_neg (show ¬ i = (0 : Int32) from q 0 (by decide) (by decide)), if_neg (show ¬ i = (1 : Int32) from q 1 (by decide) (by decide)), if_neg (show ¬ i = (2 : Int32) from q 2 (by decide) (by decide)), if_neg (show ¬ i = (3 : Int32) from q 3 (by decide) (by decide))]
theorem x_place0 (ok : okA tx n hm S L K) {p : Nat} (hp : p < n) : AC (tx, n, hm, S, L, K, rd) (f_X9_place (nI p) (nI 0)) (.inl (nI (S.1 p))) (tx, n, hm, S, L, K, rd) := by
  obtain ⟨o1, o2, h2, hn, o5, o6, o7, o8⟩ := id ok
  have hP : decide (0 ≤ (nI p).toInt ∧ (nI p).toInt < n) = true := by rw [nI_toInt (by omega)]; exact decide_eq_true (by omega)
  refine AC.ro (fun g hC => ?_)
  unfold f_X9_place
  rw [c_reqPlace hC.2.1 hn, hP, if_pos rfl, gXb_l, if_pos (show nI 0 = (0 : Int32) from rfl), c_xOf (X := S.1) (Y := S.2.1) (E := S.2.2.1) (T := S.2.2.2) hC.2.2.1 (by omega)]
  simp only [ob_eq]
theorem x_place1 (ok : okA tx n hm S L K) {p : Nat} (hp : p < n) : AC (tx, n, hm, S, L, K, rd) (f_X9_place (nI p) (nI 1)) (.inl (nI (S.2.1 p))) (tx, n, hm, S, L, K, rd) := by
  obtain ⟨o1, o2, h2, hn, o5, o6, o7, o8⟩ := id ok
  have hP : decide (0 ≤ (nI p).toInt ∧ (nI p).toInt < n) = true := by rw [nI_toInt (by omega)]; exact decide_eq_true (by omega)
  refine AC.ro (fun g hC => ?_)
  unfold f_X9_place
  rw [c_reqPlace hC.2.1 hn, hP, if_pos rfl, gXb_l, if_neg (show ¬ (nI 1 = (0 : Int32)) by decide), if_pos (show nI 1 = (1 : Int32) from rfl), c_yOf (X := S.1) (Y := S.2.1) (E := S.2.2.1) (T := S.2.2.2) hC.2.2.1 (by omega)]
  simp only [ob_eq]
theorem x_place2 (ok : okA tx n hm S L K) {p : Nat} (hp : p < n) : AC (tx, n, hm, S, L, K, rd) (f_X9_place (nI p) (nI 2)) (.inl (nI (fTeamsAt p S.2.2.2 0))) (tx, n, hm, S, L, K, rd) := by
  obtain ⟨o1, o2, h2, hn, o5, o6, o7, o8⟩ := id ok
  have hP : decide (0 ≤ (nI p).toInt ∧ (nI p).toInt < n) = true := by rw [nI_toInt (by omega)]; exact decide_eq_true (by omega)
  refine AC.ro (fun g hC => ?_)
  unfold f_X9_place
  rw [c_reqPlace hC.2.1 hn, hP, if_pos rfl, gXb_l, if_neg (show ¬ (nI 2 = (0 : Int32)) by decide), if_neg (show ¬ (nI 2 = (1 : Int32)) by decide), if_pos (show nI 2 = (2 : Int32) from rfl), c_teamsAt hC.2.2.1 o6 hn (by omega)]
  simp only [ob_eq]
theorem x_place3 (ok : okA tx n hm S L K) {p : Nat} (hp : p < n) : AC (tx, n, hm, S, L, K, rd) (f_X9_place (nI p) (nI 3)) (.inl (nI (fOpens (effH hm S.2.2.1) p (2 ^ n) 0 0))) (tx, n, hm, S, L, K, rd) := by
  obtain ⟨o1, o2, h2, hn, o5, o6, o7, o8⟩ := id ok
  have hP : decide (0 ≤ (nI p).toInt ∧ (nI p).toInt < n) = true := by rw [nI_toInt (by omega)]; exact decide_eq_true (by omega)
  refine AC.ro (fun g hC => ?_)
  unfold f_X9_place
  rw [c_reqPlace hC.2.1 hn, hP, if_pos rfl, gXb_l, if_neg (show ¬ (nI 3 = (0 : Int32)) by decide), if_neg (show ¬ (nI 3 = (1 : Int32)) by decide), if_neg (show ¬ (nI 3 = (2 : Int32)) by decide), if_pos (show nI 3 = (3 : Int32) from rfl), c_opens hC.2.1 hC.2.2.1 o6 hn (by omega)]
  simp only [ob_eq]
theorem x_holds_bad (ok : okA tx n hm S L K) {p : Nat} (hp : p < n) {i : Int32} (hi : decide (0 ≤ i.toInt ∧ i.toInt ≤ ((2 ^ n - 1 : Nat) : Int)) = false) : AC (tx, n, hm, S, L, K, rd) (f_X9_holds (nI p) i) (.inr 1) (tx, n, hm, S, L, K, rd) := by
  obtain ⟨o1, o2, h2, hn, o5, o6, o7, o8⟩ := id ok
  have hP : decide (0 ≤ (nI p).toInt ∧ (nI p).toInt < n) = true := by rw [nI_toInt (by omega)]; exact decide_eq_true (by omega)
  have h1024 : 2 ^ n ≤ 1024 := Nat.pow_le_pow_right (n := 2) (j := 10) (by decide) hn
  have hpos : 0 < 2 ^ n := Nat.two_pow_pos n
  refine AC.ro (fun g hC => ?_)
  unfold f_X9_holds fs_X9_holds_20
  rw [c_reqPlace hC.2.1 hn, hP, if_pos rfl, gXb_l]
  by_cases hneg : i < 0
  · rw [if_pos hneg]
  · rw [if_neg hneg, c_allPlaces hC.2.1 hn]
    simp only [ob_eq]
    rw [if_neg]
    intro hle
    obtain ⟨j, hj, rfl⟩ := nI_of hneg
    have h3 := of_decide_eq_false hi
    have h4 := Int32.le_iff_toInt_le.mp hle
    rw [nI_toInt hj, nI_toInt (by omega)] at h4
    rw [nI_toInt hj] at h3
    omega
theorem x_holds (ok : okA tx n hm S L K) {p : Nat} (hp : p < n) {j : Nat} (hj : j < 2 ^ n) : AC (tx, n, hm, S, L, K, rd) (f_X9_holds (nI p) (nI j)) (.inl (b2 (effH hm S.2.2.1 p j))) (tx, n, hm, S, L, K, rd) := by
  obtain ⟨o1, o2, h2, hn, o5, o6, o7, o8⟩ := id ok
  have hP : decide (0 ≤ (nI p).toInt ∧ (nI p).toInt < n) = true := by rw [nI_toInt (by omega)]; exact decide_eq_true (by omega)
  have h1024 : 2 ^ n ≤ 1024 := Nat.pow_le_pow_right (n := 2) (j := 10) (by decide) hn
  refine AC.ro (fun g hC => ?_)
  unfold f_X9_holds
  rw [c_reqPlace hC.2.1 hn, hP, if_pos rfl, gXb_l, if_neg (nI_pos (by omega)), c_allPlaces hC.2.1 hn]
  simp only [ob_eq]
  rw [if_pos (nI_le (by omega) (by omega)), c_eased hC.2.2.1]
  simp only [ob_eq]
  rw [c_isHeld hC.2.1 hn (by omega) (lt1024 o6.1 hn)]
  simp only [ob_eq, b2_gZb, if_true]
theorem x_deadEnds (ok : okA tx n hm S L K) : AC (tx, n, hm, S, L, K, rd) f_X9_deadEnds (nI (dedN n (effH hm S.2.2.1))) (tx, n, hm, S, L, K, rd) := by
  obtain ⟨o1, o2, h2, hn, o5, o6, o7, o8⟩ := id ok
  refine AC.fr (a := 157) (b := 174) (by decide) (fun g hC => ?_)
  obtain ⟨g', e, c⟩ := c_dead hC.2.1 h2 hn o6.1
  refine ⟨g', ?_, c.wd (by decide) (by decide)⟩
  unfold f_X9_deadEnds
  rw [c_eased hC.2.2.1]
  simp only [ob_eq]
  rw [e]
  simp only [ob_eq]
theorem x_easeBy (ok : okA tx n hm S L K) : AC (tx, n, hm, S, L, K, rd) f_X9_easeBy (if dedN n (effH hm S.2.2.1) = 0 then -9 else fFirst (ezP n hm S.2.2.1) n 0) (tx, n, hm, S, L, K, rd) := by
  obtain ⟨o1, o2, h2, hn, o5, o6, o7, o8⟩ := id ok
  have hcl := cnt_k (ded n (effH hm S.2.2.1)) (2 ^ n)
  have h1024 : 2 ^ n ≤ 1024 := Nat.pow_le_pow_right (n := 2) (j := 10) (by decide) hn
  have hcl : dedN n (effH hm S.2.2.1) ≤ 2 ^ n := hcl
  refine AC.fr (a := 157) (b := 174) (by decide) (fun g hC => ?_)
  obtain ⟨g1, e, c⟩ := c_dead hC.2.1 h2 hn o6.1
  have est : f_X9_easeBy g = if nI (dedN n (effH hm S.2.2.1)) = (0 : Int32) then (some ((-9 : Int32), g1)) else (fb_X9_easeBy_24 gFuel (nI S.2.2.1) (0 : Int32) g1) := by
    unfold f_X9_easeBy
    rw [c_eased hC.2.2.1]
    simp only [ob_eq, gl_eq]
    rw [e]
    simp only [ob_eq]
  rw [est]
  by_cases e9 : dedN n (effH hm S.2.2.1) = 0
  · rw [if_pos ((nI_z (by omega)).mpr e9), if_pos e9]
    exact ⟨g1, rfl, c.wd (by decide) (by decide)⟩
  · obtain ⟨g2, e2, c2⟩ := c_easeBy_l (hm := hm) h2 hn o6.1 n g1 0 gFuel (by omega) (by unfold gFuel; omega) (cH_fr hC.2.1 c (by omega))
    rw [if_neg (fun e8 => e9 ((nI_z (by omega)).mp e8)), if_neg e9]
    have fr := c.tr c2
    exact ⟨g2, e2, fr.wd (by decide) (by decide)⟩
theorem x_clearText (ok : okA tx n hm S L K) : AC (tx, n, hm, S, L, K, rd) f_X9_clearText (nI tx.length) ([], n, hm, S, L, K, rd) := by
  refine AC.st (fun g hC => ?_)
  refine ⟨gI1 g 1 1 0, ?_, ⟨⟨?_, fun j c hc => by simp at hc⟩, ?_, ?_, ?_, ?_⟩, fun j hj => by rw [gI1_1, if_neg (by omega)]⟩
  · unfold f_X9_clearText f_X6_empty
    simp only [gl_eq, ob_eq]
    rw [hC.1.1]
  · rw [r_self, if_pos rfl]; rfl
  · have fr : frm 1 2 g (gI1 g 1 1 0) := frm.rf.i1 (by omega) (by omega)
    exact cH_fr hC.2.1 fr (by omega)
  · exact cS_eq hC.2.2.1 (fun j hj => by rw [gI1_1, if_neg (by omega)])
  · exact cMem_eq hC.2.2.2.1 (fun j a b => by rw [gI1_1, if_neg (by omega)])
  · exact slC_eq hC.2.2.2.2 (fun j a b => by rw [gI1_1, if_neg (by omega)])
end OPS
