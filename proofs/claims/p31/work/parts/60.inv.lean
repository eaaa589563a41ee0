/-! PURE: what holds between two calls; what a call does. -/
def okA (tx : List Nat) (n : Nat) (hm : Nat → Nat) (S : aS) (L : List aS) (K : Nat → Option aS) : Prop := tx.length ≤ 120 ∧ (∀ c ∈ tx, c < 256) ∧ 2 ≤ n ∧ n ≤ 10 ∧ (∀ s, s < 512 → hm s < 2 ^ n) ∧ okS n S ∧ okL n L ∧ ∀ i S', K i = some S' → okS n S'
def txC (g : gG) (tx : List Nat) : Prop := g.1 1 1 = nI tx.length ∧ ∀ j c, tx[j]? = some c → g.1 2 j = nI c
def txM (g : gG) (tx : List Nat) : Prop := g.1 174 2 = nI tx.length ∧ ∀ j c, tx[j]? = some c → g.1 175 j = nI c
def slC (g : gG) (K : Nat → Option aS) : Prop := ∀ i, i < 2 → (K i = none → g.1 155 i = 0) ∧ ∀ S', K i = some S' → g.1 155 i = 1 ∧ cS g (139 + 8 * i) S'
def slM (g : gG) (n : Nat) (hm : Nat → Nat) (K : Nat → Option aS) : Prop := ∀ i, i < 2 → (K i = none → g.1 187 i = 0) ∧ ∀ S', K i = some S' → g.1 187 i = 1 ∧ mS (fun j => g.1 186 (394 * i + j)) n hm S'
def InvC (tx : List Nat) (n : Nat) (hm : Nat → Nat) (S : aS) (L : List aS) (K : Nat → Option aS) (g : gG) : Prop := txC g tx ∧ cH g n hm ∧ cS g 16 S ∧ cMem g L ∧ slC g K
def InvM (tx : List Nat) (n : Nat) (hm : Nat → Nat) (S : aS) (L : List aS) (K : Nat → Option aS) (g : gG) : Prop := txM g tx ∧ mS (g.1 183) n hm S ∧ mMem g n hm L ∧ slM g n hm K
theorem cS_eq {g g' : gG} {k : Nat} {S : aS} (h : cS g k S) (e : ∀ j, j < 8 → g'.1 (k + j) = g.1 (k + j)) : cS g' k S := by
  obtain ⟨h1, h2, h3, h4⟩ := h
  have e0 := e 0 (by omega)
  refine ⟨?_, ?_, ?_, ?_⟩
  · show g'.1 (k + 0) 8 = _; rw [e0]; exact h1
  · show g'.1 (k + 0) 9 = _; rw [e0]; exact h2
  · intro p hp
    show g'.1 (k + 1) p = _ ∧ g'.1 (k + 2) p = _
    rw [e 1 (by omega), e 2 (by omega)]
    exact h3 p hp
  · intro t tm ht
    show g'.1 (k + 3) t = _ ∧ g'.1 (k + 4) t = _ ∧ g'.1 (k + 5) t = _ ∧ g'.1 (k + 6) t = _ ∧ _
    rw [e 3 (by omega), e 4 (by omega), e 5 (by omega), e 6 (by omega)]
    have := h4 t tm ht
    refine ⟨this.1, this.2.1, this.2.2.1, this.2.2.2.1, ?_⟩
    intro j p hp
    show g'.1 (k + 7) (10 * t + j) = _
    rw [e 7 (by omega)]
    exact this.2.2.2.2 j p hp
theorem cMem_eq {g g' : gG} {L : List aS} (h : cMem g L) (e : ∀ j, 24 ≤ j → j < 138 → g'.1 j = g.1 j) : cMem g' L := by
  obtain ⟨h1, h2, f, h3, h4, h5⟩ := h
  refine ⟨h1, by rw [e 24 (by omega) (by omega)]; exact h2, f, h3, by rw [e 24 (by omega) (by omega)]; exact h4, ?_⟩
  intro i S hS
  exact cS_eq (h5 i S hS) (fun j hj => e _ (by omega) (by omega))
theorem slC_eq {g g' : gG} {K : Nat → Option aS} (h : slC g K) (e : ∀ j, 139 ≤ j → j < 156 → g'.1 j = g.1 j) : slC g' K := by
  intro i hi
  obtain ⟨h1, h2⟩ := h i hi
  refine ⟨fun hn => by rw [e 155 (by omega) (by omega)]; exact h1 hn, fun S' hS => ?_⟩
  obtain ⟨h3, h4⟩ := h2 S' hS
  exact ⟨by rw [e 155 (by omega) (by omega)]; exact h3, cS_eq h4 (fun j hj => e _ (by omega) (by omega))⟩
section IV
variable {tx : List Nat} {n : Nat} {hm : Nat → Nat} {S : aS} {L : List aS} {K : Nat → Option aS}
theorem InvC_eq {g g' : gG} (h : InvC tx n hm S L K g) (e : ∀ j, (j = 1 ∨ j = 2 ∨ (14 ≤ j ∧ j < 156)) → g'.1 j = g.1 j) : InvC tx n hm S L K g' := by
  obtain ⟨h1, h2, h3, h4, h5⟩ := h
  refine ⟨⟨?_, ?_⟩, ⟨?_, ?_⟩, ?_, ?_, ?_⟩
  · rw [e 1 (by omega)]; exact h1.1
  · intro j c hc
    rw [e 2 (by omega)]; exact h1.2 j c hc
  · rw [e 14 (by omega)]; exact h2.1
  · intro s hs
    rw [e 15 (by omega)]; exact h2.2 s hs
  · exact cS_eq h3 (fun j hj => e _ (by omega))
  · exact cMem_eq h4 (fun j a b => e _ (by omega))
  · exact slC_eq h5 (fun j a b => e _ (by omega))
theorem InvC_fr {g g' : gG} {a b : Nat} (h : InvC tx n hm S L K g) (f : frm a b g g') (ha : 156 ≤ a) : InvC tx n hm S L K g' := InvC_eq h (fun j hj => f.1 j (by omega))
theorem InvM_eq {g g' : gG} (h : InvM tx n hm S L K g) (e1 : g'.1 174 2 = g.1 174 2) (e2 : g'.1 174 16 = g.1 174 16) (e : ∀ j, (j = 175 ∨ j = 183 ∨ j = 185 ∨ j = 186 ∨ j = 187) → g'.1 j = g.1 j) : InvM tx n hm S L K g' := by
  obtain ⟨h1, h2, h3, h4⟩ := h
  refine ⟨⟨?_, ?_⟩, ?_, ⟨h3.1, ?_, ?_⟩, ?_⟩
  · rw [e1]; exact h1.1
  · intro j c hc
    rw [e 175 (by omega)]; exact h1.2 j c hc
  · rw [e 183 (by omega)]; exact h2
  · rw [e2]; exact h3.2.1
  · intro i S' hS
    rw [e 185 (by omega)]; exact h3.2.2 i S' hS
  · intro i hi
    rw [e 187 (by omega), e 186 (by omega)]; exact h4 i hi
theorem InvM_r {g : gG} (c : Int32) (h : InvM tx n hm S L K g) : InvM tx n hm S L K (gI1 g 174 0 c) := by
  refine InvM_eq h ?_ ?_ (fun j hj => ?_)
  · rw [r_self, if_neg (by decide)]
  · rw [r_self, if_neg (by decide)]
  · rw [gI1_1, if_neg (by omega)]
theorem InvM_fr {g g' : gG} {a b : Nat} (h : InvM tx n hm S L K g) (f : frm a b g g') (ha : 188 ≤ a ∨ (184 ≤ a ∧ b ≤ 185)) : InvM tx n hm S L K g' := by
  refine InvM_eq h ?_ ?_ (fun j hj => f.1 j (by omega))
  · rw [f.1 174 (by omega)]
  · rw [f.1 174 (by omega)]
end IV
def stC (x : Option ((Int32 ⊕ Nat) × gG)) (g : gG) (res : Int32 ⊕ Nat) (P : gG → Prop) : Prop := ∃ g', x = some (res, g') ∧ P g' ∧ ∀ j, (174 ≤ j ∨ j = 6 ∨ j = 7) → g'.1 j = g.1 j
def stM (y : Option (Int32 × gG)) (g : gG) (b code : Int32) (P : gG → Prop) : Prop := ∃ g', y = some (b, g') ∧ P g' ∧ g'.1 174 0 = code ∧ (∀ j, j < 174 → g'.1 j = g.1 j) ∧ g'.2 = g.2
def resM (res : Int32 ⊕ Nat) (y : Option (Int32 × gG)) (g : gG) (G : Nat → gG → Option (Int32 × gG)) (P : gG → Prop) : Prop := match res with
  | .inl r => stM y g r 0 P
  | .inr e => ∃ b c, ¬ c = 0 ∧ (∀ g4, G e g4 = some (c, g4)) ∧ stM y g b c P
def opOK (tx : List Nat) (n : Nat) (hm : Nat → Nat) (S : aS) (L : List aS) (K : Nat → Option aS) (X : gG → Option ((Int32 ⊕ Nat) × gG)) (Y : gG → Option (Int32 × gG)) (G : Nat → gG → Option (Int32 × gG)) : Prop := ∃ res tx' n' hm' S' L' K', okA tx' n' hm' S' L' K' ∧ (∀ g, InvC tx n hm S L K g → stC (X g) g res (InvC tx' n' hm' S' L' K')) ∧ ∀ g, InvM tx n hm S L K g → resM res (Y g) g G (InvM tx' n' hm' S' L' K')
/-- the reader's coordinates are digits -/
def rdC (g : gG) : Prop := ∀ p, p < 10 → (∃ v, v ≤ 9 ∧ g.1 6 p = nI v) ∧ ∃ v, v ≤ 9 ∧ g.1 7 p = nI v
theorem rdC_eq {g g' : gG} (h : rdC g) (e6 : g'.1 6 = g.1 6) (e7 : g'.1 7 = g.1 7) : rdC g' := by
  intro p hp
  rw [e6, e7]; exact h p hp
def Inv (g : gG) : Prop := ∃ tx n hm S L K, okA tx n hm S L K ∧ InvC tx n hm S L K g ∧ InvM tx n hm S L K g ∧ rdC g
def outF : Int32 → gG → Option (Int32 × gG) := fun r2 g1 => if inb (0 : Int32) 1 = true then gLet (gL1 g1 193 (0 : Int32).toNatClampNeg r2.toInt64) (fun g7 => some ((0 : Int32), g7)) else none
def G12 : Nat → gG → Option (Int32 × gG) := fun n3 g4 => if n3 = 1 then (some ((1 : Int32), g4)) else (if n3 = 2 then (some ((2 : Int32), g4)) else (none))
def G2 : Nat → gG → Option (Int32 × gG) := fun n3 g4 => if n3 = 2 then (some ((1 : Int32), g4)) else (none)
def G1 : Nat → gG → Option (Int32 × gG) := fun n3 g4 => if n3 = 1 then (some ((1 : Int32), g4)) else (none)
def G31 : Nat → gG → Option (Int32 × gG) := fun n3 g4 => if n3 = 3 then (some ((1 : Int32), g4)) else (if n3 = 1 then (some ((2 : Int32), g4)) else (none))
def G3 : Nat → gG → Option (Int32 × gG) := fun n3 g4 => if n3 = 3 then (some ((1 : Int32), g4)) else (none)
def G32 : Nat → gG → Option (Int32 × gG) := fun n3 g4 => if n3 = 3 then (some ((1 : Int32), g4)) else (if n3 = 2 then (some ((2 : Int32), g4)) else (none))
theorem outF_eq (r : Int32) (g : gG) : outF r g = some (0, gL1 g 193 0 r.toInt64) := by
  unfold outF
  rw [if_pos (show inb 0 1 = true by decide), clamp0, gl_eq]
theorem gL1_1 (g : gG) (k i : Nat) (v : Int64) : (gL1 g k i v).1 = g.1 := rfl
theorem gL1_2 (g : gG) (k i : Nat) (v : Int64) : (gL1 g k i v).2 k i = v := by
  unfold gL1 va_up vp_updL
  simp
theorem lg_refl (x : Int64) : lg_cmp x x = 0 := (lg_cmp_eq x x).mpr rfl
theorem gXh_l {α β : Type} {r : α} {g' : gG} (F : α → gG → Option β) (G : Nat → gG → Option β) : gXh (some (.inl r, g')) F G = F r g' := rfl
theorem gXh_r {α β : Type} {e : Nat} {g' : gG} (F : α → gG → Option β) (G : Nat → gG → Option β) : gXh (some (.inr e, g')) F G = G e g' := rfl
theorem gXb_l {α β : Type} {r : α} {g' : gG} (F : α → gG → Option ((β ⊕ Nat) × gG)) : gXb (some (.inl r, g')) F = F r g' := rfl
theorem gXb_r {α β : Type} {e : Nat} {g' : gG} (F : α → gG → Option ((β ⊕ Nat) × gG)) : gXb (some ((.inr e : α ⊕ Nat), g')) F = some (.inr e, g') := rfl
section OP
variable {tx : List Nat} {n : Nat} {hm : Nat → Nat} {S : aS} {L : List aS} {K : Nat → Option aS} {X : gG → Option ((Int32 ⊕ Nat) × gG)} {Y : gG → Option (Int32 × gG)} {G : Nat → gG → Option (Int32 × gG)}
theorem opOK_same (ok : okA tx n hm S L K) (res : Int32 ⊕ Nat) (h1 : ∀ g, InvC tx n hm S L K g → stC (X g) g res (InvC tx n hm S L K)) (h2 : ∀ g, InvM tx n hm S L K g → resM res (Y g) g G (InvM tx n hm S L K)) : opOK tx n hm S L K X Y G := ⟨res, tx, n, hm, S, L, K, ok, h1, h2⟩
theorem stC_rf {g : gG} {res : Int32 ⊕ Nat} {x : Option ((Int32 ⊕ Nat) × gG)} (h : InvC tx n hm S L K g) (e : x = some (res, g)) : stC x g res (InvC tx n hm S L K) := ⟨g, e, h, fun j _ => rfl⟩
theorem stC_fr {g g' : gG} {res : Int32 ⊕ Nat} {x : Option ((Int32 ⊕ Nat) × gG)} {a b : Nat} (h : InvC tx n hm S L K g) (e : x = some (res, g')) (f : frm a b g g') (ha : 156 ≤ a) (hb : b ≤ 174) : stC x g res (InvC tx n hm S L K) := ⟨g', e, InvC_fr h f ha, fun j hj => f.1 j (by omega)⟩
theorem stM_rf {g : gG} {b c : Int32} {y : Option (Int32 × gG)} (h : InvM tx n hm S L K g) (e : y = some (b, gI1 g 174 0 c)) : stM y g b c (InvM tx n hm S L K) := ⟨_, e, InvM_r c h, by rw [r_self, if_pos rfl], fun j hj => by rw [gI1_1, if_neg (by omega)], rfl⟩
theorem stM_fr {g g' : gG} {v c : Int32} {y : Option (Int32 × gG)} {a b : Nat} (h : InvM tx n hm S L K g) (e : y = some (v, g')) (f : frm a b (gI1 g 174 0 c) g') (ha : 188 ≤ a ∨ (184 ≤ a ∧ b ≤ 185)) : stM y g v c (InvM tx n hm S L K) := ⟨g', e, InvM_fr (InvM_r c h) f ha, by rw [f.1 174 (by omega), r_self, if_pos rfl], fun j hj => by rw [f.1 j (by omega), gI1_1, if_neg (by omega)], f.2⟩
end OP
theorem one0 : ¬ ((1 : Int32) = 0) := by decide
theorem zero0 : ((0 : Int32) = 0) := rfl
theorem in_nI {a : Int32} {k : Nat} (h : decide (0 ≤ a.toInt ∧ a.toInt ≤ (k : Int)) = true) : ∃ j, j ≤ k ∧ a = nI j := by
  have h1 := of_decide_eq_true h
  have h2 := a.toInt_lt
  refine ⟨a.toInt.toNat, by omega, ?_⟩
  apply Int32.toInt_inj.mp
  rw [nI_toInt (by omega)]
  omega
theorem nin_ne {a : Int32} {k j : Nat} (hk : k < 2 ^ 31) (h : decide (0 ≤ a.toInt ∧ a.toInt ≤ (k : Int)) = false) (hj : j ≤ k) : ¬ a = nI j := by
  intro e
  have h1 := of_decide_eq_false h
  rw [e, nI_toInt (by omega)] at h1
  omega
theorem resM_l {r : Int32} {y : Option (Int32 × gG)} {g : gG} {G : Nat → gG → Option (Int32 × gG)} {P : gG → Prop} (h : stM y g r 0 P) : resM (.inl r) y g G P := h
theorem resM_r {e : Nat} {y : Option (Int32 × gG)} {g : gG} {G : Nat → gG → Option (Int32 × gG)} {P : gG → Prop} (b c : Int32) (hc : ¬ c = 0) (hG : ∀ g4, G e g4 = some (c, g4)) (h : stM y g b c P) : resM (.inr e) y g G P := ⟨b, c, hc, hG, h⟩
