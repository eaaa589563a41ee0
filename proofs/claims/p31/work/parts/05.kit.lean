/-! MY KIT: one world for class and reference: the cells lie in a row from gB Γ on; what changes is ints (g.1) and longs (g.2). -/
abbrev gE : Type := (Nat → ClassId) × (Nat → Nat → Nat) × (Nat → ClassId) × Nat × Nat × Nat
abbrev gG : Type := (Nat → Nat → Int32) × (Nat → Nat → Int64)
abbrev gS : Type := (Nat → Int32) → (Nat → Int64) → va_E
def gB (Γ : gE) : Nat := Γ.2.2.2.2.1
def gV (Γ : gE) : Nat := Γ.2.2.2.1
def gD (Γ : gE) : va_G := (Γ.1, Γ.2.1)
def gM : Nat := 174
def gA0 (Γ : gE) : Nat → Prop := fun q => gB Γ ≤ q
/-- the cells of one object's world -/
def gA (Γ : gE) : Nat → Prop := fun q => gB Γ ≤ q ∧ q < gB Γ + gM
theorem gA_0 {Γ : gE} {q : Nat} (h : gA Γ q) : gA0 Γ q := h.1
def gcls : List vw_C := [(RX0, TX0, 2), (RX1, TX1, 3), (RX2, TX2, 12), (RX3, TX3, 3), (RX4, TX4, 2), (RX5, TX5, 10), (RX6, TX6, 2), (RX7, TX7, 2), (RX8, TX8, 8), (RX9, TX9, 10)]
def gtys (Γ : gE) : List (ClassId × FieldType) := [(Γ.2.2.1 0, .int), (Γ.2.2.1 1, .boolean), (Γ.2.2.1 2, .long), (Γ.2.2.1 3, .char), (Γ.2.2.1 4, .object RX5)]
def gsI (Γ : gE) (n : Nat) : gS := fun x _ => .inl (Γ.2.2.1 0, n, .inl x)
def gsZ (Γ : gE) (n : Nat) : gS := fun x _ => .inl (Γ.2.2.1 1, n, .inl x)
def gsC (Γ : gE) (n : Nat) : gS := fun x _ => .inl (Γ.2.2.1 3, n, .inl x)
def gsJ (Γ : gE) (n : Nat) : gS := fun _ y => .inl (Γ.2.2.1 2, n, .inr (.inl y))
def gsS (Γ : gE) (n k : Nat) : gS := fun _ _ => .inl (Γ.2.2.1 4, n, .inr (.inr (.inr (.inr (fun i => if i < n then some (gB Γ + (k + 8 * i)) else none)))))
def gf0 (Γ : gE) (x : Nat → Int32) (y : Nat → Int64) : List Value := [.ref (gB Γ + 15), .int (x 1)]
def gf1 (Γ : gE) (x : Nat → Int32) (y : Nat → Int64) : List Value := [.ref (gB Γ + 25), .int (x 1), .int (x 2)]
def gf2 (Γ : gE) (x : Nat → Int32) (y : Nat → Int64) : List Value := [.ref (gB Γ + 4), .ref (gB Γ + 6), .ref (gB Γ + 7), .ref (gB Γ + 8), .ref (gB Γ + 9), .ref (gB Γ + 10), .ref (gB Γ + 11), .ref (gB Γ + 12), .ref (gB Γ + 13), .int (x 9), .int (x 10), .int (x 11)]
def gf3 (Γ : gE) (x : Nat → Int32) (y : Nat → Int64) : List Value := [.ref (gB Γ + 14), .ref (gB Γ + 156), .ref (gB Γ + 165)]
def gf4 (Γ : gE) (x : Nat → Int32) (y : Nat → Int64) : List Value := [.ref (gB Γ + 14), .long (y 1)]
def gf5 (Γ : gE) (k : Nat) (x : Nat → Int32) (y : Nat → Int64) : List Value := [.ref (gB Γ + 14), .ref (gB Γ + (k + 1)), .ref (gB Γ + (k + 2)), .ref (gB Γ + (k + 3)), .ref (gB Γ + (k + 4)), .ref (gB Γ + (k + 5)), .ref (gB Γ + (k + 6)), .ref (gB Γ + (k + 7)), .int (x 8), .int (x 9)]
def gf6 (Γ : gE) (x : Nat → Int32) (y : Nat → Int64) : List Value := [.ref (gB Γ + 2), .int (x 1)]
def gf7 (Γ : gE) (x : Nat → Int32) (y : Nat → Int64) : List Value := [.ref (gB Γ + 5), .int (x 1)]
def gf8 (Γ : gE) (x : Nat → Int32) (y : Nat → Int64) : List Value := [.ref (gB Γ + 14), .ref (gB Γ + 157), .ref (gB Γ + 158), .ref (gB Γ + 159), .ref (gB Γ + 160), .ref (gB Γ + 161), .ref (gB Γ + 162), .ref (gB Γ + 163)]
def gf9 (Γ : gE) (x : Nat → Int32) (y : Nat → Int64) : List Value := [.ref (gB Γ + 1), .ref (gB Γ + 3), .ref (gB Γ + 14), .ref (gB Γ + 16), .ref (gB Γ + 24), .ref (gB Γ + 138), .ref (gB Γ + 155), .ref (gB Γ + 156), .ref (gB Γ + 164), .ref (gB Γ + 173)]
def gStB (Γ : gE) (k : Nat) : List gS := [fun x y => .inr (5, gf5 Γ k x y), gsI Γ 10, gsI Γ 10, gsI Γ 4, gsI Γ 4, gsI Γ 4, gsI Γ 4, gsI Γ 40]
def gShL (Γ : gE) : List gS := [(fun x y => .inr (9, gf9 Γ x y)), (fun x y => .inr (6, gf6 Γ x y)), gsC Γ 120, (fun x y => .inr (2, gf2 Γ x y)), (fun x y => .inr (7, gf7 Γ x y)), gsJ Γ 960, gsI Γ 10, gsI Γ 10, gsJ Γ 80, gsI Γ 121, gsI Γ 121, gsZ Γ 121, gsZ Γ 121, gsZ Γ 121, (fun x y => .inr (0, gf0 Γ x y)), gsI Γ 512] ++ (gStB Γ 16 ++ ([(fun x y => .inr (1, gf1 Γ x y)), gsS Γ 14 26] ++ (gStB Γ 26 ++ (gStB Γ 34 ++ (gStB Γ 42 ++ (gStB Γ 50 ++ (gStB Γ 58 ++ (gStB Γ 66 ++ (gStB Γ 74 ++ (gStB Γ 82 ++ (gStB Γ 90 ++ (gStB Γ 98 ++ (gStB Γ 106 ++ (gStB Γ 114 ++ (gStB Γ 122 ++ (gStB Γ 130 ++ ([gsS Γ 2 139] ++ (gStB Γ 139 ++ (gStB Γ 147 ++ ([gsZ Γ 2, (fun x y => .inr (8, gf8 Γ x y)), gsI Γ 1024, gsI Γ 1024, gsI Γ 1024, gsI Γ 1024, gsI Γ 1024, gsI Γ 5120, gsI Γ 110, (fun x y => .inr (3, gf3 Γ x y))] ++ (gStB Γ 165 ++ ([(fun x y => .inr (4, gf4 Γ x y))]))))))))))))))))))))))
def gSh (Γ : gE) (k : Nat) : gS := (gShL Γ).getD k (fun _ _ => .inr (0, []))
def gN (_ : gE) : Nat := gM
theorem gN_lt {Γ : gE} {k : Nat} (h : k < gM) : k < gN Γ := h
def lay (Γ : gE) (g : gG) : va_W := (List.range (gN Γ)).map (fun k => (gB Γ + k, gSh Γ k (g.1 k) (g.2 k)))
theorem lay_get {Γ : gE} {g : gG} {k : Nat} (h : k < gN Γ) : (lay Γ g)[k]? = some (gB Γ + k, gSh Γ k (g.1 k) (g.2 k)) := by
  unfold lay
  rw [List.getElem?_map, List.getElem?_range h]
  rfl
theorem lay_len {Γ : gE} {g : gG} : (lay Γ g).length = gN Γ := by unfold lay; rw [List.length_map, List.length_range]
theorem lay_D {Γ : gE} {g : gG} : va_D (gA Γ) (lay Γ g) := by
  have at' : ∀ (k : Nat) (q : Nat × va_E), (lay Γ g)[k]? = some q → q.1 = gB Γ + k := by
    intro k q h
    have hk : k < gN Γ := by
      have := (List.getElem?_eq_some_iff.mp h).1
      rwa [lay_len] at this
    rw [lay_get hk] at h
    cases h
    rfl
  refine ⟨fun i j p q hi hj hpq => ?_, fun k q h => ?_⟩
  · have := at' i p hi
    have := at' j q hj
    omega
  · have h1 := at' k q h
    have hk : k < gM := by
      have := (List.getElem?_eq_some_iff.mp h).1
      rwa [lay_len] at this
    unfold gA
    omega
theorem lay_set {Γ : gE} {g g' : gG} {k : Nat} {e : va_E} (hk : k < gN Γ) (he : gSh Γ k (g'.1 k) (g'.2 k) = e) (hne : ∀ j, j ≠ k → g'.1 j = g.1 j ∧ g'.2 j = g.2 j) : (lay Γ g).set k (gB Γ + k, e) = lay Γ g' := by
  apply List.ext_getElem?
  intro i
  by_cases hi : i = k
  · subst hi
    rw [lay_get hk, List.getElem?_set_self (by rw [lay_len]; exact hk), he]
  · rw [List.getElem?_set_ne (fun h => hi h.symm)]
    by_cases h : i < gN Γ
    · rw [lay_get h, lay_get h, (hne i hi).1, (hne i hi).2]
    · rw [List.getElem?_eq_none (by rw [lay_len]; omega), List.getElem?_eq_none (by rw [lay_len]; omega)]
def gI1 (g : gG) (k i : Nat) (v : Int32) : gG := (va_up g.1 k (upd (g.1 k) i v), g.2)
def gL1 (g : gG) (k i : Nat) (v : Int64) : gG := (g.1, va_up g.2 k (vp_updL (g.2 k) i v))
theorem gI1_k {g : gG} {k i : Nat} {v : Int32} : (gI1 g k i v).1 k = upd (g.1 k) i v := by unfold gI1 va_up; simp
theorem gL1_k {g : gG} {k i : Nat} {v : Int64} : (gL1 g k i v).2 k = vp_updL (g.2 k) i v := by unfold gL1 va_up; simp
theorem gI1_ne {g : gG} {k i : Nat} {v : Int32} : ∀ j, j ≠ k → (gI1 g k i v).1 j = g.1 j ∧ (gI1 g k i v).2 j = g.2 j := by
  intro j hj; unfold gI1 va_up; simp [hj]
theorem gL1_ne {g : gG} {k i : Nat} {v : Int64} : ∀ j, j ≠ k → (gL1 g k i v).1 j = g.1 j ∧ (gL1 g k i v).2 j = g.2 j := by
  intro j hj; unfold gL1 va_up; simp [hj]
def isI (k n : Nat) : Prop := k < gM ∧ ∀ Γ, gSh Γ k = gsI Γ n
def isZ (k n : Nat) : Prop := k < gM ∧ ∀ Γ, gSh Γ k = gsZ Γ n
def isC (k n : Nat) : Prop := k < gM ∧ ∀ Γ, gSh Γ k = gsC Γ n
def isJ (Γ : gE) (k n : Nat) : Prop := k < gN Γ ∧ gSh Γ k = gsJ Γ n
def isS (k n k0 : Nat) : Prop := k < gM ∧ ∀ Γ, gSh Γ k = gsS Γ n k0
def gSts : List Nat := [16, 26, 34, 42, 50, 58, 66, 74, 82, 90, 98, 106, 114, 122, 130, 139, 147, 165]
def isSt (k : Nat) : Prop := k ∈ gSts
theorem isSt_all {P : Nat → Prop} (h : ∀ k ∈ gSts, P k) {k : Nat} (hk : isSt k) : P k := h k hk
theorem isSt_o {k : Nat} (hk : isSt k) : k < gM ∧ ∀ Γ, gSh Γ k = fun x y => .inr (5, gf5 Γ k x y) := isSt_all (P := fun k => k < gM ∧ ∀ Γ, gSh Γ k = fun x y => .inr (5, gf5 Γ k x y)) (List.forall_mem_cons.mpr ⟨⟨by decide, fun _ => rfl⟩, List.forall_mem_cons.mpr ⟨⟨by decide, fun _ => rfl⟩, List.forall_mem_cons.mpr ⟨⟨by decide, fun _ => rfl⟩, List.forall_mem_cons.mpr ⟨⟨by decide, fun _ => rfl⟩, List.forall_mem_cons.mpr ⟨⟨by decide, fun _ => rfl⟩, List.forall_mem_cons.mpr ⟨⟨by decide, fun _ => rfl⟩, List.forall_mem_cons.mpr ⟨⟨by decide, fun _ => rfl⟩, List.forall_mem_cons.mpr ⟨⟨by decide, fun _ => rfl⟩, List.forall_mem_cons.mpr ⟨⟨by decide, fun _ => rfl⟩, List.forall_mem_cons.mpr ⟨⟨by decide, fun _ => rfl⟩, List.forall_mem_cons.mpr ⟨⟨by decide, fun _ => rfl⟩, List.forall_mem_cons.mpr ⟨⟨by decide, fun _ => rfl⟩, List.forall_mem_cons.mpr ⟨⟨by decide, fun _ => rfl⟩, List.forall_mem_cons.mpr ⟨⟨by decide, fun _ => rfl⟩, List.forall_mem_cons.mpr ⟨⟨by decide, fun _ => rfl⟩, List.forall_mem_cons.mpr ⟨⟨by decide, fun _ => rfl⟩, List.forall_mem_cons.mpr ⟨⟨by decide, fun _ => rfl⟩, List.forall_mem_cons.mpr ⟨⟨by decide, fun _ => rfl⟩, fun _ h => absurd h List.not_mem_nil⟩⟩⟩⟩⟩⟩⟩⟩⟩⟩⟩⟩⟩⟩⟩⟩⟩⟩) hk
theorem isSt_1 {k : Nat} (hk : isSt k) : isI (k + 1) 10 := isSt_all (P := fun k => isI (k + 1) 10) (List.forall_mem_cons.mpr ⟨⟨by decide, fun _ => rfl⟩, List.forall_mem_cons.mpr ⟨⟨by decide, fun _ => rfl⟩, List.forall_mem_cons.mpr ⟨⟨by decide, fun _ => rfl⟩, List.forall_mem_cons.mpr ⟨⟨by decide, fun _ => rfl⟩, List.forall_mem_cons.mpr ⟨⟨by decide, fun _ => rfl⟩, List.forall_mem_cons.mpr ⟨⟨by decide, fun _ => rfl⟩, List.forall_mem_cons.mpr ⟨⟨by decide, fun _ => rfl⟩, List.forall_mem_cons.mpr ⟨⟨by decide, fun _ => rfl⟩, List.forall_mem_cons.mpr ⟨⟨by decide, fun _ => rfl⟩, List.forall_mem_cons.mpr ⟨⟨by decide, fun _ => rfl⟩, List.forall_mem_cons.mpr ⟨⟨by decide, fun _ => rfl⟩, List.forall_mem_cons.mpr ⟨⟨by decide, fun _ => rfl⟩, List.forall_mem_cons.mpr ⟨⟨by decide, fun _ => rfl⟩, List.forall_mem_cons.mpr ⟨⟨by decide, fun _ => rfl⟩, List.forall_mem_cons.mpr ⟨⟨by decide, fun _ => rfl⟩, List.forall_mem_cons.mpr ⟨⟨by decide, fun _ => rfl⟩, List.forall_mem_cons.mpr ⟨⟨by decide, fun _ => rfl⟩, List.forall_mem_cons.mpr ⟨⟨by decide, fun _ => rfl⟩, fun _ h => absurd h List.not_mem_nil⟩⟩⟩⟩⟩⟩⟩⟩⟩⟩⟩⟩⟩⟩⟩⟩⟩⟩) hk
theorem isSt_2 {k : Nat} (hk : isSt k) : isI (k + 2) 10 := isSt_all (P := fun k => isI (k + 2) 10) (List.forall_mem_cons.mpr ⟨⟨by decide, fun _ => rfl⟩, List.forall_mem_cons.mpr ⟨⟨by decide, fun _ => rfl⟩, List.forall_mem_cons.mpr ⟨⟨by decide, fun _ => rfl⟩, List.forall_mem_cons.mpr ⟨⟨by decide, fun _ => rfl⟩, List.forall_mem_cons.mpr ⟨⟨by decide, fun _ => rfl⟩, List.forall_mem_cons.mpr ⟨⟨by decide, fun _ => rfl⟩, List.forall_mem_cons.mpr ⟨⟨by decide, fun _ => rfl⟩, List.forall_mem_cons.mpr ⟨⟨by decide, fun _ => rfl⟩, List.forall_mem_cons.mpr ⟨⟨by decide, fun _ => rfl⟩, List.forall_mem_cons.mpr ⟨⟨by decide, fun _ => rfl⟩, List.forall_mem_cons.mpr ⟨⟨by decide, fun _ => rfl⟩, List.forall_mem_cons.mpr ⟨⟨by decide, fun _ => rfl⟩, List.forall_mem_cons.mpr ⟨⟨by decide, fun _ => rfl⟩, List.forall_mem_cons.mpr ⟨⟨by decide, fun _ => rfl⟩, List.forall_mem_cons.mpr ⟨⟨by decide, fun _ => rfl⟩, List.forall_mem_cons.mpr ⟨⟨by decide, fun _ => rfl⟩, List.forall_mem_cons.mpr ⟨⟨by decide, fun _ => rfl⟩, List.forall_mem_cons.mpr ⟨⟨by decide, fun _ => rfl⟩, fun _ h => absurd h List.not_mem_nil⟩⟩⟩⟩⟩⟩⟩⟩⟩⟩⟩⟩⟩⟩⟩⟩⟩⟩) hk
theorem isSt_3 {k : Nat} (hk : isSt k) : isI (k + 3) 4 := isSt_all (P := fun k => isI (k + 3) 4) (List.forall_mem_cons.mpr ⟨⟨by decide, fun _ => rfl⟩, List.forall_mem_cons.mpr ⟨⟨by decide, fun _ => rfl⟩, List.forall_mem_cons.mpr ⟨⟨by decide, fun _ => rfl⟩, List.forall_mem_cons.mpr ⟨⟨by decide, fun _ => rfl⟩, List.forall_mem_cons.mpr ⟨⟨by decide, fun _ => rfl⟩, List.forall_mem_cons.mpr ⟨⟨by decide, fun _ => rfl⟩, List.forall_mem_cons.mpr ⟨⟨by decide, fun _ => rfl⟩, List.forall_mem_cons.mpr ⟨⟨by decide, fun _ => rfl⟩, List.forall_mem_cons.mpr ⟨⟨by decide, fun _ => rfl⟩, List.forall_mem_cons.mpr ⟨⟨by decide, fun _ => rfl⟩, List.forall_mem_cons.mpr ⟨⟨by decide, fun _ => rfl⟩, List.forall_mem_cons.mpr ⟨⟨by decide, fun _ => rfl⟩, List.forall_mem_cons.mpr ⟨⟨by decide, fun _ => rfl⟩, List.forall_mem_cons.mpr ⟨⟨by decide, fun _ => rfl⟩, List.forall_mem_cons.mpr ⟨⟨by decide, fun _ => rfl⟩, List.forall_mem_cons.mpr ⟨⟨by decide, fun _ => rfl⟩, List.forall_mem_cons.mpr ⟨⟨by decide, fun _ => rfl⟩, List.forall_mem_cons.mpr ⟨⟨by decide, fun _ => rfl⟩, fun _ h => absurd h List.not_mem_nil⟩⟩⟩⟩⟩⟩⟩⟩⟩⟩⟩⟩⟩⟩⟩⟩⟩⟩) hk
theorem isSt_4 {k : Nat} (hk : isSt k) : isI (k + 4) 4 := isSt_all (P := fun k => isI (k + 4) 4) (List.forall_mem_cons.mpr ⟨⟨by decide, fun _ => rfl⟩, List.forall_mem_cons.mpr ⟨⟨by decide, fun _ => rfl⟩, List.forall_mem_cons.mpr ⟨⟨by decide, fun _ => rfl⟩, List.forall_mem_cons.mpr ⟨⟨by decide, fun _ => rfl⟩, List.forall_mem_cons.mpr ⟨⟨by decide, fun _ => rfl⟩, List.forall_mem_cons.mpr ⟨⟨by decide, fun _ => rfl⟩, List.forall_mem_cons.mpr ⟨⟨by decide, fun _ => rfl⟩, List.forall_mem_cons.mpr ⟨⟨by decide, fun _ => rfl⟩, List.forall_mem_cons.mpr ⟨⟨by decide, fun _ => rfl⟩, List.forall_mem_cons.mpr ⟨⟨by decide, fun _ => rfl⟩, List.forall_mem_cons.mpr ⟨⟨by decide, fun _ => rfl⟩, List.forall_mem_cons.mpr ⟨⟨by decide, fun _ => rfl⟩, List.forall_mem_cons.mpr ⟨⟨by decide, fun _ => rfl⟩, List.forall_mem_cons.mpr ⟨⟨by decide, fun _ => rfl⟩, List.forall_mem_cons.mpr ⟨⟨by decide, fun _ => rfl⟩, List.forall_mem_cons.mpr ⟨⟨by decide, fun _ => rfl⟩, List.forall_mem_cons.mpr ⟨⟨by decide, fun _ => rfl⟩, List.forall_mem_cons.mpr ⟨⟨by decide, fun _ => rfl⟩, fun _ h => absurd h List.not_mem_nil⟩⟩⟩⟩⟩⟩⟩⟩⟩⟩⟩⟩⟩⟩⟩⟩⟩⟩) hk
theorem isSt_5 {k : Nat} (hk : isSt k) : isI (k + 5) 4 := isSt_all (P := fun k => isI (k + 5) 4) (List.forall_mem_cons.mpr ⟨⟨by decide, fun _ => rfl⟩, List.forall_mem_cons.mpr ⟨⟨by decide, fun _ => rfl⟩, List.forall_mem_cons.mpr ⟨⟨by decide, fun _ => rfl⟩, List.forall_mem_cons.mpr ⟨⟨by decide, fun _ => rfl⟩, List.forall_mem_cons.mpr ⟨⟨by decide, fun _ => rfl⟩, List.forall_mem_cons.mpr ⟨⟨by decide, fun _ => rfl⟩, List.forall_mem_cons.mpr ⟨⟨by decide, fun _ => rfl⟩, List.forall_mem_cons.mpr ⟨⟨by decide, fun _ => rfl⟩, List.forall_mem_cons.mpr ⟨⟨by decide, fun _ => rfl⟩, List.forall_mem_cons.mpr ⟨⟨by decide, fun _ => rfl⟩, List.forall_mem_cons.mpr ⟨⟨by decide, fun _ => rfl⟩, List.forall_mem_cons.mpr ⟨⟨by decide, fun _ => rfl⟩, List.forall_mem_cons.mpr ⟨⟨by decide, fun _ => rfl⟩, List.forall_mem_cons.mpr ⟨⟨by decide, fun _ => rfl⟩, List.forall_mem_cons.mpr ⟨⟨by decide, fun _ => rfl⟩, List.forall_mem_cons.mpr ⟨⟨by decide, fun _ => rfl⟩, List.forall_mem_cons.mpr ⟨⟨by decide, fun _ => rfl⟩, List.forall_mem_cons.mpr ⟨⟨by decide, fun _ => rfl⟩, fun _ h => absurd h List.not_mem_nil⟩⟩⟩⟩⟩⟩⟩⟩⟩⟩⟩⟩⟩⟩⟩⟩⟩⟩) hk
theorem isSt_6 {k : Nat} (hk : isSt k) : isI (k + 6) 4 := isSt_all (P := fun k => isI (k + 6) 4) (List.forall_mem_cons.mpr ⟨⟨by decide, fun _ => rfl⟩, List.forall_mem_cons.mpr ⟨⟨by decide, fun _ => rfl⟩, List.forall_mem_cons.mpr ⟨⟨by decide, fun _ => rfl⟩, List.forall_mem_cons.mpr ⟨⟨by decide, fun _ => rfl⟩, List.forall_mem_cons.mpr ⟨⟨by decide, fun _ => rfl⟩, List.forall_mem_cons.mpr ⟨⟨by decide, fun _ => rfl⟩, List.forall_mem_cons.mpr ⟨⟨by decide, fun _ => rfl⟩, List.forall_mem_cons.mpr ⟨⟨by decide, fun _ => rfl⟩, List.forall_mem_cons.mpr ⟨⟨by decide, fun _ => rfl⟩, List.forall_mem_cons.mpr ⟨⟨by decide, fun _ => rfl⟩, List.forall_mem_cons.mpr ⟨⟨by decide, fun _ => rfl⟩, List.forall_mem_cons.mpr ⟨⟨by decide, fun _ => rfl⟩, List.forall_mem_cons.mpr ⟨⟨by decide, fun _ => rfl⟩, List.forall_mem_cons.mpr ⟨⟨by decide, fun _ => rfl⟩, List.forall_mem_cons.mpr ⟨⟨by decide, fun _ => rfl⟩, List.forall_mem_cons.mpr ⟨⟨by decide, fun _ => rfl⟩, List.forall_mem_cons.mpr ⟨⟨by decide, fun _ => rfl⟩, List.forall_mem_cons.mpr ⟨⟨by decide, fun _ => rfl⟩, fun _ h => absurd h List.not_mem_nil⟩⟩⟩⟩⟩⟩⟩⟩⟩⟩⟩⟩⟩⟩⟩⟩⟩⟩) hk
theorem isSt_7 {k : Nat} (hk : isSt k) : isI (k + 7) 40 := isSt_all (P := fun k => isI (k + 7) 40) (List.forall_mem_cons.mpr ⟨⟨by decide, fun _ => rfl⟩, List.forall_mem_cons.mpr ⟨⟨by decide, fun _ => rfl⟩, List.forall_mem_cons.mpr ⟨⟨by decide, fun _ => rfl⟩, List.forall_mem_cons.mpr ⟨⟨by decide, fun _ => rfl⟩, List.forall_mem_cons.mpr ⟨⟨by decide, fun _ => rfl⟩, List.forall_mem_cons.mpr ⟨⟨by decide, fun _ => rfl⟩, List.forall_mem_cons.mpr ⟨⟨by decide, fun _ => rfl⟩, List.forall_mem_cons.mpr ⟨⟨by decide, fun _ => rfl⟩, List.forall_mem_cons.mpr ⟨⟨by decide, fun _ => rfl⟩, List.forall_mem_cons.mpr ⟨⟨by decide, fun _ => rfl⟩, List.forall_mem_cons.mpr ⟨⟨by decide, fun _ => rfl⟩, List.forall_mem_cons.mpr ⟨⟨by decide, fun _ => rfl⟩, List.forall_mem_cons.mpr ⟨⟨by decide, fun _ => rfl⟩, List.forall_mem_cons.mpr ⟨⟨by decide, fun _ => rfl⟩, List.forall_mem_cons.mpr ⟨⟨by decide, fun _ => rfl⟩, List.forall_mem_cons.mpr ⟨⟨by decide, fun _ => rfl⟩, List.forall_mem_cons.mpr ⟨⟨by decide, fun _ => rfl⟩, List.forall_mem_cons.mpr ⟨⟨by decide, fun _ => rfl⟩, fun _ h => absurd h List.not_mem_nil⟩⟩⟩⟩⟩⟩⟩⟩⟩⟩⟩⟩⟩⟩⟩⟩⟩⟩) hk
theorem isSt_c16 : isSt 16 := by unfold isSt gSts; simp
theorem isSt_c26 : isSt 26 := by unfold isSt gSts; simp
theorem isSt_c34 : isSt 34 := by unfold isSt gSts; simp
theorem isSt_c42 : isSt 42 := by unfold isSt gSts; simp
theorem isSt_c50 : isSt 50 := by unfold isSt gSts; simp
theorem isSt_c58 : isSt 58 := by unfold isSt gSts; simp
theorem isSt_c66 : isSt 66 := by unfold isSt gSts; simp
theorem isSt_c74 : isSt 74 := by unfold isSt gSts; simp
theorem isSt_c82 : isSt 82 := by unfold isSt gSts; simp
theorem isSt_c90 : isSt 90 := by unfold isSt gSts; simp
theorem isSt_c98 : isSt 98 := by unfold isSt gSts; simp
theorem isSt_c106 : isSt 106 := by unfold isSt gSts; simp
theorem isSt_c114 : isSt 114 := by unfold isSt gSts; simp
theorem isSt_c122 : isSt 122 := by unfold isSt gSts; simp
theorem isSt_c130 : isSt 130 := by unfold isSt gSts; simp
theorem isSt_c139 : isSt 139 := by unfold isSt gSts; simp
theorem isSt_c147 : isSt 147 := by unfold isSt gSts; simp
theorem isSt_c165 : isSt 165 := by unfold isSt gSts; simp
theorem isSt_ring {j : Nat} (h : j < 14) : isSt (26 + 8 * j) := by
  rcases (show j = 0 ∨ j = 1 ∨ j = 2 ∨ j = 3 ∨ j = 4 ∨ j = 5 ∨ j = 6 ∨ j = 7 ∨ j = 8 ∨ j = 9 ∨ j = 10 ∨ j = 11 ∨ j = 12 ∨ j = 13 by omega) with rfl | rfl | rfl | rfl | rfl | rfl | rfl | rfl | rfl | rfl | rfl | rfl | rfl | rfl <;> (unfold isSt gSts; simp)
theorem isSt_slot {j : Nat} (h : j < 2) : isSt (139 + 8 * j) := by
  rcases (show j = 0 ∨ j = 1 by omega) with rfl | rfl <;> (unfold isSt gSts; simp)
theorem is_2 : isC 2 120 := ⟨by decide, fun _ => rfl⟩
theorem is_5 (Γ : gE) : isJ Γ 5 960 := ⟨gN_lt (by decide), rfl⟩
theorem is_6 : isI 6 10 := ⟨by decide, fun _ => rfl⟩
theorem is_7 : isI 7 10 := ⟨by decide, fun _ => rfl⟩
theorem is_8 (Γ : gE) : isJ Γ 8 80 := ⟨gN_lt (by decide), rfl⟩
theorem is_9 : isI 9 121 := ⟨by decide, fun _ => rfl⟩
theorem is_10 : isI 10 121 := ⟨by decide, fun _ => rfl⟩
theorem is_11 : isZ 11 121 := ⟨by decide, fun _ => rfl⟩
theorem is_12 : isZ 12 121 := ⟨by decide, fun _ => rfl⟩
theorem is_13 : isZ 13 121 := ⟨by decide, fun _ => rfl⟩
theorem is_15 : isI 15 512 := ⟨by decide, fun _ => rfl⟩
theorem is_25 : isS 25 14 26 := ⟨by decide, fun _ => rfl⟩
theorem is_138 : isS 138 2 139 := ⟨by decide, fun _ => rfl⟩
theorem is_155 : isZ 155 2 := ⟨by decide, fun _ => rfl⟩
theorem is_157 : isI 157 1024 := ⟨by decide, fun _ => rfl⟩
theorem is_158 : isI 158 1024 := ⟨by decide, fun _ => rfl⟩
theorem is_159 : isI 159 1024 := ⟨by decide, fun _ => rfl⟩
theorem is_160 : isI 160 1024 := ⟨by decide, fun _ => rfl⟩
theorem is_161 : isI 161 1024 := ⟨by decide, fun _ => rfl⟩
theorem is_162 : isI 162 5120 := ⟨by decide, fun _ => rfl⟩
theorem is_163 : isI 163 110 := ⟨by decide, fun _ => rfl⟩
theorem io_9 : 0 < gM ∧ ∀ Γ, gSh Γ 0 = fun x y => .inr (9, gf9 Γ x y) := ⟨by decide, fun _ => rfl⟩
theorem io_6 : 1 < gM ∧ ∀ Γ, gSh Γ 1 = fun x y => .inr (6, gf6 Γ x y) := ⟨by decide, fun _ => rfl⟩
theorem io_2 : 3 < gM ∧ ∀ Γ, gSh Γ 3 = fun x y => .inr (2, gf2 Γ x y) := ⟨by decide, fun _ => rfl⟩
theorem io_7 : 4 < gM ∧ ∀ Γ, gSh Γ 4 = fun x y => .inr (7, gf7 Γ x y) := ⟨by decide, fun _ => rfl⟩
theorem io_0 : 14 < gM ∧ ∀ Γ, gSh Γ 14 = fun x y => .inr (0, gf0 Γ x y) := ⟨by decide, fun _ => rfl⟩
theorem io_1 : 24 < gM ∧ ∀ Γ, gSh Γ 24 = fun x y => .inr (1, gf1 Γ x y) := ⟨by decide, fun _ => rfl⟩
theorem io_8 : 156 < gM ∧ ∀ Γ, gSh Γ 156 = fun x y => .inr (8, gf8 Γ x y) := ⟨by decide, fun _ => rfl⟩
theorem io_3 : 164 < gM ∧ ∀ Γ, gSh Γ 164 = fun x y => .inr (3, gf3 Γ x y) := ⟨by decide, fun _ => rfl⟩
theorem io_4 : 173 < gM ∧ ∀ Γ, gSh Γ 173 = fun x y => .inr (4, gf4 Γ x y) := ⟨by decide, fun _ => rfl⟩
def inb (i : Int32) (n : Nat) : Bool := decide (0 ≤ i.toInt ∧ i.toInt < n)
theorem inb_vp {i : Int32} {n : Nat} (h : inb i n = true) : vp_in i n := vp_in_iff.mpr (of_decide_eq_true h)
theorem inb_nI {j n : Nat} (h : j < n) (hn : n < 2 ^ 31) : inb (nI j) n = true := decide_eq_true (by rw [nI_toInt (by omega)]; omega)
theorem inb_lt {i : Int32} {n : Nat} (h : inb i n = true) : i.toNatClampNeg < n := by
  have h1 := of_decide_eq_true h
  have : (i.toNatClampNeg : Int) = i.toInt := by
    have e : i.toNatClampNeg = i.toInt.toNat := rfl
    omega
  omega
theorem gOb {α : Type} {X : Option α} {β : Type} {F : α → Option β} {z : β} (h : X.bind F = some z) : ∃ u, X = some u ∧ F u = some z := by
  cases X with
  | none => cases h
  | some u => exact ⟨u, rfl, h⟩
def gVis : Nat → Int64 := fun j => [(-6148914691236517206 : Int64), (-3689348814741910324 : Int64), (-1085102592571150096 : Int64), (-71777214294589696 : Int64), (-281470681808896 : Int64), (-4294967296 : Int64)].getD j 0
def gStrs : List (String × Nat × String) := [(RX9, 105, "the text is not a hunt"), (RX9, 323, "no such save slot"), (RX9, 308, "nothing is saved there"), (RX9, 143, "no such number"), (RX9, 315, "no such place"), (RX9, 321, "no such team"), (RX9, 161, "no set of places"), (RX9, 191, "no such visit"), (RX9, 216, "the team cannot visit it"), (RX9, 225, "no place is safe for it"), (RX9, 236, "no coordinate"), (RX9, 203, "there are 4 teams"), (RX9, 278, "no such number of commands"), (RX9, 284, "the script is no number of so many digits"), (RX9, 296, "no such number of teams"), (RX9, 79, "no character code"), (RX9, 90, "the text is full"), (RX9, 248, "no state is remembered")]
def gNsts : List (String × Nat × MethodName × String) := [(RX9, 11, yX6_init, "ChestLetters"), (RX9, 18, yX2_init, "ChestLetters"), (RX2, 11, yX7_init, "ChestLetters"), (RX7, 28, yX9_isIn, "ChestLetters"), (RX5, 65, yX9_isIn, "ChestLetters"), (RX0, 29, yX9_isIn, "ChestLetters"), (RX8, 56, yX9_isIn, "ChestLetters"), (RX3, 101, yX9_isIn, "ChestLetters"), (RX4, 62, yX9_smallestOf, "ChestLetters")]
def gExs : List String := ["java/lang/IllegalArgumentException", "java/lang/IllegalStateException", "java/lang/IndexOutOfBoundsException"]
def gEx (n : Nat) : String := gExs.getD (n - 1) ""
def gNms : List String := ["java/lang/RuntimeException", "java/lang/Exception"]
def gDecs : List MethodName := [⟨"java/lang/RuntimeException", "<init>", "()V"⟩, ⟨"java/lang/RuntimeException", "<init>", "(Ljava/lang/String;)V"⟩, ⟨"java/lang/Exception", "<init>", "()V"⟩, ⟨"java/lang/Exception", "<init>", "(Ljava/lang/String;)V"⟩, ⟨"java/lang/Throwable", "<init>", "()V"⟩, ⟨"java/lang/Throwable", "<init>", "(Ljava/lang/String;)V"⟩]
def gNcs : List (String × String) := [(gEx 1, gEx 2), (gEx 1, gEx 3), (gEx 2, gEx 1), (gEx 2, gEx 3), (gEx 3, gEx 1), (gEx 3, gEx 2)]
def gXA (A : Nat → Prop) (Γ : gE) (U : State) (H : Heap) : Prop := va_Z RX7 "VISITED" "[J" (.ref (gV Γ)) A U H ∧ va_T .long (gV Γ) 6 (fun j => .long (gVis j)) A U H ∧ vx_Zq Bundle.tN "UNASSIGNED_STACK" Bundle.steD A U H ∧ vx_Zq Bundle.tN "SUPPRESSED_SENTINEL" Bundle.listD A U H ∧ (∀ q ∈ gStrs, ∃ sa, vk_R q.1 q.2.1 q.2.2 sa U) ∧ (∀ q ∈ gNsts, va_Nw (.methodLinkNest q.1 q.2.1 q.2.2.1 q.2.2.2) U) ∧ (∀ q ∈ gDecs, va_Nw (.declares q) U) ∧ (∀ q ∈ gExs, va_Nw (.castable q q) U) ∧ ∀ q ∈ gNcs, va_Nc q.1 q.2 U
theorem gXA.kept {A : Nat → Prop} {Γ : gE} {U : State} {H H1 : Heap} (h : gXA A Γ U H) (hq : ∀ a : Nat, a < H.size → ¬ A a → H1[a]? = H[a]?) : gXA A Γ U H1 := ⟨h.1.kept hq, h.2.1.kept hq, h.2.2.1.kept hq, h.2.2.2.1.kept hq, h.2.2.2.2⟩
theorem gXA.warm {A : Nat → Prop} {Γ : gE} {s U : State} {H : Heap} (hW : s.WarmedH U.vm) (h : gXA A Γ s H) : gXA A Γ U H :=
  ⟨h.1.moved hW.alike, h.2.1.moved hW.alike, h.2.2.1.moved hW.alike, h.2.2.2.1.moved hW.alike, fun q hq => by obtain ⟨sa, h1⟩ := h.2.2.2.2.1 q hq; exact ⟨sa, h1.warm hW⟩, fun q hq => (h.2.2.2.2.2.1 q hq).warmM hW, fun q hq => (h.2.2.2.2.2.2.1 q hq).warmD hW, fun q hq => (h.2.2.2.2.2.2.2.1 q hq).warmC hW, fun q hq => (h.2.2.2.2.2.2.2.2 q hq).moved hW.alike⟩
theorem gXA.calling {A : Nat → Prop} {Γ : gE} {U : State} {H : Heap} {f : JFrame} {mk : MethodId} {a : Array Value} (h : gXA A Γ U H) : gXA A Γ (U.calling f mk a) H :=
  ⟨h.1.moved (u := U) (U := U.calling f mk a) (Vm.Alike.refl U.vm), h.2.1.moved (u := U) (U := U.calling f mk a) (Vm.Alike.refl U.vm), h.2.2.1.moved (u := U) (U := U.calling f mk a) (Vm.Alike.refl U.vm), h.2.2.2.1.moved (u := U) (U := U.calling f mk a) (Vm.Alike.refl U.vm), fun q hq => by obtain ⟨sa, h1⟩ := h.2.2.2.2.1 q hq; exact ⟨sa, h1.same (u := U) (U := U.calling f mk a) rfl⟩, fun q hq => (h.2.2.2.2.2.1 q hq).same (u := U) (U := U.calling f mk a) rfl rfl, fun q hq => (h.2.2.2.2.2.2.1 q hq).same (u := U) (U := U.calling f mk a) rfl rfl, fun q hq => (h.2.2.2.2.2.2.2.1 q hq).same (u := U) (U := U.calling f mk a) rfl rfl, fun q hq => (h.2.2.2.2.2.2.2.2 q hq).moved (u := U) (U := U.calling f mk a) (Vm.Alike.refl U.vm)⟩
theorem gXA.sub {A B : Nat → Prop} {Γ : gE} {U : State} {H : Heap} (hAB : ∀ q, B q → A q) (h : gXA A Γ U H) : gXA B Γ U H := ⟨h.1.narrow hAB, h.2.1.narrow hAB, h.2.2.1.narrow hAB, h.2.2.2.1.narrow hAB, h.2.2.2.2⟩
abbrev gX (Γ : gE) : State → Heap → Prop := gXA (gA Γ) Γ
/-- the world holds, with what the tables say and what stays -/
def gI (Γ : gE) (g : gG) (U : State) : Prop := va_P (gD Γ) gcls (lay Γ g) U.heap ∧ va_K (gD Γ) gcls (gtys Γ) U ∧ gX Γ U U.heap
theorem gI.calling {Γ : gE} {g : gG} {U : State} {f : JFrame} {mk : MethodId} {a : Array Value} (h : gI Γ g U) : gI Γ g (U.calling f mk a) :=
  ⟨h.1, va_K.moved (u := U) (U := U.calling f mk a) (Vm.Alike.refl U.vm) h.2.1, h.2.2.calling⟩
theorem gI.next {Γ : gE} {g : gG} {s U : State} {H : Heap} {locs : List Loc} (hX : gX Γ s s.heap) (hK : va_K (gD Γ) gcls (gtys Γ) s) (hP : va_P (gD Γ) gcls (lay Γ g) H) (hS : va_S (gA Γ) s.heap H locs) (hU : U.heap = H) (hW : s.WarmedH U.vm) : gI Γ g U := by
  subst hU
  exact ⟨hP, va_K.moved hW.alike hK, (hX.kept (H1 := U.heap) hS.2.1).warm hW⟩
