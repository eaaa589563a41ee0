/-! MY ROWS: steps over the world of part 05; each takes the pure function's equation one step on. -/
def lw_good : List Cond := lw_tbl.filter goodWord
theorem wm (i : Nat) {x : Cond} (h : lw_tbl[i]? = some x) (hg : goodWord x = true) : x ∈ lw_good := List.mem_filter.mpr ⟨List.mem_of_getElem? h, hg⟩
theorem lw_goodIn {Ts : List Cond} {x : Cond} (hx : x ∈ lw_good) (ht : ∀ w ∈ lw_good, w ∈ Ts) : GoodIn Ts (x :: lw_good) := by
  have h1 : ∀ w ∈ lw_good, w ∈ Ts ∧ ((w.onTables && w.keeps) = true ∨ ∃ ty, w = .arrayClass ty) := fun w hw => ⟨ht w hw, good_of_word (List.mem_filter.mp hw).2⟩
  intro w hw
  rcases List.mem_cons.mp hw with rfl | hw
  · exact h1 _ hx
  · exact h1 _ hw
def gCx (p : Program) (s : State) (m : MethodId) (args : Array Value) (meth : Method) (c : Code) (Γ : gE) (own : String) (cc : ByteArray) (nL : Nat) (ret : Option FieldType) : Prop :=
  p.tables.exec = Jvm.exec ∧ c.code = cc ∧ c.maxLocals = nL ∧ meth.sig.returnType = ret ∧ s.vm.findClass own = some m.cls ∧ (∀ w ∈ lw_good, w.before args s = true) ∧ va_K (gD Γ) gcls (gtys Γ) s ∧ meth.locks = false ∧ gX Γ s s.heap
def gPo (Γ : gE) (g : gG) : Unit → State → Prop := fun _ t => va_P (gD Γ) gcls (lay Γ g) t.heap
def gQi (Γ : gE) (z : Int32 × gG) : Array Value → State → Outcome → State → Prop := va_Qi (fun r (_ : Unit) => r = z.1) (gPo Γ z.2) (gA Γ)
def gQl (Γ : gE) (z : Int64 × gG) : Array Value → State → Outcome → State → Prop := va_Ql (fun r (_ : Unit) => r = z.1) (gPo Γ z.2) (gA Γ)
def gQv (Γ : gE) (z : Unit × gG) : Array Value → State → Outcome → State → Prop := va_Qv (fun (_ : Unit) => True) (gPo Γ z.2) (gA Γ)
def gRm (f lo : Nat) : Room := { frames := f, cells := 0, slots := 0, locals := lo }
def gMi (l : Launch) (y : MethodName) (cc : ByteArray) (maxL : Nat) (ret : Option FieldType) (f lo : Nat) (Γ : gE) (av : List Value) (g : gG) (z : Int32 × gG) : Prop := Met l y (Cond.code y cc maxL ret :: lw_good) (gRm f lo) (va_Pc av (gI Γ g)) (gQi Γ z) 0 0 (gA Γ)
def gMl (l : Launch) (y : MethodName) (cc : ByteArray) (maxL : Nat) (ret : Option FieldType) (f lo : Nat) (Γ : gE) (av : List Value) (g : gG) (z : Int64 × gG) : Prop := Met l y (Cond.code y cc maxL ret :: lw_good) (gRm f lo) (va_Pc av (gI Γ g)) (gQl Γ z) 0 0 (gA Γ)
def gMv (l : Launch) (y : MethodName) (cc : ByteArray) (maxL : Nat) (ret : Option FieldType) (f lo : Nat) (Γ : gE) (av : List Value) (g : gG) (z : Unit × gG) : Prop := Met l y (Cond.code y cc maxL ret :: lw_good) (gRm f lo) (va_Pc av (gI Γ g)) (gQv Γ z) 0 0 (gA Γ)
theorem gStart {l : Launch} {y : MethodName} {cc : ByteArray} {maxL : Nat} {ret : Option FieldType} {rm : Room} {Γ : gE} {av : List Value} {g : gG} {Qc : Array Value → State → Outcome → State → Prop} {own : String}
    (hy : plainName y.cls = true) (ho : y.cls = own) (hlen : (lg_sl av).length ≤ maxL)
    (body : ∀ {p : Program} {e : Env} {s : State} {m : MethodId} {below : List Frame} {meth : Method} {c : Code}, gCx p s m av.toArray meth c Γ own cc maxL ret → ∀ ls : Array Slot, lv_has ls maxL (lv_args 0 av) → va_P (gD Γ) gcls (lay Γ g) s.heap →
      W p l e rm s m av.toArray below meth c s.heap [] 0 0 (MQ below Qc av.toArray s 0 0 (gA Γ)) (F0 m 0 ls [])) : Met l y (Cond.code y cc maxL ret :: lw_good) rm (va_Pc av (gI Γ g)) Qc 0 0 (gA Γ) := by
  refine Met.ofW (cc := cc) (maxL := maxL) (ret := ret) hy rfl ?_
  intro p e s m args below meth c s₁ B hml hv
  obtain ⟨rfl, hP, hK, hX⟩ := hv
  have hts := atoms_spec (ws := Cond.code y cc maxL ret :: lw_good) B.pre
  have hown : s.vm.findClass own = some m.cls := ho ▸ findClass_of_methodNamed B.named
  have hl := lv_entry av (n := maxL) hlen
  rw [lg_entry_eq]
  exact body ⟨B.exec, B.bytes, hml, B.returns, hown, fun w hw => hts w (List.mem_cons_of_mem _ hw), hK, B.notSynchronized, hX⟩ _ hl hP
def gLet {α β : Type} (a : α) (F : α → β) : β := F a
theorem gLetI {α β : Type} {a y : α} {F : α → β} {z : β} (e : y = a) (h : gLet a F = z) : F y = z := by subst e; exact h
theorem gpos {P : Prop} {d : Decidable P} {α : Type} {a b z : α} (c : P) (h : @ite α P d a b = z) : a = z := (if_pos c).symm.trans h
theorem gneg {P : Prop} {d : Decidable P} {α : Type} {a b z : α} (c : ¬ P) (h : @ite α P d a b = z) : b = z := (if_neg c).symm.trans h
theorem gnz {P : Prop} {d : Decidable P} {α : Type} {b : Option α} {z : α} (h : @ite (Option α) P d none b = some z) : ¬ P ∧ b = some z := by
  by_cases c : P
  · rw [if_pos c] at h; cases h
  · rw [if_neg c] at h; exact ⟨c, h⟩
section GK
variable {p : Program} {l : Launch} {e : Env} {R : Room} {s : State} {m : MethodId} {args : Array Value} {below : List Frame} {meth : Method} {c : Code} {H : Heap} {locs : List Loc} {cells slots : Nat} {Q : State → Prop}
variable {cc : ByteArray} {pc : Nat} {ls : Array Slot} {rest : List Value} {Γ : gE} {g : gG} {Z : Type} {z : Z} {B : Option Z}

theorem gIld (hx : p.tables.exec = Jvm.exec) (hb : c.code = cc) (hK : va_K (gD Γ) gcls (gtys Γ) s) (hP : va_P (gD Γ) gcls (lay Γ g) H) {k n : Nat} (hI : isI k n) {i : Int32} (hdg : decode cc pc = .ok (.iaload, 1)) (h : (if inb i n = true then B else none) = some z)
    (kk : B = some z → W p l e R s m args below meth c H locs cells slots Q (F0 m (pc + 1) ls (.int (g.1 k i.toNatClampNeg) :: rest))) : W p l e R s m args below meth c H locs cells slots Q (F0 m pc ls (.int i :: .ref (gB Γ + k) :: rest)) := by
  by_cases hc : inb i n = true
  · rw [if_pos hc] at h
    exact va_iald (D := gD Γ) hx hb hK hP k 0 (by rw [lay_get (gN_lt hI.1), hI.2]; rfl) rfl (inb_vp hc) hdg (kk h)
  · rw [if_neg hc] at h
    cases h
theorem gZld (hx : p.tables.exec = Jvm.exec) (hb : c.code = cc) (hK : va_K (gD Γ) gcls (gtys Γ) s) (hP : va_P (gD Γ) gcls (lay Γ g) H) {k n : Nat} (hI : isZ k n) {i : Int32} (hdg : decode cc pc = .ok (.baload, 1)) (h : (if inb i n = true then B else none) = some z)
    (kk : B = some z → W p l e R s m args below meth c H locs cells slots Q (F0 m (pc + 1) ls (.int (g.1 k i.toNatClampNeg) :: rest))) : W p l e R s m args below meth c H locs cells slots Q (F0 m pc ls (.int i :: .ref (gB Γ + k) :: rest)) := by
  by_cases hc : inb i n = true
  · rw [if_pos hc] at h
    exact va_zald (D := gD Γ) hx hb hK hP k 1 (by rw [lay_get (gN_lt hI.1), hI.2]; rfl) rfl (inb_vp hc) hdg (kk h)
  · rw [if_neg hc] at h
    cases h
theorem gCld (hx : p.tables.exec = Jvm.exec) (hb : c.code = cc) (hK : va_K (gD Γ) gcls (gtys Γ) s) (hP : va_P (gD Γ) gcls (lay Γ g) H) {k n : Nat} (hI : isC k n) {i : Int32} (hdg : decode cc pc = .ok (.caload, 1)) (h : (if inb i n = true then B else none) = some z)
    (kk : B = some z → W p l e R s m args below meth c H locs cells slots Q (F0 m (pc + 1) ls (.int (g.1 k i.toNatClampNeg) :: rest))) : W p l e R s m args below meth c H locs cells slots Q (F0 m pc ls (.int i :: .ref (gB Γ + k) :: rest)) := by
  by_cases hc : inb i n = true
  · rw [if_pos hc] at h
    exact va_cald (D := gD Γ) hx hb hK hP k 3 (by rw [lay_get (gN_lt hI.1), hI.2]; rfl) rfl (inb_vp hc) hdg (kk h)
  · rw [if_neg hc] at h
    cases h
theorem gJld (hx : p.tables.exec = Jvm.exec) (hb : c.code = cc) (hK : va_K (gD Γ) gcls (gtys Γ) s) (hP : va_P (gD Γ) gcls (lay Γ g) H) {k n : Nat} (hI : isJ Γ k n) {i : Int32} (hdg : decode cc pc = .ok (.laload, 1)) (h : (if inb i n = true then B else none) = some z)
    (kk : B = some z → W p l e R s m args below meth c H locs cells slots Q (F0 m (pc + 1) ls (.long (g.2 k i.toNatClampNeg) :: rest))) : W p l e R s m args below meth c H locs cells slots Q (F0 m pc ls (.int i :: .ref (gB Γ + k) :: rest)) := by
  by_cases hc : inb i n = true
  · rw [if_pos hc] at h
    exact va_lald (D := gD Γ) hx hb hK hP k 2 (by rw [lay_get (hI.1), hI.2]; rfl) rfl (inb_vp hc) hdg (kk h)
  · rw [if_neg hc] at h
    cases h
theorem gIst (hx : p.tables.exec = Jvm.exec) (hb : c.code = cc) (hK : va_K (gD Γ) gcls (gtys Γ) s) (hP : va_P (gD Γ) gcls (lay Γ g) H) (hS : va_S (gA Γ) s.heap H locs) {k n : Nat} (hI : isI k n) {i : Int32} {x : Int32} (hdg : decode cc pc = .ok (.iastore, 1)) {F : gG → Option Z} (h : (if inb i n = true then gLet (gI1 g k i.toNatClampNeg x) F else none) = some z)
    (kk : ∀ (H1 : Heap) (locs1 : List Loc) (g1 : gG), F g1 = some z → va_P (gD Γ) gcls (lay Γ g1) H1 → va_S (gA Γ) s.heap H1 locs1 → W p l e R s m args below meth c H1 locs1 cells slots Q (F0 m (pc + 1) ls rest)) : W p l e R s m args below meth c H locs cells slots Q (F0 m pc ls (.int x :: .int i :: .ref (gB Γ + k) :: rest)) := by
  by_cases hc : inb i n = true
  · rw [if_pos hc] at h
    refine va_iast (D := gD Γ) (A := gA Γ) hx hb hK hP lay_D hS k 0 (by rw [lay_get (gN_lt hI.1), hI.2]; rfl) rfl (inb_vp hc) hdg (fun H1 locs1 hP1 _ hS1 => kk H1 locs1 _ h ?_ hS1)
    rw [lay_set (g' := gI1 g k i.toNatClampNeg x) (gN_lt hI.1) (by rw [hI.2, gI1_k]; rfl) gI1_ne] at hP1
    exact hP1
  · rw [if_neg hc] at h
    cases h
theorem gZst (hx : p.tables.exec = Jvm.exec) (hb : c.code = cc) (hK : va_K (gD Γ) gcls (gtys Γ) s) (hP : va_P (gD Γ) gcls (lay Γ g) H) (hS : va_S (gA Γ) s.heap H locs) {k n : Nat} (hI : isZ k n) {i : Int32} {x : Int32} (hdg : decode cc pc = .ok (.bastore, 1)) {F : gG → Option Z} (h : (if inb i n = true then gLet (gI1 g k i.toNatClampNeg (vp_nar .boolean x)) F else none) = some z)
    (kk : ∀ (H1 : Heap) (locs1 : List Loc) (g1 : gG), F g1 = some z → va_P (gD Γ) gcls (lay Γ g1) H1 → va_S (gA Γ) s.heap H1 locs1 → W p l e R s m args below meth c H1 locs1 cells slots Q (F0 m (pc + 1) ls rest)) : W p l e R s m args below meth c H locs cells slots Q (F0 m pc ls (.int x :: .int i :: .ref (gB Γ + k) :: rest)) := by
  by_cases hc : inb i n = true
  · rw [if_pos hc] at h
    refine va_zast (D := gD Γ) (A := gA Γ) hx hb hK hP lay_D hS k 1 (by rw [lay_get (gN_lt hI.1), hI.2]; rfl) rfl (inb_vp hc) hdg (fun H1 locs1 hP1 _ hS1 => kk H1 locs1 _ h ?_ hS1)
    rw [lay_set (g' := gI1 g k i.toNatClampNeg (vp_nar .boolean x)) (gN_lt hI.1) (by rw [hI.2, gI1_k]; rfl) gI1_ne] at hP1
    exact hP1
  · rw [if_neg hc] at h
    cases h
theorem gCst (hx : p.tables.exec = Jvm.exec) (hb : c.code = cc) (hK : va_K (gD Γ) gcls (gtys Γ) s) (hP : va_P (gD Γ) gcls (lay Γ g) H) (hS : va_S (gA Γ) s.heap H locs) {k n : Nat} (hI : isC k n) {i : Int32} {x : Int32} (hdg : decode cc pc = .ok (.castore, 1)) {F : gG → Option Z} (h : (if inb i n = true then gLet (gI1 g k i.toNatClampNeg (vp_nar .char x)) F else none) = some z)
    (kk : ∀ (H1 : Heap) (locs1 : List Loc) (g1 : gG), F g1 = some z → va_P (gD Γ) gcls (lay Γ g1) H1 → va_S (gA Γ) s.heap H1 locs1 → W p l e R s m args below meth c H1 locs1 cells slots Q (F0 m (pc + 1) ls rest)) : W p l e R s m args below meth c H locs cells slots Q (F0 m pc ls (.int x :: .int i :: .ref (gB Γ + k) :: rest)) := by
  by_cases hc : inb i n = true
  · rw [if_pos hc] at h
    refine va_cast (D := gD Γ) (A := gA Γ) hx hb hK hP lay_D hS k 3 (by rw [lay_get (gN_lt hI.1), hI.2]; rfl) rfl (inb_vp hc) hdg (fun H1 locs1 hP1 _ hS1 => kk H1 locs1 _ h ?_ hS1)
    rw [lay_set (g' := gI1 g k i.toNatClampNeg (vp_nar .char x)) (gN_lt hI.1) (by rw [hI.2, gI1_k]; rfl) gI1_ne] at hP1
    exact hP1
  · rw [if_neg hc] at h
    cases h
theorem gJst (hx : p.tables.exec = Jvm.exec) (hb : c.code = cc) (hK : va_K (gD Γ) gcls (gtys Γ) s) (hP : va_P (gD Γ) gcls (lay Γ g) H) (hS : va_S (gA Γ) s.heap H locs) {k n : Nat} (hI : isJ Γ k n) {i : Int32} {x : Int64} (hdg : decode cc pc = .ok (.lastore, 1)) {F : gG → Option Z} (h : (if inb i n = true then gLet (gL1 g k i.toNatClampNeg x) F else none) = some z)
    (kk : ∀ (H1 : Heap) (locs1 : List Loc) (g1 : gG), F g1 = some z → va_P (gD Γ) gcls (lay Γ g1) H1 → va_S (gA Γ) s.heap H1 locs1 → W p l e R s m args below meth c H1 locs1 cells slots Q (F0 m (pc + 1) ls rest)) : W p l e R s m args below meth c H locs cells slots Q (F0 m pc ls (.long x :: .int i :: .ref (gB Γ + k) :: rest)) := by
  by_cases hc : inb i n = true
  · rw [if_pos hc] at h
    refine va_last (D := gD Γ) (A := gA Γ) hx hb hK hP lay_D hS k 2 (by rw [lay_get (hI.1), hI.2]; rfl) rfl (inb_vp hc) hdg (fun H1 locs1 hP1 _ hS1 => kk H1 locs1 _ h ?_ hS1)
    rw [lay_set (g' := gL1 g k i.toNatClampNeg x) (hI.1) (by rw [hI.2, gL1_k]; rfl) gL1_ne] at hP1
    exact hP1
  · rw [if_neg hc] at h
    cases h
/-- a reference out of the ring or the slots -/
theorem gSld (hx : p.tables.exec = Jvm.exec) (hb : c.code = cc) (hK : va_K (gD Γ) gcls (gtys Γ) s) (hP : va_P (gD Γ) gcls (lay Γ g) H) {k n k0 : Nat} (hI : isS k n k0) {i : Int32} (hdg : decode cc pc = .ok (.aaload, 1)) (h : (if inb i n = true then B else none) = some z)
    (kk : inb i n = true → B = some z → W p l e R s m args below meth c H locs cells slots Q (F0 m (pc + 1) ls (.ref (gB Γ + (k0 + 8 * i.toNatClampNeg)) :: rest))) : W p l e R s m args below meth c H locs cells slots Q (F0 m pc ls (.int i :: .ref (gB Γ + k) :: rest)) := by
  by_cases hc : inb i n = true
  · rw [if_pos hc] at h
    refine va_aldq (D := gD Γ) hx hb hK hP k 4 (C := RX5) (by rw [lay_get (gN_lt hI.1), hI.2]; rfl) rfl (inb_vp hc) hdg ?_
    show W _ _ _ _ _ _ _ _ _ _ _ _ _ _ _ (F0 m (pc + 1) ls (va_rf (if i.toNatClampNeg < n then some (gB Γ + (k0 + 8 * i.toNatClampNeg)) else none) :: rest))
    rw [if_pos (inb_lt hc)]
    exact kk hc h
  · rw [if_neg hc] at h
    cases h
theorem giret (hx : p.tables.exec = Jvm.exec) (hb : c.code = cc) (hr : meth.sig.returnType = some .int) (hlk : meth.locks = false) (hP : va_P (gD Γ) gcls (lay Γ g) H) (hS : va_S (gA Γ) s.heap H locs) {v : Int32} {z : Int32 × gG} (hdg : decode cc pc = .ok (.ireturn, 1)) (h : some (v, g) = some z) : W p l e R s m args below meth c H locs cells slots (MQ below (gQi Γ z) args s cells slots (gA Γ)) (F0 m pc ls [.int v]) := by
  cases h
  exact W.iret hx hb hr (fun t ht hW => ⟨⟨v, (), rfl, rfl, by show va_P _ _ _ t.heap; rw [ht]; exact hP⟩, hS.F ht⟩) hS.2.2 hdg hlk
def gZb (x : Int32) : Bool := x == 0 || x == 1
theorem gZb_nar {x : Int32} (h : gZb x = true) : narrow .boolean (.int x) = .int x := by
  unfold gZb at h
  rcases (Bool.or_eq_true _ _).mp h with h | h
  · rw [eq_of_beq h]; rfl
  · rw [eq_of_beq h]; rfl
theorem gZb_fit {x : Int32} (h : gZb x = true) : fits .boolean (.int x) = true := by
  unfold gZb at h
  rcases (Bool.or_eq_true _ _).mp h with h | h
  · rw [eq_of_beq h]; rfl
  · rw [eq_of_beq h]; rfl
theorem gzret (hx : p.tables.exec = Jvm.exec) (hb : c.code = cc) (hr : meth.sig.returnType = some .boolean) (hlk : meth.locks = false) (hP : va_P (gD Γ) gcls (lay Γ g) H) (hS : va_S (gA Γ) s.heap H locs) {v : Int32} {z : Int32 × gG} (hdg : decode cc pc = .ok (.ireturn, 1)) (h : (if gZb v = true then some (v, g) else none) = some z) : W p l e R s m args below meth c H locs cells slots (MQ below (gQi Γ z) args s cells slots (gA Γ)) (F0 m pc ls [.int v]) := by
  by_cases hc : gZb v = true
  · rw [if_pos hc] at h
    cases h
    exact W.zret hx hb hr (gZb_nar hc) (fun t ht hW => ⟨⟨v, (), rfl, rfl, by show va_P _ _ _ t.heap; rw [ht]; exact hP⟩, hS.F ht⟩) hS.2.2 hdg hlk
  · rw [if_neg hc] at h
    cases h
theorem gzret0 (hx : p.tables.exec = Jvm.exec) (hb : c.code = cc) (hr : meth.sig.returnType = some .boolean) (hlk : meth.locks = false) (hP : va_P (gD Γ) gcls (lay Γ g) H) (hS : va_S (gA Γ) s.heap H locs) {v : Int32} {z : Int32 × gG} (hn : narrow .boolean (.int v) = .int v) (hdg : decode cc pc = .ok (.ireturn, 1)) (h : some (v, g) = some z) : W p l e R s m args below meth c H locs cells slots (MQ below (gQi Γ z) args s cells slots (gA Γ)) (F0 m pc ls [.int v]) := by
  cases h
  exact W.zret hx hb hr hn (fun t ht hW => ⟨⟨v, (), rfl, rfl, by show va_P _ _ _ t.heap; rw [ht]; exact hP⟩, hS.F ht⟩) hS.2.2 hdg hlk
def gCb (x : Int32) : Bool := decide (0 ≤ x.toInt ∧ x.toInt < 65536)
theorem gCb_nar {x : Int32} (h : gCb x = true) : narrow .char (.int x) = .int x := by
  have h1 := of_decide_eq_true h
  obtain ⟨q, hq, rfl⟩ : ∃ q : Nat, q < 65536 ∧ x = nI q := by
    refine ⟨x.toInt.toNat, by omega, ?_⟩
    apply Int32.toInt_inj.mp
    rw [nI_toInt (by omega)]
    omega
  exact (pk_charN hq).1
theorem gcret (hx : p.tables.exec = Jvm.exec) (hb : c.code = cc) (hr : meth.sig.returnType = some .char) (hlk : meth.locks = false) (hP : va_P (gD Γ) gcls (lay Γ g) H) (hS : va_S (gA Γ) s.heap H locs) {v : Int32} {z : Int32 × gG} (hdg : decode cc pc = .ok (.ireturn, 1)) (h : (if gCb v = true then some (v, g) else none) = some z) : W p l e R s m args below meth c H locs cells slots (MQ below (gQi Γ z) args s cells slots (gA Γ)) (F0 m pc ls [.int v]) := by
  by_cases hc : gCb v = true
  · rw [if_pos hc] at h
    cases h
    exact W.zret hx hb hr (gCb_nar hc) (fun t ht hW => ⟨⟨v, (), rfl, rfl, by show va_P _ _ _ t.heap; rw [ht]; exact hP⟩, hS.F ht⟩) hS.2.2 hdg hlk
  · rw [if_neg hc] at h
    cases h
theorem glret (hx : p.tables.exec = Jvm.exec) (hb : c.code = cc) (hr : meth.sig.returnType = some .long) (hlk : meth.locks = false) (hP : va_P (gD Γ) gcls (lay Γ g) H) (hS : va_S (gA Γ) s.heap H locs) {v : Int64} {z : Int64 × gG} (hdg : decode cc pc = .ok (.lreturn, 1)) (h : some (v, g) = some z) : W p l e R s m args below meth c H locs cells slots (MQ below (gQl Γ z) args s cells slots (gA Γ)) (F0 m pc ls [.long v]) := by
  cases h
  exact W.lret hx hb hr (fun t ht hW => ⟨⟨v, (), rfl, rfl, by show va_P _ _ _ t.heap; rw [ht]; exact hP⟩, hS.F ht⟩) hS.2.2 hdg hlk
theorem gvret (hx : p.tables.exec = Jvm.exec) (hb : c.code = cc) (hr : meth.sig.returnType = none) (hlk : meth.locks = false) (hP : va_P (gD Γ) gcls (lay Γ g) H) (hS : va_S (gA Γ) s.heap H locs) {z : Unit × gG} (hdg : decode cc pc = .ok (.return_, 1)) (h : some ((), g) = some z) : W p l e R s m args below meth c H locs cells slots (MQ below (gQv Γ z) args s cells slots (gA Γ)) (F0 m pc ls []) := by
  cases h
  exact W.vret hx hb hr (fun t ht hW => ⟨⟨(), rfl, trivial, by show va_P _ _ _ t.heap; rw [ht]; exact hP⟩, hS.F ht⟩) hS.2.2 hdg hlk
/-- a method that is called: what the tables say of it -/
def gCal (y : MethodName) (bytes : ByteArray) (maxL : Nat) (ret : Option FieldType) (n : Nat) : Prop := Cond.code y bytes maxL ret ∈ lw_good ∧ Cond.initialized y.cls ∈ lw_good ∧ (y.cls ≠ "java/lang/invoke/MethodHandle" ∧ y.cls ≠ "java/lang/invoke/VarHandle" ∧ (parseMethodDescriptor y.desc).map (fun d => d.parameters.length) = some n)
def gRv (k : Nat) (C : String) : Prop := k < gM ∧ ∃ (ci : Nat) (q : vw_C), gcls[ci]? = some q ∧ q.1 = C ∧ ∀ Γ x y, ∃ fs, gSh Γ k x y = .inr (ci, fs)
theorem gPre {av : List Value} (hX : gX Γ s s.heap) (hK : va_K (gD Γ) gcls (gtys Γ) s) (hP : va_P (gD Γ) gcls (lay Γ g) H) (hS : va_S (gA Γ) s.heap H locs) : PreS s H (va_Pc av (gI Γ g)) av :=
  ⟨fun a U f mk q => ⟨q.1, q.2.calling⟩, fun U hU hW => ⟨rfl, gI.next hX hK hP hS hU hW⟩⟩
theorem gPreV {k : Nat} {C : String} {av : List Value} (hv : gRv k C) (hX : gX Γ s s.heap) (hK : va_K (gD Γ) gcls (gtys Γ) s) (hP : va_P (gD Γ) gcls (lay Γ g) H) (hS : va_S (gA Γ) s.heap H locs) : PreV s H C (gB Γ + k) (va_Pc (.ref (gB Γ + k) :: av) (gI Γ g)) av := by
  refine ⟨fun a U f mk q => ⟨q.1, q.2.calling⟩, ?_, fun U hU hW => ⟨rfl, gI.next hX hK hP hS hU hW⟩⟩
  obtain ⟨hk, ci, q, hc, rfl, hsh⟩ := hv
  obtain ⟨fs, hfs⟩ := hsh Γ (g.1 k) (g.2 k)
  exact va_recv hK hP hc (q0 := k) (fs := fs) (by rw [lay_get (gN_lt hk), hfs])
theorem gCalB {own : String} {y2 : MethodName} {b2 : ByteArray} {L2 n2 f2 lo2 index : Nat} {ret2 : Option FieldType} (hts : ∀ w ∈ lw_good, w.before args s = true) (hcal : gCal y2 b2 L2 ret2 n2) (hw : Cond.methodLink own index y2 ∈ lw_good) (hR : f2 + 1 ≤ R.frames ∧ 8 + (L2 + 11) + lo2 ≤ R.locals) :
    CallB R s args own index y2 b2 L2 ret2 (Cond.code y2 b2 L2 ret2 :: lw_good) (gRm f2 lo2) 0 0 n2 :=
  callB_of (rm := gRm f2 lo2) n2 hts (lw_goodIn hcal.1 (fun _ h => h)) rfl rfl rfl (hts _ hcal.2.1) (hts _ hw) hcal.2.2 hR
theorem gCVi {nL : Nat} {ret : Option FieldType} {own : String} (C0 : gCx p s m args meth c Γ own cc nL ret) {y2 : MethodName} {b2 : ByteArray} {L2 n2 f2 lo2 index : Nat} {ret2 : Option FieldType} (hcal : gCal y2 b2 L2 ret2 n2) (hw : Cond.methodLink own index y2 ∈ lw_good) (hi : Cond.instanceMethod y2 ∈ lw_good) (hse : Cond.selects y2.cls y2 y2 ∈ lw_good) (hR : f2 + 1 ≤ R.frames ∧ 8 + (L2 + 11) + lo2 ≤ R.locals) (hcs : cells + 0 ≤ R.cells ∧ slots + 0 ≤ R.slots)
    {k : Nat} (hv : gRv k y2.cls) (As : List Value) (hn : As.length = n2) (hrm : (rest.map fun v => v.category).sum ≤ 8) (hP : va_P (gD Γ) gcls (lay Γ g) H) (hS : va_S (gA Γ) s.heap H locs) (hlz : ls.size = nL) (hdg : decode cc pc = .ok (.invokevirtual index, 3))
    {X : Option (Int32 × gG)} {F : Int32 × gG → Option Z} (h : X.bind F = some z) (hM : ∀ u, X = some u → gMi l y2 b2 L2 ret2 f2 lo2 Γ (.ref (gB Γ + k) :: As) g u)
    (kk : ∀ (u : Int32 × gG) (H1 : Heap) (locs1 : List Loc), F u = some z → va_P (gD Γ) gcls (lay Γ u.2) H1 → va_S (gA Γ) s.heap H1 locs1 → W p l e R s m args below meth c H1 locs1 cells slots Q (F0 m (pc + 3) ls (.int u.1 :: rest))) {st0 : List Value} (hst : st0 = As.reverse ++ .ref (gB Γ + k) :: rest) : W p l e R s m args below meth c H locs cells slots Q (F0 m pc ls st0) := by
  obtain ⟨hx, hb, hml, hr, hown, hts, hK, hlk, hX⟩ := C0
  obtain ⟨u, hu, h⟩ := gOb h
  subst hst
  refine va_calli (va_runV (As := As) (rest := rest) ⟨hx, hb, hml, hown, hts⟩ (hM u hu) (C := y2.cls) ⟨gCalB hts hcal hw hR, hts _ hi, hts _ hse⟩ (gPreV hv hX hK hP hS) rfl hn hlz rfl (lv_room hrm) hdg hcs) hS (fun q _ h => h) (fun q h => h) (fun r u1 t H1 locs1 ht hvm hw hB hz1 hk1 hS1 => ?_)
  · rw [← ht] at hS1 ⊢
    have e1 : r = u.1 := hw
    subst e1
    exact kk u t.heap locs1 h hB hS1
theorem gCSi {nL : Nat} {ret : Option FieldType} {own : String} (C0 : gCx p s m args meth c Γ own cc nL ret) {y2 : MethodName} {b2 : ByteArray} {L2 n2 f2 lo2 index : Nat} {ret2 : Option FieldType} (hcal : gCal y2 b2 L2 ret2 n2) (hw : Cond.methodLink own index y2 ∈ lw_good) (hi : Cond.static y2 ∈ lw_good) (hR : f2 + 1 ≤ R.frames ∧ 8 + (L2 + 11) + lo2 ≤ R.locals) (hcs : cells + 0 ≤ R.cells ∧ slots + 0 ≤ R.slots)
    (As : List Value) (hn : As.length = n2) (hrm : (rest.map fun v => v.category).sum ≤ 8) (hP : va_P (gD Γ) gcls (lay Γ g) H) (hS : va_S (gA Γ) s.heap H locs) (hlz : ls.size = nL) (hdg : decode cc pc = .ok (.invokestatic index, 3))
    {X : Option (Int32 × gG)} {F : Int32 × gG → Option Z} (h : X.bind F = some z) (hM : ∀ u, X = some u → gMi l y2 b2 L2 ret2 f2 lo2 Γ As g u)
    (kk : ∀ (u : Int32 × gG) (H1 : Heap) (locs1 : List Loc), F u = some z → va_P (gD Γ) gcls (lay Γ u.2) H1 → va_S (gA Γ) s.heap H1 locs1 → W p l e R s m args below meth c H1 locs1 cells slots Q (F0 m (pc + 3) ls (.int u.1 :: rest))) {st0 : List Value} (hst : st0 = As.reverse ++ rest) : W p l e R s m args below meth c H locs cells slots Q (F0 m pc ls st0) := by
  obtain ⟨hx, hb, hml, hr, hown, hts, hK, hlk, hX⟩ := C0
  obtain ⟨u, hu, h⟩ := gOb h
  subst hst
  refine va_calli (va_runS (As := As) (rest := rest) ⟨hx, hb, hml, hown, hts⟩ (hM u hu) ⟨gCalB hts hcal hw hR, hts _ hi⟩ (gPre hX hK hP hS) rfl hn hlz rfl (lv_room hrm) hdg hcs) hS (fun q _ h => h) (fun q h => h) (fun r u1 t H1 locs1 ht hvm hw hB hz1 hk1 hS1 => ?_)
  · rw [← ht] at hS1 ⊢
    have e1 : r = u.1 := hw
    subst e1
    exact kk u t.heap locs1 h hB hS1
theorem gCNi {nL : Nat} {ret : Option FieldType} {own : String} (C0 : gCx p s m args meth c Γ own cc nL ret) {y2 : MethodName} {b2 : ByteArray} {L2 n2 f2 lo2 index : Nat} {ret2 : Option FieldType} {host : String} (hcal : gCal y2 b2 L2 ret2 n2) (hw : (own, index, y2, host) ∈ gNsts) (hi : Cond.static y2 ∈ lw_good) (hR : f2 + 1 ≤ R.frames ∧ 8 + (L2 + 11) + lo2 ≤ R.locals) (hcs : cells + 0 ≤ R.cells ∧ slots + 0 ≤ R.slots)
    (As : List Value) (hn : As.length = n2) (hrm : (rest.map fun v => v.category).sum ≤ 8) (hP : va_P (gD Γ) gcls (lay Γ g) H) (hS : va_S (gA Γ) s.heap H locs) (hlz : ls.size = nL) (hdg : decode cc pc = .ok (.invokestatic index, 3))
    {X : Option (Int32 × gG)} {F : Int32 × gG → Option Z} (h : X.bind F = some z) (hM : ∀ u, X = some u → gMi l y2 b2 L2 ret2 f2 lo2 Γ As g u)
    (kk : ∀ (u : Int32 × gG) (H1 : Heap) (locs1 : List Loc), F u = some z → va_P (gD Γ) gcls (lay Γ u.2) H1 → va_S (gA Γ) s.heap H1 locs1 → W p l e R s m args below meth c H1 locs1 cells slots Q (F0 m (pc + 3) ls (.int u.1 :: rest))) {st0 : List Value} (hst : st0 = As.reverse ++ rest) : W p l e R s m args below meth c H locs cells slots Q (F0 m pc ls st0) := by
  obtain ⟨hx, hb, hml, hr, hown, hts, hK, hlk, hX⟩ := C0
  obtain ⟨u, hu, h⟩ := gOb h
  subst hst
  refine va_calli (va_runSN (As := As) (rest := rest) ⟨hx, hb, hml, hown, hts⟩ (hM u hu) ⟨va_cnB (rm := gRm f2 lo2) n2 hts (lw_goodIn hcal.1 (fun _ h => h)) rfl rfl rfl (hX.2.2.2.2.2.1 _ hw) (hts _ hcal.2.1) hcal.2.2 hR, hts _ hi, trivial⟩ (gPre hX hK hP hS) rfl hn hlz rfl (lv_room hrm) hdg hcs) hS (fun q _ h => h) (fun q h => h) (fun r u1 t H1 locs1 ht hvm hw hB hz1 hk1 hS1 => ?_)
  · rw [← ht] at hS1 ⊢
    have e1 : r = u.1 := hw
    subst e1
    exact kk u t.heap locs1 h hB hS1
theorem gCVl {nL : Nat} {ret : Option FieldType} {own : String} (C0 : gCx p s m args meth c Γ own cc nL ret) {y2 : MethodName} {b2 : ByteArray} {L2 n2 f2 lo2 index : Nat} {ret2 : Option FieldType} (hcal : gCal y2 b2 L2 ret2 n2) (hw : Cond.methodLink own index y2 ∈ lw_good) (hi : Cond.instanceMethod y2 ∈ lw_good) (hse : Cond.selects y2.cls y2 y2 ∈ lw_good) (hR : f2 + 1 ≤ R.frames ∧ 8 + (L2 + 11) + lo2 ≤ R.locals) (hcs : cells + 0 ≤ R.cells ∧ slots + 0 ≤ R.slots)
    {k : Nat} (hv : gRv k y2.cls) (As : List Value) (hn : As.length = n2) (hrm : (rest.map fun v => v.category).sum ≤ 8) (hP : va_P (gD Γ) gcls (lay Γ g) H) (hS : va_S (gA Γ) s.heap H locs) (hlz : ls.size = nL) (hdg : decode cc pc = .ok (.invokevirtual index, 3))
    {X : Option (Int64 × gG)} {F : Int64 × gG → Option Z} (h : X.bind F = some z) (hM : ∀ u, X = some u → gMl l y2 b2 L2 ret2 f2 lo2 Γ (.ref (gB Γ + k) :: As) g u)
    (kk : ∀ (u : Int64 × gG) (H1 : Heap) (locs1 : List Loc), F u = some z → va_P (gD Γ) gcls (lay Γ u.2) H1 → va_S (gA Γ) s.heap H1 locs1 → W p l e R s m args below meth c H1 locs1 cells slots Q (F0 m (pc + 3) ls (.long u.1 :: rest))) {st0 : List Value} (hst : st0 = As.reverse ++ .ref (gB Γ + k) :: rest) : W p l e R s m args below meth c H locs cells slots Q (F0 m pc ls st0) := by
  obtain ⟨hx, hb, hml, hr, hown, hts, hK, hlk, hX⟩ := C0
  obtain ⟨u, hu, h⟩ := gOb h
  subst hst
  refine va_calll (va_runV (As := As) (rest := rest) ⟨hx, hb, hml, hown, hts⟩ (hM u hu) (C := y2.cls) ⟨gCalB hts hcal hw hR, hts _ hi, hts _ hse⟩ (gPreV hv hX hK hP hS) rfl hn hlz rfl (lv_room hrm) hdg hcs) hS (fun q _ h => h) (fun q h => h) (fun r u1 t H1 locs1 ht hvm hw hB hz1 hk1 hS1 => ?_)
  · rw [← ht] at hS1 ⊢
    have e1 : r = u.1 := hw
    subst e1
    exact kk u t.heap locs1 h hB hS1
theorem gCSl {nL : Nat} {ret : Option FieldType} {own : String} (C0 : gCx p s m args meth c Γ own cc nL ret) {y2 : MethodName} {b2 : ByteArray} {L2 n2 f2 lo2 index : Nat} {ret2 : Option FieldType} (hcal : gCal y2 b2 L2 ret2 n2) (hw : Cond.methodLink own index y2 ∈ lw_good) (hi : Cond.static y2 ∈ lw_good) (hR : f2 + 1 ≤ R.frames ∧ 8 + (L2 + 11) + lo2 ≤ R.locals) (hcs : cells + 0 ≤ R.cells ∧ slots + 0 ≤ R.slots)
    (As : List Value) (hn : As.length = n2) (hrm : (rest.map fun v => v.category).sum ≤ 8) (hP : va_P (gD Γ) gcls (lay Γ g) H) (hS : va_S (gA Γ) s.heap H locs) (hlz : ls.size = nL) (hdg : decode cc pc = .ok (.invokestatic index, 3))
    {X : Option (Int64 × gG)} {F : Int64 × gG → Option Z} (h : X.bind F = some z) (hM : ∀ u, X = some u → gMl l y2 b2 L2 ret2 f2 lo2 Γ As g u)
    (kk : ∀ (u : Int64 × gG) (H1 : Heap) (locs1 : List Loc), F u = some z → va_P (gD Γ) gcls (lay Γ u.2) H1 → va_S (gA Γ) s.heap H1 locs1 → W p l e R s m args below meth c H1 locs1 cells slots Q (F0 m (pc + 3) ls (.long u.1 :: rest))) {st0 : List Value} (hst : st0 = As.reverse ++ rest) : W p l e R s m args below meth c H locs cells slots Q (F0 m pc ls st0) := by
  obtain ⟨hx, hb, hml, hr, hown, hts, hK, hlk, hX⟩ := C0
  obtain ⟨u, hu, h⟩ := gOb h
  subst hst
  refine va_calll (va_runS (As := As) (rest := rest) ⟨hx, hb, hml, hown, hts⟩ (hM u hu) ⟨gCalB hts hcal hw hR, hts _ hi⟩ (gPre hX hK hP hS) rfl hn hlz rfl (lv_room hrm) hdg hcs) hS (fun q _ h => h) (fun q h => h) (fun r u1 t H1 locs1 ht hvm hw hB hz1 hk1 hS1 => ?_)
  · rw [← ht] at hS1 ⊢
    have e1 : r = u.1 := hw
    subst e1
    exact kk u t.heap locs1 h hB hS1
theorem gCNl {nL : Nat} {ret : Option FieldType} {own : String} (C0 : gCx p s m args meth c Γ own cc nL ret) {y2 : MethodName} {b2 : ByteArray} {L2 n2 f2 lo2 index : Nat} {ret2 : Option FieldType} {host : String} (hcal : gCal y2 b2 L2 ret2 n2) (hw : (own, index, y2, host) ∈ gNsts) (hi : Cond.static y2 ∈ lw_good) (hR : f2 + 1 ≤ R.frames ∧ 8 + (L2 + 11) + lo2 ≤ R.locals) (hcs : cells + 0 ≤ R.cells ∧ slots + 0 ≤ R.slots)
    (As : List Value) (hn : As.length = n2) (hrm : (rest.map fun v => v.category).sum ≤ 8) (hP : va_P (gD Γ) gcls (lay Γ g) H) (hS : va_S (gA Γ) s.heap H locs) (hlz : ls.size = nL) (hdg : decode cc pc = .ok (.invokestatic index, 3))
    {X : Option (Int64 × gG)} {F : Int64 × gG → Option Z} (h : X.bind F = some z) (hM : ∀ u, X = some u → gMl l y2 b2 L2 ret2 f2 lo2 Γ As g u)
    (kk : ∀ (u : Int64 × gG) (H1 : Heap) (locs1 : List Loc), F u = some z → va_P (gD Γ) gcls (lay Γ u.2) H1 → va_S (gA Γ) s.heap H1 locs1 → W p l e R s m args below meth c H1 locs1 cells slots Q (F0 m (pc + 3) ls (.long u.1 :: rest))) {st0 : List Value} (hst : st0 = As.reverse ++ rest) : W p l e R s m args below meth c H locs cells slots Q (F0 m pc ls st0) := by
  obtain ⟨hx, hb, hml, hr, hown, hts, hK, hlk, hX⟩ := C0
  obtain ⟨u, hu, h⟩ := gOb h
  subst hst
  refine va_calll (va_runSN (As := As) (rest := rest) ⟨hx, hb, hml, hown, hts⟩ (hM u hu) ⟨va_cnB (rm := gRm f2 lo2) n2 hts (lw_goodIn hcal.1 (fun _ h => h)) rfl rfl rfl (hX.2.2.2.2.2.1 _ hw) (hts _ hcal.2.1) hcal.2.2 hR, hts _ hi, trivial⟩ (gPre hX hK hP hS) rfl hn hlz rfl (lv_room hrm) hdg hcs) hS (fun q _ h => h) (fun q h => h) (fun r u1 t H1 locs1 ht hvm hw hB hz1 hk1 hS1 => ?_)
  · rw [← ht] at hS1 ⊢
    have e1 : r = u.1 := hw
    subst e1
    exact kk u t.heap locs1 h hB hS1
theorem gCVv {nL : Nat} {ret : Option FieldType} {own : String} (C0 : gCx p s m args meth c Γ own cc nL ret) {y2 : MethodName} {b2 : ByteArray} {L2 n2 f2 lo2 index : Nat} {ret2 : Option FieldType} (hcal : gCal y2 b2 L2 ret2 n2) (hw : Cond.methodLink own index y2 ∈ lw_good) (hi : Cond.instanceMethod y2 ∈ lw_good) (hse : Cond.selects y2.cls y2 y2 ∈ lw_good) (hR : f2 + 1 ≤ R.frames ∧ 8 + (L2 + 11) + lo2 ≤ R.locals) (hcs : cells + 0 ≤ R.cells ∧ slots + 0 ≤ R.slots)
    {k : Nat} (hv : gRv k y2.cls) (As : List Value) (hn : As.length = n2) (hrm : (rest.map fun v => v.category).sum ≤ 8) (hP : va_P (gD Γ) gcls (lay Γ g) H) (hS : va_S (gA Γ) s.heap H locs) (hlz : ls.size = nL) (hdg : decode cc pc = .ok (.invokevirtual index, 3))
    {X : Option (Unit × gG)} {F : Unit × gG → Option Z} (h : X.bind F = some z) (hM : ∀ u, X = some u → gMv l y2 b2 L2 ret2 f2 lo2 Γ (.ref (gB Γ + k) :: As) g u)
    (kk : ∀ (u : Unit × gG) (H1 : Heap) (locs1 : List Loc), F u = some z → va_P (gD Γ) gcls (lay Γ u.2) H1 → va_S (gA Γ) s.heap H1 locs1 → W p l e R s m args below meth c H1 locs1 cells slots Q (F0 m (pc + 3) ls (rest))) {st0 : List Value} (hst : st0 = As.reverse ++ .ref (gB Γ + k) :: rest) : W p l e R s m args below meth c H locs cells slots Q (F0 m pc ls st0) := by
  obtain ⟨hx, hb, hml, hr, hown, hts, hK, hlk, hX⟩ := C0
  obtain ⟨u, hu, h⟩ := gOb h
  subst hst
  refine va_callv (va_runV (As := As) (rest := rest) ⟨hx, hb, hml, hown, hts⟩ (hM u hu) (C := y2.cls) ⟨gCalB hts hcal hw hR, hts _ hi, hts _ hse⟩ (gPreV hv hX hK hP hS) rfl hn hlz rfl (lv_room hrm) hdg hcs) hS (fun q _ h => h) (fun q h => h) (fun u1 t H1 locs1 ht hvm hw hB hz1 hk1 hS1 => ?_)
  · rw [← ht] at hS1 ⊢
    exact kk u t.heap locs1 h hB hS1
theorem gCSv {nL : Nat} {ret : Option FieldType} {own : String} (C0 : gCx p s m args meth c Γ own cc nL ret) {y2 : MethodName} {b2 : ByteArray} {L2 n2 f2 lo2 index : Nat} {ret2 : Option FieldType} (hcal : gCal y2 b2 L2 ret2 n2) (hw : Cond.methodLink own index y2 ∈ lw_good) (hi : Cond.static y2 ∈ lw_good) (hR : f2 + 1 ≤ R.frames ∧ 8 + (L2 + 11) + lo2 ≤ R.locals) (hcs : cells + 0 ≤ R.cells ∧ slots + 0 ≤ R.slots)
    (As : List Value) (hn : As.length = n2) (hrm : (rest.map fun v => v.category).sum ≤ 8) (hP : va_P (gD Γ) gcls (lay Γ g) H) (hS : va_S (gA Γ) s.heap H locs) (hlz : ls.size = nL) (hdg : decode cc pc = .ok (.invokestatic index, 3))
    {X : Option (Unit × gG)} {F : Unit × gG → Option Z} (h : X.bind F = some z) (hM : ∀ u, X = some u → gMv l y2 b2 L2 ret2 f2 lo2 Γ As g u)
    (kk : ∀ (u : Unit × gG) (H1 : Heap) (locs1 : List Loc), F u = some z → va_P (gD Γ) gcls (lay Γ u.2) H1 → va_S (gA Γ) s.heap H1 locs1 → W p l e R s m args below meth c H1 locs1 cells slots Q (F0 m (pc + 3) ls (rest))) {st0 : List Value} (hst : st0 = As.reverse ++ rest) : W p l e R s m args below meth c H locs cells slots Q (F0 m pc ls st0) := by
  obtain ⟨hx, hb, hml, hr, hown, hts, hK, hlk, hX⟩ := C0
  obtain ⟨u, hu, h⟩ := gOb h
  subst hst
  refine va_callv (va_runS (As := As) (rest := rest) ⟨hx, hb, hml, hown, hts⟩ (hM u hu) ⟨gCalB hts hcal hw hR, hts _ hi⟩ (gPre hX hK hP hS) rfl hn hlz rfl (lv_room hrm) hdg hcs) hS (fun q _ h => h) (fun q h => h) (fun u1 t H1 locs1 ht hvm hw hB hz1 hk1 hS1 => ?_)
  · rw [← ht] at hS1 ⊢
    exact kk u t.heap locs1 h hB hS1
theorem gCNv {nL : Nat} {ret : Option FieldType} {own : String} (C0 : gCx p s m args meth c Γ own cc nL ret) {y2 : MethodName} {b2 : ByteArray} {L2 n2 f2 lo2 index : Nat} {ret2 : Option FieldType} {host : String} (hcal : gCal y2 b2 L2 ret2 n2) (hw : (own, index, y2, host) ∈ gNsts) (hi : Cond.static y2 ∈ lw_good) (hR : f2 + 1 ≤ R.frames ∧ 8 + (L2 + 11) + lo2 ≤ R.locals) (hcs : cells + 0 ≤ R.cells ∧ slots + 0 ≤ R.slots)
    (As : List Value) (hn : As.length = n2) (hrm : (rest.map fun v => v.category).sum ≤ 8) (hP : va_P (gD Γ) gcls (lay Γ g) H) (hS : va_S (gA Γ) s.heap H locs) (hlz : ls.size = nL) (hdg : decode cc pc = .ok (.invokestatic index, 3))
    {X : Option (Unit × gG)} {F : Unit × gG → Option Z} (h : X.bind F = some z) (hM : ∀ u, X = some u → gMv l y2 b2 L2 ret2 f2 lo2 Γ As g u)
    (kk : ∀ (u : Unit × gG) (H1 : Heap) (locs1 : List Loc), F u = some z → va_P (gD Γ) gcls (lay Γ u.2) H1 → va_S (gA Γ) s.heap H1 locs1 → W p l e R s m args below meth c H1 locs1 cells slots Q (F0 m (pc + 3) ls (rest))) {st0 : List Value} (hst : st0 = As.reverse ++ rest) : W p l e R s m args below meth c H locs cells slots Q (F0 m pc ls st0) := by
  obtain ⟨hx, hb, hml, hr, hown, hts, hK, hlk, hX⟩ := C0
  obtain ⟨u, hu, h⟩ := gOb h
  subst hst
  refine va_callv (va_runSN (As := As) (rest := rest) ⟨hx, hb, hml, hown, hts⟩ (hM u hu) ⟨va_cnB (rm := gRm f2 lo2) n2 hts (lw_goodIn hcal.1 (fun _ h => h)) rfl rfl rfl (hX.2.2.2.2.2.1 _ hw) (hts _ hcal.2.1) hcal.2.2 hR, hts _ hi, trivial⟩ (gPre hX hK hP hS) rfl hn hlz rfl (lv_room hrm) hdg hcs) hS (fun q _ h => h) (fun q h => h) (fun u1 t H1 locs1 ht hvm hw hB hz1 hk1 hS1 => ?_)
  · rw [← ht] at hS1 ⊢
    exact kk u t.heap locs1 h hB hS1
def gCpyOk (sp dp n : Int32) (n0 n1 : Nat) : Bool := decide (0 ≤ sp.toInt ∧ 0 ≤ dp.toInt ∧ 0 ≤ n.toInt ∧ sp.toInt + n.toInt ≤ n0 ∧ dp.toInt + n.toInt ≤ n1)
def gCpy (g : gG) (k0 k1 : Nat) (sp dp n : Int32) : gG := (va_up g.1 k1 (va_cpy (g.1 k0) (g.1 k1) sp.toNatClampNeg dp.toNatClampNeg n.toNatClampNeg), g.2)
theorem gCopy {nL : Nat} {ret : Option FieldType} {own : String} {index : Nat} (C0 : gCx p s m args meth c Γ own cc nL ret) (hw : Cond.methodLink own index arraycopyName ∈ lw_good) (hnat : Cond.native arraycopyName ∈ lw_good) (hstat : Cond.static arraycopyName ∈ lw_good) (hini : Cond.initialized "java/lang/System" ∈ lw_good) (hP : va_P (gD Γ) gcls (lay Γ g) H) (hS : va_S (gA Γ) s.heap H locs) (hlz : ls.size = nL) {k0 k1 n0 n1 : Nat} (hI0 : isI k0 n0) (hI1 : isI k1 n1) {sp dp n : Int32} (hfr : 1 ≤ R.frames) (hlo : (rest.map fun v => v.category).sum + 18 ≤ R.locals) (hdg : decode cc pc = .ok (.invokestatic index, 3))
    {F : gG → Option Z} (h : (if gCpyOk sp dp n n0 n1 = true then gLet (gCpy g k0 k1 sp dp n) F else none) = some z)
    (kk : ∀ (H1 : Heap) (locs1 : List Loc) (g1 : gG), F g1 = some z → va_P (gD Γ) gcls (lay Γ g1) H1 → va_S (gA Γ) s.heap H1 locs1 → W p l e R s m args below meth c H1 locs1 cells slots Q (F0 m (pc + 3) ls rest)) : W p l e R s m args below meth c H locs cells slots Q (F0 m pc ls (.int n :: .int dp :: .ref (gB Γ + k1) :: .int sp :: .ref (gB Γ + k0) :: rest)) := by
  obtain ⟨hx, hb, hml, hr, hown, hts, hK, hlk, hX⟩ := C0
  by_cases hc : gCpyOk sp dp n n0 n1 = true
  · rw [if_pos hc] at h
    have h1 := of_decide_eq_true hc
    have tn : ∀ x : Int32, 0 ≤ x.toInt → (x.toNatClampNeg : Int) = x.toInt := by
      intro x hx9
      have e : x.toNatClampNeg = x.toInt.toNat := rfl
      omega
    have nl : ∀ x : Int32, 0 ≤ x.toInt → ¬ x < 0 := by
      intro x hx9 h9
      have := Int32.lt_iff_toInt_lt.mp h9
      rw [Int32.toInt_zero] at this
      omega
    have t1 := tn sp h1.1
    have t2 := tn dp h1.2.1
    have t3 := tn n h1.2.2.1
    refine va_copyi (D := gD Γ) (A := gA Γ) hx hb (hml.trans hlz.symm) hown (hts _ hw) (hts _ hnat) (hts _ hstat) (hts _ hini) hK hP lay_D hS k0 k1 0 0 (ty := .int) (by rw [lay_get (gN_lt hI0.1), hI0.2]; rfl) (by rw [lay_get (gN_lt hI1.1), hI1.2]; rfl) rfl rfl rfl (nl _ h1.1) (nl _ h1.2.1) (nl _ h1.2.2.1) (by omega) (by omega) (fun _ _ => rfl) hfr hlo hdg (fun H1 locs1 hP1 _ hS1 => kk H1 locs1 _ h ?_ hS1)
    rw [lay_set (g' := gCpy g k0 k1 sp dp n) (gN_lt hI1.1) (by rw [hI1.2]; unfold gCpy va_up; simp; rfl) (by intro j hj; unfold gCpy va_up; simp [hj])] at hP1
    exact hP1
  · rw [if_neg hc] at h
    cases h
theorem gVis0 {own : String} {index : Nat} (hx : p.tables.exec = Jvm.exec) (hb : c.code = cc) (hX : gX Γ s s.heap) (hS : va_S (gA Γ) s.heap H locs) (hown : s.vm.findClass own = some m.cls) (hts : ∀ w ∈ lw_good, w.before args s = true) (hw : Cond.fieldLink own index RX7 "VISITED" "[J" ∈ lw_good) (hdg : decode cc pc = .ok (.getstatic index, 3))
    (kk : W p l e R s m args below meth c H locs cells slots Q (F0 m (pc + 3) ls (.ref (gV Γ) :: rest))) : W p l e R s m args below meth c H locs cells slots Q (F0 m pc ls rest) :=
  va_gets (ref := RX7) hx hb hX.1 hS hown (hts _ hw) (fun _ h => h) hdg kk
theorem gVisLd (hx : p.tables.exec = Jvm.exec) (hb : c.code = cc) (hX : gX Γ s s.heap) (hS : va_S (gA Γ) s.heap H locs) {i : Int32} (hdg : decode cc pc = .ok (.laload, 1)) (h : (if inb i 6 = true then B else none) = some z)
    (kk : B = some z → W p l e R s m args below meth c H locs cells slots Q (F0 m (pc + 1) ls (.long (gVis i.toNatClampNeg) :: rest))) : W p l e R s m args below meth c H locs cells slots Q (F0 m pc ls (.int i :: .ref (gV Γ) :: rest)) := by
  by_cases hc : inb i 6 = true
  · rw [if_pos hc] at h
    exact va_tl hx hb hX.2.1 hS (inb_vp hc) rfl hdg (kk h)
  · rw [if_neg hc] at h
    cases h
theorem gVisLen (hx : p.tables.exec = Jvm.exec) (hb : c.code = cc) (hX : gX Γ s s.heap) (hS : va_S (gA Γ) s.heap H locs) (hdg : decode cc pc = .ok (.arraylength, 1))
    (kk : W p l e R s m args below meth c H locs cells slots Q (F0 m (pc + 1) ls (.int (6 : Int32) :: rest))) : W p l e R s m args below meth c H locs cells slots Q (F0 m pc ls (.ref (gV Γ) :: rest)) :=
  va_tlen hx hb hX.2.1 hS rfl hdg kk
theorem gTabOut {x : Int32} {lo hi : Int} (h : ¬ (lo ≤ x.toInt ∧ x.toInt ≤ hi)) : x.toInt < lo ∨ hi < x.toInt := by omega
theorem gNe {x y : Int32} (h : ¬ x = y) : x.toInt ≠ y.toInt := fun e => h (Int32.toInt_inj.mp e)
end GK
theorem hin_0 : ∀ w ∈ u_ws RX0 TX0 2, w ∈ lw_good := by 
  show ∀ w ∈ [u_lay RX0 TX0 0, u_lay RX0 TX0 1], w ∈ lw_good
  exact List.forall_mem_cons.mpr ⟨wm 141 (by decide +kernel) (by decide +kernel), List.forall_mem_cons.mpr ⟨wm 143 (by decide +kernel) (by decide +kernel), fun _ h => absurd h List.not_mem_nil⟩⟩
theorem hin_1 : ∀ w ∈ u_ws RX1 TX1 3, w ∈ lw_good := by 
  show ∀ w ∈ [u_lay RX1 TX1 0, u_lay RX1 TX1 1, u_lay RX1 TX1 2], w ∈ lw_good
  exact List.forall_mem_cons.mpr ⟨wm 195 (by decide +kernel) (by decide +kernel), List.forall_mem_cons.mpr ⟨wm 197 (by decide +kernel) (by decide +kernel), List.forall_mem_cons.mpr ⟨wm 199 (by decide +kernel) (by decide +kernel), fun _ h => absurd h List.not_mem_nil⟩⟩⟩
theorem hin_2 : ∀ w ∈ u_ws RX2 TX2 12, w ∈ lw_good := by 
  show ∀ w ∈ [u_lay RX2 TX2 0, u_lay RX2 TX2 1, u_lay RX2 TX2 2, u_lay RX2 TX2 3, u_lay RX2 TX2 4, u_lay RX2 TX2 5, u_lay RX2 TX2 6, u_lay RX2 TX2 7, u_lay RX2 TX2 8, u_lay RX2 TX2 9, u_lay RX2 TX2 10, u_lay RX2 TX2 11], w ∈ lw_good
  exact List.forall_mem_cons.mpr ⟨wm 106 (by decide +kernel) (by decide +kernel), List.forall_mem_cons.mpr ⟨wm 108 (by decide +kernel) (by decide +kernel), List.forall_mem_cons.mpr ⟨wm 110 (by decide +kernel) (by decide +kernel), List.forall_mem_cons.mpr ⟨wm 112 (by decide +kernel) (by decide +kernel), List.forall_mem_cons.mpr ⟨wm 114 (by decide +kernel) (by decide +kernel), List.forall_mem_cons.mpr ⟨wm 116 (by decide +kernel) (by decide +kernel), List.forall_mem_cons.mpr ⟨wm 118 (by decide +kernel) (by decide +kernel), List.forall_mem_cons.mpr ⟨wm 120 (by decide +kernel) (by decide +kernel), List.forall_mem_cons.mpr ⟨wm 122 (by decide +kernel) (by decide +kernel), List.forall_mem_cons.mpr ⟨wm 124 (by decide +kernel) (by decide +kernel), List.forall_mem_cons.mpr ⟨wm 126 (by decide +kernel) (by decide +kernel), List.forall_mem_cons.mpr ⟨wm 128 (by decide +kernel) (by decide +kernel), fun _ h => absurd h List.not_mem_nil⟩⟩⟩⟩⟩⟩⟩⟩⟩⟩⟩⟩
theorem hin_3 : ∀ w ∈ u_ws RX3 TX3 3, w ∈ lw_good := by 
  show ∀ w ∈ [u_lay RX3 TX3 0, u_lay RX3 TX3 1, u_lay RX3 TX3 2], w ∈ lw_good
  exact List.forall_mem_cons.mpr ⟨wm 244 (by decide +kernel) (by decide +kernel), List.forall_mem_cons.mpr ⟨wm 246 (by decide +kernel) (by decide +kernel), List.forall_mem_cons.mpr ⟨wm 248 (by decide +kernel) (by decide +kernel), fun _ h => absurd h List.not_mem_nil⟩⟩⟩
theorem hin_4 : ∀ w ∈ u_ws RX4 TX4 2, w ∈ lw_good := by 
  show ∀ w ∈ [u_lay RX4 TX4 0, u_lay RX4 TX4 1], w ∈ lw_good
  exact List.forall_mem_cons.mpr ⟨wm 259 (by decide +kernel) (by decide +kernel), List.forall_mem_cons.mpr ⟨wm 261 (by decide +kernel) (by decide +kernel), fun _ h => absurd h List.not_mem_nil⟩⟩
theorem hin_5 : ∀ w ∈ u_ws RX5 TX5 10, w ∈ lw_good := by 
  show ∀ w ∈ [u_lay RX5 TX5 0, u_lay RX5 TX5 1, u_lay RX5 TX5 2, u_lay RX5 TX5 3, u_lay RX5 TX5 4, u_lay RX5 TX5 5, u_lay RX5 TX5 6, u_lay RX5 TX5 7, u_lay RX5 TX5 8, u_lay RX5 TX5 9], w ∈ lw_good
  exact List.forall_mem_cons.mpr ⟨wm 162 (by decide +kernel) (by decide +kernel), List.forall_mem_cons.mpr ⟨wm 164 (by decide +kernel) (by decide +kernel), List.forall_mem_cons.mpr ⟨wm 166 (by decide +kernel) (by decide +kernel), List.forall_mem_cons.mpr ⟨wm 168 (by decide +kernel) (by decide +kernel), List.forall_mem_cons.mpr ⟨wm 170 (by decide +kernel) (by decide +kernel), List.forall_mem_cons.mpr ⟨wm 172 (by decide +kernel) (by decide +kernel), List.forall_mem_cons.mpr ⟨wm 174 (by decide +kernel) (by decide +kernel), List.forall_mem_cons.mpr ⟨wm 176 (by decide +kernel) (by decide +kernel), List.forall_mem_cons.mpr ⟨wm 178 (by decide +kernel) (by decide +kernel), List.forall_mem_cons.mpr ⟨wm 180 (by decide +kernel) (by decide +kernel), fun _ h => absurd h List.not_mem_nil⟩⟩⟩⟩⟩⟩⟩⟩⟩⟩
theorem hin_6 : ∀ w ∈ u_ws RX6 TX6 2, w ∈ lw_good := by 
  show ∀ w ∈ [u_lay RX6 TX6 0, u_lay RX6 TX6 1], w ∈ lw_good
  exact List.forall_mem_cons.mpr ⟨wm 68 (by decide +kernel) (by decide +kernel), List.forall_mem_cons.mpr ⟨wm 70 (by decide +kernel) (by decide +kernel), fun _ h => absurd h List.not_mem_nil⟩⟩
theorem hin_7 : ∀ w ∈ u_ws RX7 TX7 2, w ∈ lw_good := by 
  show ∀ w ∈ [u_lay RX7 TX7 0, u_lay RX7 TX7 1], w ∈ lw_good
  exact List.forall_mem_cons.mpr ⟨wm 88 (by decide +kernel) (by decide +kernel), List.forall_mem_cons.mpr ⟨wm 90 (by decide +kernel) (by decide +kernel), fun _ h => absurd h List.not_mem_nil⟩⟩
theorem hin_8 : ∀ w ∈ u_ws RX8 TX8 8, w ∈ lw_good := by 
  show ∀ w ∈ [u_lay RX8 TX8 0, u_lay RX8 TX8 1, u_lay RX8 TX8 2, u_lay RX8 TX8 3, u_lay RX8 TX8 4, u_lay RX8 TX8 5, u_lay RX8 TX8 6, u_lay RX8 TX8 7], w ∈ lw_good
  exact List.forall_mem_cons.mpr ⟨wm 216 (by decide +kernel) (by decide +kernel), List.forall_mem_cons.mpr ⟨wm 218 (by decide +kernel) (by decide +kernel), List.forall_mem_cons.mpr ⟨wm 220 (by decide +kernel) (by decide +kernel), List.forall_mem_cons.mpr ⟨wm 222 (by decide +kernel) (by decide +kernel), List.forall_mem_cons.mpr ⟨wm 224 (by decide +kernel) (by decide +kernel), List.forall_mem_cons.mpr ⟨wm 226 (by decide +kernel) (by decide +kernel), List.forall_mem_cons.mpr ⟨wm 228 (by decide +kernel) (by decide +kernel), List.forall_mem_cons.mpr ⟨wm 230 (by decide +kernel) (by decide +kernel), fun _ h => absurd h List.not_mem_nil⟩⟩⟩⟩⟩⟩⟩⟩
theorem hin_9 : ∀ w ∈ u_ws RX9 TX9 10, w ∈ lw_good := by 
  show ∀ w ∈ [u_lay RX9 TX9 0, u_lay RX9 TX9 1, u_lay RX9 TX9 2, u_lay RX9 TX9 3, u_lay RX9 TX9 4, u_lay RX9 TX9 5, u_lay RX9 TX9 6, u_lay RX9 TX9 7, u_lay RX9 TX9 8, u_lay RX9 TX9 9], w ∈ lw_good
  exact List.forall_mem_cons.mpr ⟨wm 274 (by decide +kernel) (by decide +kernel), List.forall_mem_cons.mpr ⟨wm 276 (by decide +kernel) (by decide +kernel), List.forall_mem_cons.mpr ⟨wm 278 (by decide +kernel) (by decide +kernel), List.forall_mem_cons.mpr ⟨wm 280 (by decide +kernel) (by decide +kernel), List.forall_mem_cons.mpr ⟨wm 282 (by decide +kernel) (by decide +kernel), List.forall_mem_cons.mpr ⟨wm 284 (by decide +kernel) (by decide +kernel), List.forall_mem_cons.mpr ⟨wm 286 (by decide +kernel) (by decide +kernel), List.forall_mem_cons.mpr ⟨wm 288 (by decide +kernel) (by decide +kernel), List.forall_mem_cons.mpr ⟨wm 290 (by decide +kernel) (by decide +kernel), List.forall_mem_cons.mpr ⟨wm 292 (by decide +kernel) (by decide +kernel), fun _ h => absurd h List.not_mem_nil⟩⟩⟩⟩⟩⟩⟩⟩⟩⟩
section GF
variable {p : Program} {l : Launch} {e : Env} {R : Room} {s : State} {m : MethodId} {args : Array Value} {below : List Frame} {meth : Method} {c : Code} {H : Heap} {locs : List Loc} {cells slots : Nat} {Q : State → Prop}
variable {cc : ByteArray} {pc : Nat} {ls : Array Slot} {rest : List Value} {Γ : gE} {g : gG} {Z : Type} {z : Z} {B : Option Z} {own : String} {index k : Nat}
theorem gf_0_0 (hx : p.tables.exec = Jvm.exec) (hb : c.code = cc) (hown : s.vm.findClass own = some m.cls) (hts : ∀ w ∈ lw_good, w.before args s = true) (hK : va_K (gD Γ) gcls (gtys Γ) s) (hP : va_P (gD Γ) gcls (lay Γ g) H) (hw : Cond.fieldLink own index RX0 "held" "[I" ∈ lw_good) (hdg : decode cc pc = .ok (.getfield index, 3))
    (kk : W p l e R s m args below meth c H locs cells slots Q (F0 m (pc + 3) ls (.ref (gB Γ + 15) :: rest))) : W p l e R s m args below meth c H locs cells slots Q (F0 m pc ls (.ref (gB Γ + 14) :: rest)) :=
  va_get (D := gD Γ) (ci := 0) (C := RX0) (T := TX0) (N := 2) hx hb hts hin_0 hown hK hP 14 (by rw [lay_get (gN_lt io_0.1), io_0.2]) rfl 0 (by decide) (hts _ hw) (fun _ h => h) rfl hdg kk
theorem gf_0_1 (hx : p.tables.exec = Jvm.exec) (hb : c.code = cc) (hown : s.vm.findClass own = some m.cls) (hts : ∀ w ∈ lw_good, w.before args s = true) (hK : va_K (gD Γ) gcls (gtys Γ) s) (hP : va_P (gD Γ) gcls (lay Γ g) H) (hw : Cond.fieldLink own index RX0 "places" "I" ∈ lw_good) (hdg : decode cc pc = .ok (.getfield index, 3))
    (kk : W p l e R s m args below meth c H locs cells slots Q (F0 m (pc + 3) ls (.int (g.1 14 1) :: rest))) : W p l e R s m args below meth c H locs cells slots Q (F0 m pc ls (.ref (gB Γ + 14) :: rest)) :=
  va_get (D := gD Γ) (ci := 0) (C := RX0) (T := TX0) (N := 2) hx hb hts hin_0 hown hK hP 14 (by rw [lay_get (gN_lt io_0.1), io_0.2]) rfl 1 (by decide) (hts _ hw) (fun _ h => h) rfl hdg kk
theorem gp_0_1 (hx : p.tables.exec = Jvm.exec) (hb : c.code = cc) (hown : s.vm.findClass own = some m.cls) (hts : ∀ w ∈ lw_good, w.before args s = true) (hK : va_K (gD Γ) gcls (gtys Γ) s) (hP : va_P (gD Γ) gcls (lay Γ g) H) (hS : va_S (gA Γ) s.heap H locs) (hw : Cond.fieldLink own index RX0 "places" "I" ∈ lw_good) {x : Int32} (hdg : decode cc pc = .ok (.putfield index, 3)) {F : gG → Option Z} (h : gLet (gI1 g 14 1 x) F = some z) 
    (kk : ∀ (H1 : Heap) (locs1 : List Loc) (g1 : gG), F g1 = some z → va_P (gD Γ) gcls (lay Γ g1) H1 → va_S (gA Γ) s.heap H1 locs1 → W p l e R s m args below meth c H1 locs1 cells slots Q (F0 m (pc + 3) ls rest)) : W p l e R s m args below meth c H locs cells slots Q (F0 m pc ls (.int x :: .ref (gB Γ + 14) :: rest)) := by
  refine va_put (D := gD Γ) (A := gA Γ) (ci := 0) (v := .int x) (ty := .int) (C := RX0) (T := TX0) (N := 2) hx hb hts hin_0 tyX0 tyX0_ok nmX0 hown hK hP lay_D hS 14 (by rw [lay_get (gN_lt io_0.1), io_0.2]) rfl 1 (by decide) (hts _ hw) (fun _ h => h) rfl (by decide +kernel) rfl rfl (Nat.le_of_ble_eq_true rfl) hdg (fun H1 locs1 hP1 _ hS1 => kk H1 locs1 _ h ?_ hS1)
  rw [lay_set (g' := gI1 g 14 1 x) (gN_lt io_0.1) (by rw [io_0.2, gI1_k]; rfl) gI1_ne] at hP1
  exact hP1
theorem gf_1_0 (hx : p.tables.exec = Jvm.exec) (hb : c.code = cc) (hown : s.vm.findClass own = some m.cls) (hts : ∀ w ∈ lw_good, w.before args s = true) (hK : va_K (gD Γ) gcls (gtys Γ) s) (hP : va_P (gD Γ) gcls (lay Γ g) H) (hw : Cond.fieldLink own index RX1 "ring" "[LChestLetters$State;" ∈ lw_good) (hdg : decode cc pc = .ok (.getfield index, 3))
    (kk : W p l e R s m args below meth c H locs cells slots Q (F0 m (pc + 3) ls (.ref (gB Γ + 25) :: rest))) : W p l e R s m args below meth c H locs cells slots Q (F0 m pc ls (.ref (gB Γ + 24) :: rest)) :=
  va_get (D := gD Γ) (ci := 1) (C := RX1) (T := TX1) (N := 3) hx hb hts hin_1 hown hK hP 24 (by rw [lay_get (gN_lt io_1.1), io_1.2]) rfl 0 (by decide) (hts _ hw) (fun _ h => h) rfl hdg kk
theorem gf_1_1 (hx : p.tables.exec = Jvm.exec) (hb : c.code = cc) (hown : s.vm.findClass own = some m.cls) (hts : ∀ w ∈ lw_good, w.before args s = true) (hK : va_K (gD Γ) gcls (gtys Γ) s) (hP : va_P (gD Γ) gcls (lay Γ g) H) (hw : Cond.fieldLink own index RX1 "free" "I" ∈ lw_good) (hdg : decode cc pc = .ok (.getfield index, 3))
    (kk : W p l e R s m args below meth c H locs cells slots Q (F0 m (pc + 3) ls (.int (g.1 24 1) :: rest))) : W p l e R s m args below meth c H locs cells slots Q (F0 m pc ls (.ref (gB Γ + 24) :: rest)) :=
  va_get (D := gD Γ) (ci := 1) (C := RX1) (T := TX1) (N := 3) hx hb hts hin_1 hown hK hP 24 (by rw [lay_get (gN_lt io_1.1), io_1.2]) rfl 1 (by decide) (hts _ hw) (fun _ h => h) rfl hdg kk
theorem gp_1_1 (hx : p.tables.exec = Jvm.exec) (hb : c.code = cc) (hown : s.vm.findClass own = some m.cls) (hts : ∀ w ∈ lw_good, w.before args s = true) (hK : va_K (gD Γ) gcls (gtys Γ) s) (hP : va_P (gD Γ) gcls (lay Γ g) H) (hS : va_S (gA Γ) s.heap H locs) (hw : Cond.fieldLink own index RX1 "free" "I" ∈ lw_good) {x : Int32} (hdg : decode cc pc = .ok (.putfield index, 3)) {F : gG → Option Z} (h : gLet (gI1 g 24 1 x) F = some z) 
    (kk : ∀ (H1 : Heap) (locs1 : List Loc) (g1 : gG), F g1 = some z → va_P (gD Γ) gcls (lay Γ g1) H1 → va_S (gA Γ) s.heap H1 locs1 → W p l e R s m args below meth c H1 locs1 cells slots Q (F0 m (pc + 3) ls rest)) : W p l e R s m args below meth c H locs cells slots Q (F0 m pc ls (.int x :: .ref (gB Γ + 24) :: rest)) := by
  refine va_put (D := gD Γ) (A := gA Γ) (ci := 1) (v := .int x) (ty := .int) (C := RX1) (T := TX1) (N := 3) hx hb hts hin_1 tyX1 tyX1_ok nmX1 hown hK hP lay_D hS 24 (by rw [lay_get (gN_lt io_1.1), io_1.2]) rfl 1 (by decide) (hts _ hw) (fun _ h => h) rfl (by decide +kernel) rfl rfl (Nat.le_of_ble_eq_true rfl) hdg (fun H1 locs1 hP1 _ hS1 => kk H1 locs1 _ h ?_ hS1)
  rw [lay_set (g' := gI1 g 24 1 x) (gN_lt io_1.1) (by rw [io_1.2, gI1_k]; rfl) gI1_ne] at hP1
  exact hP1
theorem gf_1_2 (hx : p.tables.exec = Jvm.exec) (hb : c.code = cc) (hown : s.vm.findClass own = some m.cls) (hts : ∀ w ∈ lw_good, w.before args s = true) (hK : va_K (gD Γ) gcls (gtys Γ) s) (hP : va_P (gD Γ) gcls (lay Γ g) H) (hw : Cond.fieldLink own index RX1 "count" "I" ∈ lw_good) (hdg : decode cc pc = .ok (.getfield index, 3))
    (kk : W p l e R s m args below meth c H locs cells slots Q (F0 m (pc + 3) ls (.int (g.1 24 2) :: rest))) : W p l e R s m args below meth c H locs cells slots Q (F0 m pc ls (.ref (gB Γ + 24) :: rest)) :=
  va_get (D := gD Γ) (ci := 1) (C := RX1) (T := TX1) (N := 3) hx hb hts hin_1 hown hK hP 24 (by rw [lay_get (gN_lt io_1.1), io_1.2]) rfl 2 (by decide) (hts _ hw) (fun _ h => h) rfl hdg kk
theorem gp_1_2 (hx : p.tables.exec = Jvm.exec) (hb : c.code = cc) (hown : s.vm.findClass own = some m.cls) (hts : ∀ w ∈ lw_good, w.before args s = true) (hK : va_K (gD Γ) gcls (gtys Γ) s) (hP : va_P (gD Γ) gcls (lay Γ g) H) (hS : va_S (gA Γ) s.heap H locs) (hw : Cond.fieldLink own index RX1 "count" "I" ∈ lw_good) {x : Int32} (hdg : decode cc pc = .ok (.putfield index, 3)) {F : gG → Option Z} (h : gLet (gI1 g 24 2 x) F = some z) 
    (kk : ∀ (H1 : Heap) (locs1 : List Loc) (g1 : gG), F g1 = some z → va_P (gD Γ) gcls (lay Γ g1) H1 → va_S (gA Γ) s.heap H1 locs1 → W p l e R s m args below meth c H1 locs1 cells slots Q (F0 m (pc + 3) ls rest)) : W p l e R s m args below meth c H locs cells slots Q (F0 m pc ls (.int x :: .ref (gB Γ + 24) :: rest)) := by
  refine va_put (D := gD Γ) (A := gA Γ) (ci := 1) (v := .int x) (ty := .int) (C := RX1) (T := TX1) (N := 3) hx hb hts hin_1 tyX1 tyX1_ok nmX1 hown hK hP lay_D hS 24 (by rw [lay_get (gN_lt io_1.1), io_1.2]) rfl 2 (by decide) (hts _ hw) (fun _ h => h) rfl (by decide +kernel) rfl rfl (Nat.le_of_ble_eq_true rfl) hdg (fun H1 locs1 hP1 _ hS1 => kk H1 locs1 _ h ?_ hS1)
  rw [lay_set (g' := gI1 g 24 2 x) (gN_lt io_1.1) (by rw [io_1.2, gI1_k]; rfl) gI1_ne] at hP1
  exact hP1
theorem gf_2_0 (hx : p.tables.exec = Jvm.exec) (hb : c.code = cc) (hown : s.vm.findClass own = some m.cls) (hts : ∀ w ∈ lw_good, w.before args s = true) (hK : va_K (gD Γ) gcls (gtys Γ) s) (hP : va_P (gD Γ) gcls (lay Γ g) H) (hw : Cond.fieldLink own index RX2 "truths" "LChestLetters$Truths;" ∈ lw_good) (hdg : decode cc pc = .ok (.getfield index, 3))
    (kk : W p l e R s m args below meth c H locs cells slots Q (F0 m (pc + 3) ls (.ref (gB Γ + 4) :: rest))) : W p l e R s m args below meth c H locs cells slots Q (F0 m pc ls (.ref (gB Γ + 3) :: rest)) :=
  va_get (D := gD Γ) (ci := 2) (C := RX2) (T := TX2) (N := 12) hx hb hts hin_2 hown hK hP 3 (by rw [lay_get (gN_lt io_2.1), io_2.2]) rfl 0 (by decide) (hts _ hw) (fun _ h => h) rfl hdg kk
theorem gf_2_1 (hx : p.tables.exec = Jvm.exec) (hb : c.code = cc) (hown : s.vm.findClass own = some m.cls) (hts : ∀ w ∈ lw_good, w.before args s = true) (hK : va_K (gD Γ) gcls (gtys Γ) s) (hP : va_P (gD Γ) gcls (lay Γ g) H) (hw : Cond.fieldLink own index RX2 "x" "[I" ∈ lw_good) (hdg : decode cc pc = .ok (.getfield index, 3))
    (kk : W p l e R s m args below meth c H locs cells slots Q (F0 m (pc + 3) ls (.ref (gB Γ + 6) :: rest))) : W p l e R s m args below meth c H locs cells slots Q (F0 m pc ls (.ref (gB Γ + 3) :: rest)) :=
  va_get (D := gD Γ) (ci := 2) (C := RX2) (T := TX2) (N := 12) hx hb hts hin_2 hown hK hP 3 (by rw [lay_get (gN_lt io_2.1), io_2.2]) rfl 1 (by decide) (hts _ hw) (fun _ h => h) rfl hdg kk
theorem gf_2_2 (hx : p.tables.exec = Jvm.exec) (hb : c.code = cc) (hown : s.vm.findClass own = some m.cls) (hts : ∀ w ∈ lw_good, w.before args s = true) (hK : va_K (gD Γ) gcls (gtys Γ) s) (hP : va_P (gD Γ) gcls (lay Γ g) H) (hw : Cond.fieldLink own index RX2 "y" "[I" ∈ lw_good) (hdg : decode cc pc = .ok (.getfield index, 3))
    (kk : W p l e R s m args below meth c H locs cells slots Q (F0 m (pc + 3) ls (.ref (gB Γ + 7) :: rest))) : W p l e R s m args below meth c H locs cells slots Q (F0 m pc ls (.ref (gB Γ + 3) :: rest)) :=
  va_get (D := gD Γ) (ci := 2) (C := RX2) (T := TX2) (N := 12) hx hb hts hin_2 hown hK hP 3 (by rw [lay_get (gN_lt io_2.1), io_2.2]) rfl 2 (by decide) (hts _ hw) (fun _ h => h) rfl hdg kk
theorem gf_2_3 (hx : p.tables.exec = Jvm.exec) (hb : c.code = cc) (hown : s.vm.findClass own = some m.cls) (hts : ∀ w ∈ lw_good, w.before args s = true) (hK : va_K (gD Γ) gcls (gtys Γ) s) (hP : va_P (gD Γ) gcls (lay Γ g) H) (hw : Cond.fieldLink own index RX2 "tables" "[J" ∈ lw_good) (hdg : decode cc pc = .ok (.getfield index, 3))
    (kk : W p l e R s m args below meth c H locs cells slots Q (F0 m (pc + 3) ls (.ref (gB Γ + 8) :: rest))) : W p l e R s m args below meth c H locs cells slots Q (F0 m pc ls (.ref (gB Γ + 3) :: rest)) :=
  va_get (D := gD Γ) (ci := 2) (C := RX2) (T := TX2) (N := 12) hx hb hts hin_2 hown hK hP 3 (by rw [lay_get (gN_lt io_2.1), io_2.2]) rfl 3 (by decide) (hts _ hw) (fun _ h => h) rfl hdg kk
theorem gf_2_4 (hx : p.tables.exec = Jvm.exec) (hb : c.code = cc) (hown : s.vm.findClass own = some m.cls) (hts : ∀ w ∈ lw_good, w.before args s = true) (hK : va_K (gD Γ) gcls (gtys Γ) s) (hP : va_P (gD Γ) gcls (lay Γ g) H) (hw : Cond.fieldLink own index RX2 "least" "[I" ∈ lw_good) (hdg : decode cc pc = .ok (.getfield index, 3))
    (kk : W p l e R s m args below meth c H locs cells slots Q (F0 m (pc + 3) ls (.ref (gB Γ + 9) :: rest))) : W p l e R s m args below meth c H locs cells slots Q (F0 m pc ls (.ref (gB Γ + 3) :: rest)) :=
  va_get (D := gD Γ) (ci := 2) (C := RX2) (T := TX2) (N := 12) hx hb hts hin_2 hown hK hP 3 (by rw [lay_get (gN_lt io_2.1), io_2.2]) rfl 4 (by decide) (hts _ hw) (fun _ h => h) rfl hdg kk
theorem gf_2_5 (hx : p.tables.exec = Jvm.exec) (hb : c.code = cc) (hown : s.vm.findClass own = some m.cls) (hts : ∀ w ∈ lw_good, w.before args s = true) (hK : va_K (gD Γ) gcls (gtys Γ) s) (hP : va_P (gD Γ) gcls (lay Γ g) H) (hw : Cond.fieldLink own index RX2 "listed" "[I" ∈ lw_good) (hdg : decode cc pc = .ok (.getfield index, 3))
    (kk : W p l e R s m args below meth c H locs cells slots Q (F0 m (pc + 3) ls (.ref (gB Γ + 10) :: rest))) : W p l e R s m args below meth c H locs cells slots Q (F0 m pc ls (.ref (gB Γ + 3) :: rest)) :=
  va_get (D := gD Γ) (ci := 2) (C := RX2) (T := TX2) (N := 12) hx hb hts hin_2 hown hK hP 3 (by rw [lay_get (gN_lt io_2.1), io_2.2]) rfl 5 (by decide) (hts _ hw) (fun _ h => h) rfl hdg kk
theorem gf_2_6 (hx : p.tables.exec = Jvm.exec) (hb : c.code = cc) (hown : s.vm.findClass own = some m.cls) (hts : ∀ w ∈ lw_good, w.before args s = true) (hK : va_K (gD Γ) gcls (gtys Γ) s) (hP : va_P (gD Γ) gcls (lay Γ g) H) (hw : Cond.fieldLink own index RX2 "negated" "[Z" ∈ lw_good) (hdg : decode cc pc = .ok (.getfield index, 3))
    (kk : W p l e R s m args below meth c H locs cells slots Q (F0 m (pc + 3) ls (.ref (gB Γ + 11) :: rest))) : W p l e R s m args below meth c H locs cells slots Q (F0 m pc ls (.ref (gB Γ + 3) :: rest)) :=
  va_get (D := gD Γ) (ci := 2) (C := RX2) (T := TX2) (N := 12) hx hb hts hin_2 hown hK hP 3 (by rw [lay_get (gN_lt io_2.1), io_2.2]) rfl 6 (by decide) (hts _ hw) (fun _ h => h) rfl hdg kk
theorem gf_2_7 (hx : p.tables.exec = Jvm.exec) (hb : c.code = cc) (hown : s.vm.findClass own = some m.cls) (hts : ∀ w ∈ lw_good, w.before args s = true) (hK : va_K (gD Γ) gcls (gtys Γ) s) (hP : va_P (gD Γ) gcls (lay Γ g) H) (hw : Cond.fieldLink own index RX2 "hasPart" "[Z" ∈ lw_good) (hdg : decode cc pc = .ok (.getfield index, 3))
    (kk : W p l e R s m args below meth c H locs cells slots Q (F0 m (pc + 3) ls (.ref (gB Γ + 12) :: rest))) : W p l e R s m args below meth c H locs cells slots Q (F0 m pc ls (.ref (gB Γ + 3) :: rest)) :=
  va_get (D := gD Γ) (ci := 2) (C := RX2) (T := TX2) (N := 12) hx hb hts hin_2 hown hK hP 3 (by rw [lay_get (gN_lt io_2.1), io_2.2]) rfl 7 (by decide) (hts _ hw) (fun _ h => h) rfl hdg kk
theorem gf_2_8 (hx : p.tables.exec = Jvm.exec) (hb : c.code = cc) (hown : s.vm.findClass own = some m.cls) (hts : ∀ w ∈ lw_good, w.before args s = true) (hK : va_K (gD Γ) gcls (gtys Γ) s) (hP : va_P (gD Γ) gcls (lay Γ g) H) (hw : Cond.fieldLink own index RX2 "hasGroup" "[Z" ∈ lw_good) (hdg : decode cc pc = .ok (.getfield index, 3))
    (kk : W p l e R s m args below meth c H locs cells slots Q (F0 m (pc + 3) ls (.ref (gB Γ + 13) :: rest))) : W p l e R s m args below meth c H locs cells slots Q (F0 m pc ls (.ref (gB Γ + 3) :: rest)) :=
  va_get (D := gD Γ) (ci := 2) (C := RX2) (T := TX2) (N := 12) hx hb hts hin_2 hown hK hP 3 (by rw [lay_get (gN_lt io_2.1), io_2.2]) rfl 8 (by decide) (hts _ hw) (fun _ h => h) rfl hdg kk
theorem gf_2_9 (hx : p.tables.exec = Jvm.exec) (hb : c.code = cc) (hown : s.vm.findClass own = some m.cls) (hts : ∀ w ∈ lw_good, w.before args s = true) (hK : va_K (gD Γ) gcls (gtys Γ) s) (hP : va_P (gD Γ) gcls (lay Γ g) H) (hw : Cond.fieldLink own index RX2 "depth" "I" ∈ lw_good) (hdg : decode cc pc = .ok (.getfield index, 3))
    (kk : W p l e R s m args below meth c H locs cells slots Q (F0 m (pc + 3) ls (.int (g.1 3 9) :: rest))) : W p l e R s m args below meth c H locs cells slots Q (F0 m pc ls (.ref (gB Γ + 3) :: rest)) :=
  va_get (D := gD Γ) (ci := 2) (C := RX2) (T := TX2) (N := 12) hx hb hts hin_2 hown hK hP 3 (by rw [lay_get (gN_lt io_2.1), io_2.2]) rfl 9 (by decide) (hts _ hw) (fun _ h => h) rfl hdg kk
theorem gp_2_9 (hx : p.tables.exec = Jvm.exec) (hb : c.code = cc) (hown : s.vm.findClass own = some m.cls) (hts : ∀ w ∈ lw_good, w.before args s = true) (hK : va_K (gD Γ) gcls (gtys Γ) s) (hP : va_P (gD Γ) gcls (lay Γ g) H) (hS : va_S (gA Γ) s.heap H locs) (hw : Cond.fieldLink own index RX2 "depth" "I" ∈ lw_good) {x : Int32} (hdg : decode cc pc = .ok (.putfield index, 3)) {F : gG → Option Z} (h : gLet (gI1 g 3 9 x) F = some z) 
    (kk : ∀ (H1 : Heap) (locs1 : List Loc) (g1 : gG), F g1 = some z → va_P (gD Γ) gcls (lay Γ g1) H1 → va_S (gA Γ) s.heap H1 locs1 → W p l e R s m args below meth c H1 locs1 cells slots Q (F0 m (pc + 3) ls rest)) : W p l e R s m args below meth c H locs cells slots Q (F0 m pc ls (.int x :: .ref (gB Γ + 3) :: rest)) := by
  refine va_put (D := gD Γ) (A := gA Γ) (ci := 2) (v := .int x) (ty := .int) (C := RX2) (T := TX2) (N := 12) hx hb hts hin_2 tyX2 tyX2_ok nmX2 hown hK hP lay_D hS 3 (by rw [lay_get (gN_lt io_2.1), io_2.2]) rfl 9 (by decide) (hts _ hw) (fun _ h => h) rfl (by decide +kernel) rfl rfl (Nat.le_of_ble_eq_true rfl) hdg (fun H1 locs1 hP1 _ hS1 => kk H1 locs1 _ h ?_ hS1)
  rw [lay_set (g' := gI1 g 3 9 x) (gN_lt io_2.1) (by rw [io_2.2, gI1_k]; rfl) gI1_ne] at hP1
  exact hP1
theorem gf_2_10 (hx : p.tables.exec = Jvm.exec) (hb : c.code = cc) (hown : s.vm.findClass own = some m.cls) (hts : ∀ w ∈ lw_good, w.before args s = true) (hK : va_K (gD Γ) gcls (gtys Γ) s) (hP : va_P (gD Γ) gcls (lay Γ g) H) (hw : Cond.fieldLink own index RX2 "places" "I" ∈ lw_good) (hdg : decode cc pc = .ok (.getfield index, 3))
    (kk : W p l e R s m args below meth c H locs cells slots Q (F0 m (pc + 3) ls (.int (g.1 3 10) :: rest))) : W p l e R s m args below meth c H locs cells slots Q (F0 m pc ls (.ref (gB Γ + 3) :: rest)) :=
  va_get (D := gD Γ) (ci := 2) (C := RX2) (T := TX2) (N := 12) hx hb hts hin_2 hown hK hP 3 (by rw [lay_get (gN_lt io_2.1), io_2.2]) rfl 10 (by decide) (hts _ hw) (fun _ h => h) rfl hdg kk
theorem gp_2_10 (hx : p.tables.exec = Jvm.exec) (hb : c.code = cc) (hown : s.vm.findClass own = some m.cls) (hts : ∀ w ∈ lw_good, w.before args s = true) (hK : va_K (gD Γ) gcls (gtys Γ) s) (hP : va_P (gD Γ) gcls (lay Γ g) H) (hS : va_S (gA Γ) s.heap H locs) (hw : Cond.fieldLink own index RX2 "places" "I" ∈ lw_good) {x : Int32} (hdg : decode cc pc = .ok (.putfield index, 3)) {F : gG → Option Z} (h : gLet (gI1 g 3 10 x) F = some z) 
    (kk : ∀ (H1 : Heap) (locs1 : List Loc) (g1 : gG), F g1 = some z → va_P (gD Γ) gcls (lay Γ g1) H1 → va_S (gA Γ) s.heap H1 locs1 → W p l e R s m args below meth c H1 locs1 cells slots Q (F0 m (pc + 3) ls rest)) : W p l e R s m args below meth c H locs cells slots Q (F0 m pc ls (.int x :: .ref (gB Γ + 3) :: rest)) := by
  refine va_put (D := gD Γ) (A := gA Γ) (ci := 2) (v := .int x) (ty := .int) (C := RX2) (T := TX2) (N := 12) hx hb hts hin_2 tyX2 tyX2_ok nmX2 hown hK hP lay_D hS 3 (by rw [lay_get (gN_lt io_2.1), io_2.2]) rfl 10 (by decide) (hts _ hw) (fun _ h => h) rfl (by decide +kernel) rfl rfl (Nat.le_of_ble_eq_true rfl) hdg (fun H1 locs1 hP1 _ hS1 => kk H1 locs1 _ h ?_ hS1)
  rw [lay_set (g' := gI1 g 3 10 x) (gN_lt io_2.1) (by rw [io_2.2, gI1_k]; rfl) gI1_ne] at hP1
  exact hP1
theorem gf_2_11 (hx : p.tables.exec = Jvm.exec) (hb : c.code = cc) (hown : s.vm.findClass own = some m.cls) (hts : ∀ w ∈ lw_good, w.before args s = true) (hK : va_K (gD Γ) gcls (gtys Γ) s) (hP : va_P (gD Γ) gcls (lay Γ g) H) (hw : Cond.fieldLink own index RX2 "expected" "I" ∈ lw_good) (hdg : decode cc pc = .ok (.getfield index, 3))
    (kk : W p l e R s m args below meth c H locs cells slots Q (F0 m (pc + 3) ls (.int (g.1 3 11) :: rest))) : W p l e R s m args below meth c H locs cells slots Q (F0 m pc ls (.ref (gB Γ + 3) :: rest)) :=
  va_get (D := gD Γ) (ci := 2) (C := RX2) (T := TX2) (N := 12) hx hb hts hin_2 hown hK hP 3 (by rw [lay_get (gN_lt io_2.1), io_2.2]) rfl 11 (by decide) (hts _ hw) (fun _ h => h) rfl hdg kk
theorem gp_2_11 (hx : p.tables.exec = Jvm.exec) (hb : c.code = cc) (hown : s.vm.findClass own = some m.cls) (hts : ∀ w ∈ lw_good, w.before args s = true) (hK : va_K (gD Γ) gcls (gtys Γ) s) (hP : va_P (gD Γ) gcls (lay Γ g) H) (hS : va_S (gA Γ) s.heap H locs) (hw : Cond.fieldLink own index RX2 "expected" "I" ∈ lw_good) {x : Int32} (hdg : decode cc pc = .ok (.putfield index, 3)) {F : gG → Option Z} (h : gLet (gI1 g 3 11 x) F = some z) 
    (kk : ∀ (H1 : Heap) (locs1 : List Loc) (g1 : gG), F g1 = some z → va_P (gD Γ) gcls (lay Γ g1) H1 → va_S (gA Γ) s.heap H1 locs1 → W p l e R s m args below meth c H1 locs1 cells slots Q (F0 m (pc + 3) ls rest)) : W p l e R s m args below meth c H locs cells slots Q (F0 m pc ls (.int x :: .ref (gB Γ + 3) :: rest)) := by
  refine va_put (D := gD Γ) (A := gA Γ) (ci := 2) (v := .int x) (ty := .int) (C := RX2) (T := TX2) (N := 12) hx hb hts hin_2 tyX2 tyX2_ok nmX2 hown hK hP lay_D hS 3 (by rw [lay_get (gN_lt io_2.1), io_2.2]) rfl 11 (by decide) (hts _ hw) (fun _ h => h) rfl (by decide +kernel) rfl rfl (Nat.le_of_ble_eq_true rfl) hdg (fun H1 locs1 hP1 _ hS1 => kk H1 locs1 _ h ?_ hS1)
  rw [lay_set (g' := gI1 g 3 11 x) (gN_lt io_2.1) (by rw [io_2.2, gI1_k]; rfl) gI1_ne] at hP1
  exact hP1
theorem gf_3_0 (hx : p.tables.exec = Jvm.exec) (hb : c.code = cc) (hown : s.vm.findClass own = some m.cls) (hts : ∀ w ∈ lw_good, w.before args s = true) (hK : va_K (gD Γ) gcls (gtys Γ) s) (hP : va_P (gD Γ) gcls (lay Γ g) H) (hw : Cond.fieldLink own index RX3 "hunt" "LChestLetters$Hunt;" ∈ lw_good) (hdg : decode cc pc = .ok (.getfield index, 3))
    (kk : W p l e R s m args below meth c H locs cells slots Q (F0 m (pc + 3) ls (.ref (gB Γ + 14) :: rest))) : W p l e R s m args below meth c H locs cells slots Q (F0 m pc ls (.ref (gB Γ + 164) :: rest)) :=
  va_get (D := gD Γ) (ci := 3) (C := RX3) (T := TX3) (N := 3) hx hb hts hin_3 hown hK hP 164 (by rw [lay_get (gN_lt io_3.1), io_3.2]) rfl 0 (by decide) (hts _ hw) (fun _ h => h) rfl hdg kk
theorem gf_3_1 (hx : p.tables.exec = Jvm.exec) (hb : c.code = cc) (hown : s.vm.findClass own = some m.cls) (hts : ∀ w ∈ lw_good, w.before args s = true) (hK : va_K (gD Γ) gcls (gtys Γ) s) (hP : va_P (gD Γ) gcls (lay Γ g) H) (hw : Cond.fieldLink own index RX3 "ways" "LChestLetters$Ways;" ∈ lw_good) (hdg : decode cc pc = .ok (.getfield index, 3))
    (kk : W p l e R s m args below meth c H locs cells slots Q (F0 m (pc + 3) ls (.ref (gB Γ + 156) :: rest))) : W p l e R s m args below meth c H locs cells slots Q (F0 m pc ls (.ref (gB Γ + 164) :: rest)) :=
  va_get (D := gD Γ) (ci := 3) (C := RX3) (T := TX3) (N := 3) hx hb hts hin_3 hown hK hP 164 (by rw [lay_get (gN_lt io_3.1), io_3.2]) rfl 1 (by decide) (hts _ hw) (fun _ h => h) rfl hdg kk
theorem gf_3_2 (hx : p.tables.exec = Jvm.exec) (hb : c.code = cc) (hown : s.vm.findClass own = some m.cls) (hts : ∀ w ∈ lw_good, w.before args s = true) (hK : va_K (gD Γ) gcls (gtys Γ) s) (hP : va_P (gD Γ) gcls (lay Γ g) H) (hw : Cond.fieldLink own index RX3 "copy" "LChestLetters$State;" ∈ lw_good) (hdg : decode cc pc = .ok (.getfield index, 3))
    (kk : W p l e R s m args below meth c H locs cells slots Q (F0 m (pc + 3) ls (.ref (gB Γ + 165) :: rest))) : W p l e R s m args below meth c H locs cells slots Q (F0 m pc ls (.ref (gB Γ + 164) :: rest)) :=
  va_get (D := gD Γ) (ci := 3) (C := RX3) (T := TX3) (N := 3) hx hb hts hin_3 hown hK hP 164 (by rw [lay_get (gN_lt io_3.1), io_3.2]) rfl 2 (by decide) (hts _ hw) (fun _ h => h) rfl hdg kk
theorem gf_4_0 (hx : p.tables.exec = Jvm.exec) (hb : c.code = cc) (hown : s.vm.findClass own = some m.cls) (hts : ∀ w ∈ lw_good, w.before args s = true) (hK : va_K (gD Γ) gcls (gtys Γ) s) (hP : va_P (gD Γ) gcls (lay Γ g) H) (hw : Cond.fieldLink own index RX4 "hunt" "LChestLetters$Hunt;" ∈ lw_good) (hdg : decode cc pc = .ok (.getfield index, 3))
    (kk : W p l e R s m args below meth c H locs cells slots Q (F0 m (pc + 3) ls (.ref (gB Γ + 14) :: rest))) : W p l e R s m args below meth c H locs cells slots Q (F0 m pc ls (.ref (gB Γ + 173) :: rest)) :=
  va_get (D := gD Γ) (ci := 4) (C := RX4) (T := TX4) (N := 2) hx hb hts hin_4 hown hK hP 173 (by rw [lay_get (gN_lt io_4.1), io_4.2]) rfl 0 (by decide) (hts _ hw) (fun _ h => h) rfl hdg kk
theorem gf_4_1 (hx : p.tables.exec = Jvm.exec) (hb : c.code = cc) (hown : s.vm.findClass own = some m.cls) (hts : ∀ w ∈ lw_good, w.before args s = true) (hK : va_K (gD Γ) gcls (gtys Γ) s) (hP : va_P (gD Γ) gcls (lay Γ g) H) (hw : Cond.fieldLink own index RX4 "number" "J" ∈ lw_good) (hdg : decode cc pc = .ok (.getfield index, 3))
    (kk : W p l e R s m args below meth c H locs cells slots Q (F0 m (pc + 3) ls (.long (g.2 173 1) :: rest))) : W p l e R s m args below meth c H locs cells slots Q (F0 m pc ls (.ref (gB Γ + 173) :: rest)) :=
  va_get (D := gD Γ) (ci := 4) (C := RX4) (T := TX4) (N := 2) hx hb hts hin_4 hown hK hP 173 (by rw [lay_get (gN_lt io_4.1), io_4.2]) rfl 1 (by decide) (hts _ hw) (fun _ h => h) rfl hdg kk
theorem gp_4_1 (hx : p.tables.exec = Jvm.exec) (hb : c.code = cc) (hown : s.vm.findClass own = some m.cls) (hts : ∀ w ∈ lw_good, w.before args s = true) (hK : va_K (gD Γ) gcls (gtys Γ) s) (hP : va_P (gD Γ) gcls (lay Γ g) H) (hS : va_S (gA Γ) s.heap H locs) (hw : Cond.fieldLink own index RX4 "number" "J" ∈ lw_good) {x : Int64} (hdg : decode cc pc = .ok (.putfield index, 3)) {F : gG → Option Z} (h : gLet (gL1 g 173 1 x) F = some z) 
    (kk : ∀ (H1 : Heap) (locs1 : List Loc) (g1 : gG), F g1 = some z → va_P (gD Γ) gcls (lay Γ g1) H1 → va_S (gA Γ) s.heap H1 locs1 → W p l e R s m args below meth c H1 locs1 cells slots Q (F0 m (pc + 3) ls rest)) : W p l e R s m args below meth c H locs cells slots Q (F0 m pc ls (.long x :: .ref (gB Γ + 173) :: rest)) := by
  refine va_put (D := gD Γ) (A := gA Γ) (ci := 4) (v := .long x) (ty := .long) (C := RX4) (T := TX4) (N := 2) hx hb hts hin_4 tyX4 tyX4_ok nmX4 hown hK hP lay_D hS 173 (by rw [lay_get (gN_lt io_4.1), io_4.2]) rfl 1 (by decide) (hts _ hw) (fun _ h => h) rfl (by decide +kernel) rfl rfl (Nat.le_of_ble_eq_true rfl) hdg (fun H1 locs1 hP1 _ hS1 => kk H1 locs1 _ h ?_ hS1)
  rw [lay_set (g' := gL1 g 173 1 x) (gN_lt io_4.1) (by rw [io_4.2, gL1_k]; rfl) gL1_ne] at hP1
  exact hP1
theorem gf_5_0 (hx : p.tables.exec = Jvm.exec) (hb : c.code = cc) (hown : s.vm.findClass own = some m.cls) (hts : ∀ w ∈ lw_good, w.before args s = true) (hK : va_K (gD Γ) gcls (gtys Γ) s) (hP : va_P (gD Γ) gcls (lay Γ g) H) (hSt : isSt k) (hw : Cond.fieldLink own index RX5 "hunt" "LChestLetters$Hunt;" ∈ lw_good) (hdg : decode cc pc = .ok (.getfield index, 3))
    (kk : W p l e R s m args below meth c H locs cells slots Q (F0 m (pc + 3) ls (.ref (gB Γ + 14) :: rest))) : W p l e R s m args below meth c H locs cells slots Q (F0 m pc ls (.ref (gB Γ + k) :: rest)) :=
  va_get (D := gD Γ) (ci := 5) (C := RX5) (T := TX5) (N := 10) hx hb hts hin_5 hown hK hP k (by rw [lay_get (gN_lt (isSt_o hSt).1), (isSt_o hSt).2]) rfl 0 (by decide) (hts _ hw) (fun _ h => h) rfl hdg kk
theorem gf_5_1 (hx : p.tables.exec = Jvm.exec) (hb : c.code = cc) (hown : s.vm.findClass own = some m.cls) (hts : ∀ w ∈ lw_good, w.before args s = true) (hK : va_K (gD Γ) gcls (gtys Γ) s) (hP : va_P (gD Γ) gcls (lay Γ g) H) (hSt : isSt k) (hw : Cond.fieldLink own index RX5 "x" "[I" ∈ lw_good) (hdg : decode cc pc = .ok (.getfield index, 3))
    (kk : W p l e R s m args below meth c H locs cells slots Q (F0 m (pc + 3) ls (.ref (gB Γ + (k + 1)) :: rest))) : W p l e R s m args below meth c H locs cells slots Q (F0 m pc ls (.ref (gB Γ + k) :: rest)) :=
  va_get (D := gD Γ) (ci := 5) (C := RX5) (T := TX5) (N := 10) hx hb hts hin_5 hown hK hP k (by rw [lay_get (gN_lt (isSt_o hSt).1), (isSt_o hSt).2]) rfl 1 (by decide) (hts _ hw) (fun _ h => h) rfl hdg kk
theorem gf_5_2 (hx : p.tables.exec = Jvm.exec) (hb : c.code = cc) (hown : s.vm.findClass own = some m.cls) (hts : ∀ w ∈ lw_good, w.before args s = true) (hK : va_K (gD Γ) gcls (gtys Γ) s) (hP : va_P (gD Γ) gcls (lay Γ g) H) (hSt : isSt k) (hw : Cond.fieldLink own index RX5 "y" "[I" ∈ lw_good) (hdg : decode cc pc = .ok (.getfield index, 3))
    (kk : W p l e R s m args below meth c H locs cells slots Q (F0 m (pc + 3) ls (.ref (gB Γ + (k + 2)) :: rest))) : W p l e R s m args below meth c H locs cells slots Q (F0 m pc ls (.ref (gB Γ + k) :: rest)) :=
  va_get (D := gD Γ) (ci := 5) (C := RX5) (T := TX5) (N := 10) hx hb hts hin_5 hown hK hP k (by rw [lay_get (gN_lt (isSt_o hSt).1), (isSt_o hSt).2]) rfl 2 (by decide) (hts _ hw) (fun _ h => h) rfl hdg kk
theorem gf_5_3 (hx : p.tables.exec = Jvm.exec) (hb : c.code = cc) (hown : s.vm.findClass own = some m.cls) (hts : ∀ w ∈ lw_good, w.before args s = true) (hK : va_K (gD Γ) gcls (gtys Γ) s) (hP : va_P (gD Γ) gcls (lay Γ g) H) (hSt : isSt k) (hw : Cond.fieldLink own index RX5 "visited" "[I" ∈ lw_good) (hdg : decode cc pc = .ok (.getfield index, 3))
    (kk : W p l e R s m args below meth c H locs cells slots Q (F0 m (pc + 3) ls (.ref (gB Γ + (k + 3)) :: rest))) : W p l e R s m args below meth c H locs cells slots Q (F0 m pc ls (.ref (gB Γ + k) :: rest)) :=
  va_get (D := gD Γ) (ci := 5) (C := RX5) (T := TX5) (N := 10) hx hb hts hin_5 hown hK hP k (by rw [lay_get (gN_lt (isSt_o hSt).1), (isSt_o hSt).2]) rfl 3 (by decide) (hts _ hw) (fun _ h => h) rfl hdg kk
theorem gf_5_4 (hx : p.tables.exec = Jvm.exec) (hb : c.code = cc) (hown : s.vm.findClass own = some m.cls) (hts : ∀ w ∈ lw_good, w.before args s = true) (hK : va_K (gD Γ) gcls (gtys Γ) s) (hP : va_P (gD Γ) gcls (lay Γ g) H) (hSt : isSt k) (hw : Cond.fieldLink own index RX5 "visits" "[I" ∈ lw_good) (hdg : decode cc pc = .ok (.getfield index, 3))
    (kk : W p l e R s m args below meth c H locs cells slots Q (F0 m (pc + 3) ls (.ref (gB Γ + (k + 4)) :: rest))) : W p l e R s m args below meth c H locs cells slots Q (F0 m pc ls (.ref (gB Γ + k) :: rest)) :=
  va_get (D := gD Γ) (ci := 5) (C := RX5) (T := TX5) (N := 10) hx hb hts hin_5 hown hK hP k (by rw [lay_get (gN_lt (isSt_o hSt).1), (isSt_o hSt).2]) rfl 4 (by decide) (hts _ hw) (fun _ h => h) rfl hdg kk
theorem gf_5_5 (hx : p.tables.exec = Jvm.exec) (hb : c.code = cc) (hown : s.vm.findClass own = some m.cls) (hts : ∀ w ∈ lw_good, w.before args s = true) (hK : va_K (gD Γ) gcls (gtys Γ) s) (hP : va_P (gD Γ) gcls (lay Γ g) H) (hSt : isSt k) (hw : Cond.fieldLink own index RX5 "minutes" "[I" ∈ lw_good) (hdg : decode cc pc = .ok (.getfield index, 3))
    (kk : W p l e R s m args below meth c H locs cells slots Q (F0 m (pc + 3) ls (.ref (gB Γ + (k + 5)) :: rest))) : W p l e R s m args below meth c H locs cells slots Q (F0 m pc ls (.ref (gB Γ + k) :: rest)) :=
  va_get (D := gD Γ) (ci := 5) (C := RX5) (T := TX5) (N := 10) hx hb hts hin_5 hown hK hP k (by rw [lay_get (gN_lt (isSt_o hSt).1), (isSt_o hSt).2]) rfl 5 (by decide) (hts _ hw) (fun _ h => h) rfl hdg kk
theorem gf_5_6 (hx : p.tables.exec = Jvm.exec) (hb : c.code = cc) (hown : s.vm.findClass own = some m.cls) (hts : ∀ w ∈ lw_good, w.before args s = true) (hK : va_K (gD Γ) gcls (gtys Γ) s) (hP : va_P (gD Γ) gcls (lay Γ g) H) (hSt : isSt k) (hw : Cond.fieldLink own index RX5 "hints" "[I" ∈ lw_good) (hdg : decode cc pc = .ok (.getfield index, 3))
    (kk : W p l e R s m args below meth c H locs cells slots Q (F0 m (pc + 3) ls (.ref (gB Γ + (k + 6)) :: rest))) : W p l e R s m args below meth c H locs cells slots Q (F0 m pc ls (.ref (gB Γ + k) :: rest)) :=
  va_get (D := gD Γ) (ci := 5) (C := RX5) (T := TX5) (N := 10) hx hb hts hin_5 hown hK hP k (by rw [lay_get (gN_lt (isSt_o hSt).1), (isSt_o hSt).2]) rfl 6 (by decide) (hts _ hw) (fun _ h => h) rfl hdg kk
theorem gf_5_7 (hx : p.tables.exec = Jvm.exec) (hb : c.code = cc) (hown : s.vm.findClass own = some m.cls) (hts : ∀ w ∈ lw_good, w.before args s = true) (hK : va_K (gD Γ) gcls (gtys Γ) s) (hP : va_P (gD Γ) gcls (lay Γ g) H) (hSt : isSt k) (hw : Cond.fieldLink own index RX5 "trails" "[I" ∈ lw_good) (hdg : decode cc pc = .ok (.getfield index, 3))
    (kk : W p l e R s m args below meth c H locs cells slots Q (F0 m (pc + 3) ls (.ref (gB Γ + (k + 7)) :: rest))) : W p l e R s m args below meth c H locs cells slots Q (F0 m pc ls (.ref (gB Γ + k) :: rest)) :=
  va_get (D := gD Γ) (ci := 5) (C := RX5) (T := TX5) (N := 10) hx hb hts hin_5 hown hK hP k (by rw [lay_get (gN_lt (isSt_o hSt).1), (isSt_o hSt).2]) rfl 7 (by decide) (hts _ hw) (fun _ h => h) rfl hdg kk
theorem gf_5_8 (hx : p.tables.exec = Jvm.exec) (hb : c.code = cc) (hown : s.vm.findClass own = some m.cls) (hts : ∀ w ∈ lw_good, w.before args s = true) (hK : va_K (gD Γ) gcls (gtys Γ) s) (hP : va_P (gD Γ) gcls (lay Γ g) H) (hSt : isSt k) (hw : Cond.fieldLink own index RX5 "eased" "I" ∈ lw_good) (hdg : decode cc pc = .ok (.getfield index, 3))
    (kk : W p l e R s m args below meth c H locs cells slots Q (F0 m (pc + 3) ls (.int (g.1 k 8) :: rest))) : W p l e R s m args below meth c H locs cells slots Q (F0 m pc ls (.ref (gB Γ + k) :: rest)) :=
  va_get (D := gD Γ) (ci := 5) (C := RX5) (T := TX5) (N := 10) hx hb hts hin_5 hown hK hP k (by rw [lay_get (gN_lt (isSt_o hSt).1), (isSt_o hSt).2]) rfl 8 (by decide) (hts _ hw) (fun _ h => h) rfl hdg kk
theorem gp_5_8 (hx : p.tables.exec = Jvm.exec) (hb : c.code = cc) (hown : s.vm.findClass own = some m.cls) (hts : ∀ w ∈ lw_good, w.before args s = true) (hK : va_K (gD Γ) gcls (gtys Γ) s) (hP : va_P (gD Γ) gcls (lay Γ g) H) (hS : va_S (gA Γ) s.heap H locs) (hSt : isSt k) (hw : Cond.fieldLink own index RX5 "eased" "I" ∈ lw_good) {x : Int32} (hdg : decode cc pc = .ok (.putfield index, 3)) {F : gG → Option Z} (h : gLet (gI1 g k 8 x) F = some z) 
    (kk : ∀ (H1 : Heap) (locs1 : List Loc) (g1 : gG), F g1 = some z → va_P (gD Γ) gcls (lay Γ g1) H1 → va_S (gA Γ) s.heap H1 locs1 → W p l e R s m args below meth c H1 locs1 cells slots Q (F0 m (pc + 3) ls rest)) : W p l e R s m args below meth c H locs cells slots Q (F0 m pc ls (.int x :: .ref (gB Γ + k) :: rest)) := by
  refine va_put (D := gD Γ) (A := gA Γ) (ci := 5) (v := .int x) (ty := .int) (C := RX5) (T := TX5) (N := 10) hx hb hts hin_5 tyX5 tyX5_ok nmX5 hown hK hP lay_D hS k (by rw [lay_get (gN_lt (isSt_o hSt).1), (isSt_o hSt).2]) rfl 8 (by decide) (hts _ hw) (fun _ h => h) rfl (by decide +kernel) rfl rfl (Nat.le_of_ble_eq_true rfl) hdg (fun H1 locs1 hP1 _ hS1 => kk H1 locs1 _ h ?_ hS1)
  rw [lay_set (g' := gI1 g k 8 x) (gN_lt (isSt_o hSt).1) (by rw [(isSt_o hSt).2, gI1_k]; rfl) gI1_ne] at hP1
  exact hP1
theorem gf_5_9 (hx : p.tables.exec = Jvm.exec) (hb : c.code = cc) (hown : s.vm.findClass own = some m.cls) (hts : ∀ w ∈ lw_good, w.before args s = true) (hK : va_K (gD Γ) gcls (gtys Γ) s) (hP : va_P (gD Γ) gcls (lay Γ g) H) (hSt : isSt k) (hw : Cond.fieldLink own index RX5 "teams" "I" ∈ lw_good) (hdg : decode cc pc = .ok (.getfield index, 3))
    (kk : W p l e R s m args below meth c H locs cells slots Q (F0 m (pc + 3) ls (.int (g.1 k 9) :: rest))) : W p l e R s m args below meth c H locs cells slots Q (F0 m pc ls (.ref (gB Γ + k) :: rest)) :=
  va_get (D := gD Γ) (ci := 5) (C := RX5) (T := TX5) (N := 10) hx hb hts hin_5 hown hK hP k (by rw [lay_get (gN_lt (isSt_o hSt).1), (isSt_o hSt).2]) rfl 9 (by decide) (hts _ hw) (fun _ h => h) rfl hdg kk
theorem gp_5_9 (hx : p.tables.exec = Jvm.exec) (hb : c.code = cc) (hown : s.vm.findClass own = some m.cls) (hts : ∀ w ∈ lw_good, w.before args s = true) (hK : va_K (gD Γ) gcls (gtys Γ) s) (hP : va_P (gD Γ) gcls (lay Γ g) H) (hS : va_S (gA Γ) s.heap H locs) (hSt : isSt k) (hw : Cond.fieldLink own index RX5 "teams" "I" ∈ lw_good) {x : Int32} (hdg : decode cc pc = .ok (.putfield index, 3)) {F : gG → Option Z} (h : gLet (gI1 g k 9 x) F = some z) 
    (kk : ∀ (H1 : Heap) (locs1 : List Loc) (g1 : gG), F g1 = some z → va_P (gD Γ) gcls (lay Γ g1) H1 → va_S (gA Γ) s.heap H1 locs1 → W p l e R s m args below meth c H1 locs1 cells slots Q (F0 m (pc + 3) ls rest)) : W p l e R s m args below meth c H locs cells slots Q (F0 m pc ls (.int x :: .ref (gB Γ + k) :: rest)) := by
  refine va_put (D := gD Γ) (A := gA Γ) (ci := 5) (v := .int x) (ty := .int) (C := RX5) (T := TX5) (N := 10) hx hb hts hin_5 tyX5 tyX5_ok nmX5 hown hK hP lay_D hS k (by rw [lay_get (gN_lt (isSt_o hSt).1), (isSt_o hSt).2]) rfl 9 (by decide) (hts _ hw) (fun _ h => h) rfl (by decide +kernel) rfl rfl (Nat.le_of_ble_eq_true rfl) hdg (fun H1 locs1 hP1 _ hS1 => kk H1 locs1 _ h ?_ hS1)
  rw [lay_set (g' := gI1 g k 9 x) (gN_lt (isSt_o hSt).1) (by rw [(isSt_o hSt).2, gI1_k]; rfl) gI1_ne] at hP1
  exact hP1
theorem gf_6_0 (hx : p.tables.exec = Jvm.exec) (hb : c.code = cc) (hown : s.vm.findClass own = some m.cls) (hts : ∀ w ∈ lw_good, w.before args s = true) (hK : va_K (gD Γ) gcls (gtys Γ) s) (hP : va_P (gD Γ) gcls (lay Γ g) H) (hw : Cond.fieldLink own index RX6 "signs" "[C" ∈ lw_good) (hdg : decode cc pc = .ok (.getfield index, 3))
    (kk : W p l e R s m args below meth c H locs cells slots Q (F0 m (pc + 3) ls (.ref (gB Γ + 2) :: rest))) : W p l e R s m args below meth c H locs cells slots Q (F0 m pc ls (.ref (gB Γ + 1) :: rest)) :=
  va_get (D := gD Γ) (ci := 6) (C := RX6) (T := TX6) (N := 2) hx hb hts hin_6 hown hK hP 1 (by rw [lay_get (gN_lt io_6.1), io_6.2]) rfl 0 (by decide) (hts _ hw) (fun _ h => h) rfl hdg kk
theorem gf_6_1 (hx : p.tables.exec = Jvm.exec) (hb : c.code = cc) (hown : s.vm.findClass own = some m.cls) (hts : ∀ w ∈ lw_good, w.before args s = true) (hK : va_K (gD Γ) gcls (gtys Γ) s) (hP : va_P (gD Γ) gcls (lay Γ g) H) (hw : Cond.fieldLink own index RX6 "length" "I" ∈ lw_good) (hdg : decode cc pc = .ok (.getfield index, 3))
    (kk : W p l e R s m args below meth c H locs cells slots Q (F0 m (pc + 3) ls (.int (g.1 1 1) :: rest))) : W p l e R s m args below meth c H locs cells slots Q (F0 m pc ls (.ref (gB Γ + 1) :: rest)) :=
  va_get (D := gD Γ) (ci := 6) (C := RX6) (T := TX6) (N := 2) hx hb hts hin_6 hown hK hP 1 (by rw [lay_get (gN_lt io_6.1), io_6.2]) rfl 1 (by decide) (hts _ hw) (fun _ h => h) rfl hdg kk
theorem gp_6_1 (hx : p.tables.exec = Jvm.exec) (hb : c.code = cc) (hown : s.vm.findClass own = some m.cls) (hts : ∀ w ∈ lw_good, w.before args s = true) (hK : va_K (gD Γ) gcls (gtys Γ) s) (hP : va_P (gD Γ) gcls (lay Γ g) H) (hS : va_S (gA Γ) s.heap H locs) (hw : Cond.fieldLink own index RX6 "length" "I" ∈ lw_good) {x : Int32} (hdg : decode cc pc = .ok (.putfield index, 3)) {F : gG → Option Z} (h : gLet (gI1 g 1 1 x) F = some z) 
    (kk : ∀ (H1 : Heap) (locs1 : List Loc) (g1 : gG), F g1 = some z → va_P (gD Γ) gcls (lay Γ g1) H1 → va_S (gA Γ) s.heap H1 locs1 → W p l e R s m args below meth c H1 locs1 cells slots Q (F0 m (pc + 3) ls rest)) : W p l e R s m args below meth c H locs cells slots Q (F0 m pc ls (.int x :: .ref (gB Γ + 1) :: rest)) := by
  refine va_put (D := gD Γ) (A := gA Γ) (ci := 6) (v := .int x) (ty := .int) (C := RX6) (T := TX6) (N := 2) hx hb hts hin_6 tyX6 tyX6_ok nmX6 hown hK hP lay_D hS 1 (by rw [lay_get (gN_lt io_6.1), io_6.2]) rfl 1 (by decide) (hts _ hw) (fun _ h => h) rfl (by decide +kernel) rfl rfl (Nat.le_of_ble_eq_true rfl) hdg (fun H1 locs1 hP1 _ hS1 => kk H1 locs1 _ h ?_ hS1)
  rw [lay_set (g' := gI1 g 1 1 x) (gN_lt io_6.1) (by rw [io_6.2, gI1_k]; rfl) gI1_ne] at hP1
  exact hP1
theorem gf_7_0 (hx : p.tables.exec = Jvm.exec) (hb : c.code = cc) (hown : s.vm.findClass own = some m.cls) (hts : ∀ w ∈ lw_good, w.before args s = true) (hK : va_K (gD Γ) gcls (gtys Γ) s) (hP : va_P (gD Γ) gcls (lay Γ g) H) (hw : Cond.fieldLink own index RX7 "rows" "[J" ∈ lw_good) (hdg : decode cc pc = .ok (.getfield index, 3))
    (kk : W p l e R s m args below meth c H locs cells slots Q (F0 m (pc + 3) ls (.ref (gB Γ + 5) :: rest))) : W p l e R s m args below meth c H locs cells slots Q (F0 m pc ls (.ref (gB Γ + 4) :: rest)) :=
  va_get (D := gD Γ) (ci := 7) (C := RX7) (T := TX7) (N := 2) hx hb hts hin_7 hown hK hP 4 (by rw [lay_get (gN_lt io_7.1), io_7.2]) rfl 0 (by decide) (hts _ hw) (fun _ h => h) rfl hdg kk
theorem gf_7_1 (hx : p.tables.exec = Jvm.exec) (hb : c.code = cc) (hown : s.vm.findClass own = some m.cls) (hts : ∀ w ∈ lw_good, w.before args s = true) (hK : va_K (gD Γ) gcls (gtys Γ) s) (hP : va_P (gD Γ) gcls (lay Γ g) H) (hw : Cond.fieldLink own index RX7 "height" "I" ∈ lw_good) (hdg : decode cc pc = .ok (.getfield index, 3))
    (kk : W p l e R s m args below meth c H locs cells slots Q (F0 m (pc + 3) ls (.int (g.1 4 1) :: rest))) : W p l e R s m args below meth c H locs cells slots Q (F0 m pc ls (.ref (gB Γ + 4) :: rest)) :=
  va_get (D := gD Γ) (ci := 7) (C := RX7) (T := TX7) (N := 2) hx hb hts hin_7 hown hK hP 4 (by rw [lay_get (gN_lt io_7.1), io_7.2]) rfl 1 (by decide) (hts _ hw) (fun _ h => h) rfl hdg kk
theorem gp_7_1 (hx : p.tables.exec = Jvm.exec) (hb : c.code = cc) (hown : s.vm.findClass own = some m.cls) (hts : ∀ w ∈ lw_good, w.before args s = true) (hK : va_K (gD Γ) gcls (gtys Γ) s) (hP : va_P (gD Γ) gcls (lay Γ g) H) (hS : va_S (gA Γ) s.heap H locs) (hw : Cond.fieldLink own index RX7 "height" "I" ∈ lw_good) {x : Int32} (hdg : decode cc pc = .ok (.putfield index, 3)) {F : gG → Option Z} (h : gLet (gI1 g 4 1 x) F = some z) 
    (kk : ∀ (H1 : Heap) (locs1 : List Loc) (g1 : gG), F g1 = some z → va_P (gD Γ) gcls (lay Γ g1) H1 → va_S (gA Γ) s.heap H1 locs1 → W p l e R s m args below meth c H1 locs1 cells slots Q (F0 m (pc + 3) ls rest)) : W p l e R s m args below meth c H locs cells slots Q (F0 m pc ls (.int x :: .ref (gB Γ + 4) :: rest)) := by
  refine va_put (D := gD Γ) (A := gA Γ) (ci := 7) (v := .int x) (ty := .int) (C := RX7) (T := TX7) (N := 2) hx hb hts hin_7 tyX7 tyX7_ok nmX7 hown hK hP lay_D hS 4 (by rw [lay_get (gN_lt io_7.1), io_7.2]) rfl 1 (by decide) (hts _ hw) (fun _ h => h) rfl (by decide +kernel) rfl rfl (Nat.le_of_ble_eq_true rfl) hdg (fun H1 locs1 hP1 _ hS1 => kk H1 locs1 _ h ?_ hS1)
  rw [lay_set (g' := gI1 g 4 1 x) (gN_lt io_7.1) (by rw [io_7.2, gI1_k]; rfl) gI1_ne] at hP1
  exact hP1
theorem gf_8_0 (hx : p.tables.exec = Jvm.exec) (hb : c.code = cc) (hown : s.vm.findClass own = some m.cls) (hts : ∀ w ∈ lw_good, w.before args s = true) (hK : va_K (gD Γ) gcls (gtys Γ) s) (hP : va_P (gD Γ) gcls (lay Γ g) H) (hw : Cond.fieldLink own index RX8 "hunt" "LChestLetters$Hunt;" ∈ lw_good) (hdg : decode cc pc = .ok (.getfield index, 3))
    (kk : W p l e R s m args below meth c H locs cells slots Q (F0 m (pc + 3) ls (.ref (gB Γ + 14) :: rest))) : W p l e R s m args below meth c H locs cells slots Q (F0 m pc ls (.ref (gB Γ + 156) :: rest)) :=
  va_get (D := gD Γ) (ci := 8) (C := RX8) (T := TX8) (N := 8) hx hb hts hin_8 hown hK hP 156 (by rw [lay_get (gN_lt io_8.1), io_8.2]) rfl 0 (by decide) (hts _ hw) (fun _ h => h) rfl hdg kk
theorem gf_8_1 (hx : p.tables.exec = Jvm.exec) (hb : c.code = cc) (hown : s.vm.findClass own = some m.cls) (hts : ∀ w ∈ lw_good, w.before args s = true) (hK : va_K (gD Γ) gcls (gtys Γ) s) (hP : va_P (gD Γ) gcls (lay Γ g) H) (hw : Cond.fieldLink own index RX8 "next" "[I" ∈ lw_good) (hdg : decode cc pc = .ok (.getfield index, 3))
    (kk : W p l e R s m args below meth c H locs cells slots Q (F0 m (pc + 3) ls (.ref (gB Γ + 157) :: rest))) : W p l e R s m args below meth c H locs cells slots Q (F0 m pc ls (.ref (gB Γ + 156) :: rest)) :=
  va_get (D := gD Γ) (ci := 8) (C := RX8) (T := TX8) (N := 8) hx hb hts hin_8 hown hK hP 156 (by rw [lay_get (gN_lt io_8.1), io_8.2]) rfl 1 (by decide) (hts _ hw) (fun _ h => h) rfl hdg kk
theorem gf_8_2 (hx : p.tables.exec = Jvm.exec) (hb : c.code = cc) (hown : s.vm.findClass own = some m.cls) (hts : ∀ w ∈ lw_good, w.before args s = true) (hK : va_K (gD Γ) gcls (gtys Γ) s) (hP : va_P (gD Γ) gcls (lay Γ g) H) (hw : Cond.fieldLink own index RX8 "leading" "[I" ∈ lw_good) (hdg : decode cc pc = .ok (.getfield index, 3))
    (kk : W p l e R s m args below meth c H locs cells slots Q (F0 m (pc + 3) ls (.ref (gB Γ + 158) :: rest))) : W p l e R s m args below meth c H locs cells slots Q (F0 m pc ls (.ref (gB Γ + 156) :: rest)) :=
  va_get (D := gD Γ) (ci := 8) (C := RX8) (T := TX8) (N := 8) hx hb hts hin_8 hown hK hP 156 (by rw [lay_get (gN_lt io_8.1), io_8.2]) rfl 2 (by decide) (hts _ hw) (fun _ h => h) rfl hdg kk
theorem gf_8_3 (hx : p.tables.exec = Jvm.exec) (hb : c.code = cc) (hown : s.vm.findClass own = some m.cls) (hts : ∀ w ∈ lw_good, w.before args s = true) (hK : va_K (gD Γ) gcls (gtys Γ) s) (hP : va_P (gD Γ) gcls (lay Γ g) H) (hw : Cond.fieldLink own index RX8 "orders" "[I" ∈ lw_good) (hdg : decode cc pc = .ok (.getfield index, 3))
    (kk : W p l e R s m args below meth c H locs cells slots Q (F0 m (pc + 3) ls (.ref (gB Γ + 159) :: rest))) : W p l e R s m args below meth c H locs cells slots Q (F0 m pc ls (.ref (gB Γ + 156) :: rest)) :=
  va_get (D := gD Γ) (ci := 8) (C := RX8) (T := TX8) (N := 8) hx hb hts hin_8 hown hK hP 156 (by rw [lay_get (gN_lt io_8.1), io_8.2]) rfl 3 (by decide) (hts _ hw) (fun _ h => h) rfl hdg kk
theorem gf_8_4 (hx : p.tables.exec = Jvm.exec) (hb : c.code = cc) (hown : s.vm.findClass own = some m.cls) (hts : ∀ w ∈ lw_good, w.before args s = true) (hK : va_K (gD Γ) gcls (gtys Γ) s) (hP : va_P (gD Γ) gcls (lay Γ g) H) (hw : Cond.fieldLink own index RX8 "fewest" "[I" ∈ lw_good) (hdg : decode cc pc = .ok (.getfield index, 3))
    (kk : W p l e R s m args below meth c H locs cells slots Q (F0 m (pc + 3) ls (.ref (gB Γ + 160) :: rest))) : W p l e R s m args below meth c H locs cells slots Q (F0 m pc ls (.ref (gB Γ + 156) :: rest)) :=
  va_get (D := gD Γ) (ci := 8) (C := RX8) (T := TX8) (N := 8) hx hb hts hin_8 hown hK hP 156 (by rw [lay_get (gN_lt io_8.1), io_8.2]) rfl 4 (by decide) (hts _ hw) (fun _ h => h) rfl hdg kk
theorem gf_8_5 (hx : p.tables.exec = Jvm.exec) (hb : c.code = cc) (hown : s.vm.findClass own = some m.cls) (hts : ∀ w ∈ lw_good, w.before args s = true) (hK : va_K (gD Γ) gcls (gtys Γ) s) (hP : va_P (gD Γ) gcls (lay Γ g) H) (hw : Cond.fieldLink own index RX8 "common" "[I" ∈ lw_good) (hdg : decode cc pc = .ok (.getfield index, 3))
    (kk : W p l e R s m args below meth c H locs cells slots Q (F0 m (pc + 3) ls (.ref (gB Γ + 161) :: rest))) : W p l e R s m args below meth c H locs cells slots Q (F0 m pc ls (.ref (gB Γ + 156) :: rest)) :=
  va_get (D := gD Γ) (ci := 8) (C := RX8) (T := TX8) (N := 8) hx hb hts hin_8 hown hK hP 156 (by rw [lay_get (gN_lt io_8.1), io_8.2]) rfl 5 (by decide) (hts _ hw) (fun _ h => h) rfl hdg kk
theorem gf_8_6 (hx : p.tables.exec = Jvm.exec) (hb : c.code = cc) (hown : s.vm.findClass own = some m.cls) (hts : ∀ w ∈ lw_good, w.before args s = true) (hK : va_K (gD Γ) gcls (gtys Γ) s) (hP : va_P (gD Γ) gcls (lay Γ g) H) (hw : Cond.fieldLink own index RX8 "minutes" "[I" ∈ lw_good) (hdg : decode cc pc = .ok (.getfield index, 3))
    (kk : W p l e R s m args below meth c H locs cells slots Q (F0 m (pc + 3) ls (.ref (gB Γ + 162) :: rest))) : W p l e R s m args below meth c H locs cells slots Q (F0 m pc ls (.ref (gB Γ + 156) :: rest)) :=
  va_get (D := gD Γ) (ci := 8) (C := RX8) (T := TX8) (N := 8) hx hb hts hin_8 hown hK hP 156 (by rw [lay_get (gN_lt io_8.1), io_8.2]) rfl 6 (by decide) (hts _ hw) (fun _ h => h) rfl hdg kk
theorem gf_8_7 (hx : p.tables.exec = Jvm.exec) (hb : c.code = cc) (hown : s.vm.findClass own = some m.cls) (hts : ∀ w ∈ lw_good, w.before args s = true) (hK : va_K (gD Γ) gcls (gtys Γ) s) (hP : va_P (gD Γ) gcls (lay Γ g) H) (hw : Cond.fieldLink own index RX8 "steps" "[I" ∈ lw_good) (hdg : decode cc pc = .ok (.getfield index, 3))
    (kk : W p l e R s m args below meth c H locs cells slots Q (F0 m (pc + 3) ls (.ref (gB Γ + 163) :: rest))) : W p l e R s m args below meth c H locs cells slots Q (F0 m pc ls (.ref (gB Γ + 156) :: rest)) :=
  va_get (D := gD Γ) (ci := 8) (C := RX8) (T := TX8) (N := 8) hx hb hts hin_8 hown hK hP 156 (by rw [lay_get (gN_lt io_8.1), io_8.2]) rfl 7 (by decide) (hts _ hw) (fun _ h => h) rfl hdg kk
theorem gf_9_0 (hx : p.tables.exec = Jvm.exec) (hb : c.code = cc) (hown : s.vm.findClass own = some m.cls) (hts : ∀ w ∈ lw_good, w.before args s = true) (hK : va_K (gD Γ) gcls (gtys Γ) s) (hP : va_P (gD Γ) gcls (lay Γ g) H) (hw : Cond.fieldLink own index RX9 "text" "LChestLetters$Text;" ∈ lw_good) (hdg : decode cc pc = .ok (.getfield index, 3))
    (kk : W p l e R s m args below meth c H locs cells slots Q (F0 m (pc + 3) ls (.ref (gB Γ + 1) :: rest))) : W p l e R s m args below meth c H locs cells slots Q (F0 m pc ls (.ref (gB Γ + 0) :: rest)) :=
  va_get (D := gD Γ) (ci := 9) (C := RX9) (T := TX9) (N := 10) hx hb hts hin_9 hown hK hP 0 (by rw [lay_get (gN_lt io_9.1), io_9.2]) rfl 0 (by decide) (hts _ hw) (fun _ h => h) rfl hdg kk
theorem gf_9_1 (hx : p.tables.exec = Jvm.exec) (hb : c.code = cc) (hown : s.vm.findClass own = some m.cls) (hts : ∀ w ∈ lw_good, w.before args s = true) (hK : va_K (gD Γ) gcls (gtys Γ) s) (hP : va_P (gD Γ) gcls (lay Γ g) H) (hw : Cond.fieldLink own index RX9 "reader" "LChestLetters$Reader;" ∈ lw_good) (hdg : decode cc pc = .ok (.getfield index, 3))
    (kk : W p l e R s m args below meth c H locs cells slots Q (F0 m (pc + 3) ls (.ref (gB Γ + 3) :: rest))) : W p l e R s m args below meth c H locs cells slots Q (F0 m pc ls (.ref (gB Γ + 0) :: rest)) :=
  va_get (D := gD Γ) (ci := 9) (C := RX9) (T := TX9) (N := 10) hx hb hts hin_9 hown hK hP 0 (by rw [lay_get (gN_lt io_9.1), io_9.2]) rfl 1 (by decide) (hts _ hw) (fun _ h => h) rfl hdg kk
theorem gf_9_2 (hx : p.tables.exec = Jvm.exec) (hb : c.code = cc) (hown : s.vm.findClass own = some m.cls) (hts : ∀ w ∈ lw_good, w.before args s = true) (hK : va_K (gD Γ) gcls (gtys Γ) s) (hP : va_P (gD Γ) gcls (lay Γ g) H) (hw : Cond.fieldLink own index RX9 "hunt" "LChestLetters$Hunt;" ∈ lw_good) (hdg : decode cc pc = .ok (.getfield index, 3))
    (kk : W p l e R s m args below meth c H locs cells slots Q (F0 m (pc + 3) ls (.ref (gB Γ + 14) :: rest))) : W p l e R s m args below meth c H locs cells slots Q (F0 m pc ls (.ref (gB Γ + 0) :: rest)) :=
  va_get (D := gD Γ) (ci := 9) (C := RX9) (T := TX9) (N := 10) hx hb hts hin_9 hown hK hP 0 (by rw [lay_get (gN_lt io_9.1), io_9.2]) rfl 2 (by decide) (hts _ hw) (fun _ h => h) rfl hdg kk
theorem gf_9_3 (hx : p.tables.exec = Jvm.exec) (hb : c.code = cc) (hown : s.vm.findClass own = some m.cls) (hts : ∀ w ∈ lw_good, w.before args s = true) (hK : va_K (gD Γ) gcls (gtys Γ) s) (hP : va_P (gD Γ) gcls (lay Γ g) H) (hw : Cond.fieldLink own index RX9 "state" "LChestLetters$State;" ∈ lw_good) (hdg : decode cc pc = .ok (.getfield index, 3))
    (kk : W p l e R s m args below meth c H locs cells slots Q (F0 m (pc + 3) ls (.ref (gB Γ + 16) :: rest))) : W p l e R s m args below meth c H locs cells slots Q (F0 m pc ls (.ref (gB Γ + 0) :: rest)) :=
  va_get (D := gD Γ) (ci := 9) (C := RX9) (T := TX9) (N := 10) hx hb hts hin_9 hown hK hP 0 (by rw [lay_get (gN_lt io_9.1), io_9.2]) rfl 3 (by decide) (hts _ hw) (fun _ h => h) rfl hdg kk
theorem gf_9_4 (hx : p.tables.exec = Jvm.exec) (hb : c.code = cc) (hown : s.vm.findClass own = some m.cls) (hts : ∀ w ∈ lw_good, w.before args s = true) (hK : va_K (gD Γ) gcls (gtys Γ) s) (hP : va_P (gD Γ) gcls (lay Γ g) H) (hw : Cond.fieldLink own index RX9 "memory" "LChestLetters$Memory;" ∈ lw_good) (hdg : decode cc pc = .ok (.getfield index, 3))
    (kk : W p l e R s m args below meth c H locs cells slots Q (F0 m (pc + 3) ls (.ref (gB Γ + 24) :: rest))) : W p l e R s m args below meth c H locs cells slots Q (F0 m pc ls (.ref (gB Γ + 0) :: rest)) :=
  va_get (D := gD Γ) (ci := 9) (C := RX9) (T := TX9) (N := 10) hx hb hts hin_9 hown hK hP 0 (by rw [lay_get (gN_lt io_9.1), io_9.2]) rfl 4 (by decide) (hts _ hw) (fun _ h => h) rfl hdg kk
theorem gf_9_5 (hx : p.tables.exec = Jvm.exec) (hb : c.code = cc) (hown : s.vm.findClass own = some m.cls) (hts : ∀ w ∈ lw_good, w.before args s = true) (hK : va_K (gD Γ) gcls (gtys Γ) s) (hP : va_P (gD Γ) gcls (lay Γ g) H) (hw : Cond.fieldLink own index RX9 "slots" "[LChestLetters$State;" ∈ lw_good) (hdg : decode cc pc = .ok (.getfield index, 3))
    (kk : W p l e R s m args below meth c H locs cells slots Q (F0 m (pc + 3) ls (.ref (gB Γ + 138) :: rest))) : W p l e R s m args below meth c H locs cells slots Q (F0 m pc ls (.ref (gB Γ + 0) :: rest)) :=
  va_get (D := gD Γ) (ci := 9) (C := RX9) (T := TX9) (N := 10) hx hb hts hin_9 hown hK hP 0 (by rw [lay_get (gN_lt io_9.1), io_9.2]) rfl 5 (by decide) (hts _ hw) (fun _ h => h) rfl hdg kk
theorem gf_9_6 (hx : p.tables.exec = Jvm.exec) (hb : c.code = cc) (hown : s.vm.findClass own = some m.cls) (hts : ∀ w ∈ lw_good, w.before args s = true) (hK : va_K (gD Γ) gcls (gtys Γ) s) (hP : va_P (gD Γ) gcls (lay Γ g) H) (hw : Cond.fieldLink own index RX9 "saved" "[Z" ∈ lw_good) (hdg : decode cc pc = .ok (.getfield index, 3))
    (kk : W p l e R s m args below meth c H locs cells slots Q (F0 m (pc + 3) ls (.ref (gB Γ + 155) :: rest))) : W p l e R s m args below meth c H locs cells slots Q (F0 m pc ls (.ref (gB Γ + 0) :: rest)) :=
  va_get (D := gD Γ) (ci := 9) (C := RX9) (T := TX9) (N := 10) hx hb hts hin_9 hown hK hP 0 (by rw [lay_get (gN_lt io_9.1), io_9.2]) rfl 6 (by decide) (hts _ hw) (fun _ h => h) rfl hdg kk
theorem gf_9_7 (hx : p.tables.exec = Jvm.exec) (hb : c.code = cc) (hown : s.vm.findClass own = some m.cls) (hts : ∀ w ∈ lw_good, w.before args s = true) (hK : va_K (gD Γ) gcls (gtys Γ) s) (hP : va_P (gD Γ) gcls (lay Γ g) H) (hw : Cond.fieldLink own index RX9 "ways" "LChestLetters$Ways;" ∈ lw_good) (hdg : decode cc pc = .ok (.getfield index, 3))
    (kk : W p l e R s m args below meth c H locs cells slots Q (F0 m (pc + 3) ls (.ref (gB Γ + 156) :: rest))) : W p l e R s m args below meth c H locs cells slots Q (F0 m pc ls (.ref (gB Γ + 0) :: rest)) :=
  va_get (D := gD Γ) (ci := 9) (C := RX9) (T := TX9) (N := 10) hx hb hts hin_9 hown hK hP 0 (by rw [lay_get (gN_lt io_9.1), io_9.2]) rfl 7 (by decide) (hts _ hw) (fun _ h => h) rfl hdg kk
theorem gf_9_8 (hx : p.tables.exec = Jvm.exec) (hb : c.code = cc) (hown : s.vm.findClass own = some m.cls) (hts : ∀ w ∈ lw_good, w.before args s = true) (hK : va_K (gD Γ) gcls (gtys Γ) s) (hP : va_P (gD Γ) gcls (lay Γ g) H) (hw : Cond.fieldLink own index RX9 "scripts" "LChestLetters$Script;" ∈ lw_good) (hdg : decode cc pc = .ok (.getfield index, 3))
    (kk : W p l e R s m args below meth c H locs cells slots Q (F0 m (pc + 3) ls (.ref (gB Γ + 164) :: rest))) : W p l e R s m args below meth c H locs cells slots Q (F0 m pc ls (.ref (gB Γ + 0) :: rest)) :=
  va_get (D := gD Γ) (ci := 9) (C := RX9) (T := TX9) (N := 10) hx hb hts hin_9 hown hK hP 0 (by rw [lay_get (gN_lt io_9.1), io_9.2]) rfl 8 (by decide) (hts _ hw) (fun _ h => h) rfl hdg kk
theorem gf_9_9 (hx : p.tables.exec = Jvm.exec) (hb : c.code = cc) (hown : s.vm.findClass own = some m.cls) (hts : ∀ w ∈ lw_good, w.before args s = true) (hK : va_K (gD Γ) gcls (gtys Γ) s) (hP : va_P (gD Γ) gcls (lay Γ g) H) (hw : Cond.fieldLink own index RX9 "simulation" "LChestLetters$Simulation;" ∈ lw_good) (hdg : decode cc pc = .ok (.getfield index, 3))
    (kk : W p l e R s m args below meth c H locs cells slots Q (F0 m (pc + 3) ls (.ref (gB Γ + 173) :: rest))) : W p l e R s m args below meth c H locs cells slots Q (F0 m pc ls (.ref (gB Γ + 0) :: rest)) :=
  va_get (D := gD Γ) (ci := 9) (C := RX9) (T := TX9) (N := 10) hx hb hts hin_9 hown hK hP 0 (by rw [lay_get (gN_lt io_9.1), io_9.2]) rfl 9 (by decide) (hts _ hw) (fun _ h => h) rfl hdg kk
end GF
theorem grv_0 : gRv 14 RX0 := ⟨io_0.1, 0, (RX0, TX0, 2), rfl, rfl, fun Γ x y => ⟨gf0 Γ x y, by rw [io_0.2]⟩⟩
theorem grv_1 : gRv 24 RX1 := ⟨io_1.1, 1, (RX1, TX1, 3), rfl, rfl, fun Γ x y => ⟨gf1 Γ x y, by rw [io_1.2]⟩⟩
theorem grv_2 : gRv 3 RX2 := ⟨io_2.1, 2, (RX2, TX2, 12), rfl, rfl, fun Γ x y => ⟨gf2 Γ x y, by rw [io_2.2]⟩⟩
theorem grv_3 : gRv 164 RX3 := ⟨io_3.1, 3, (RX3, TX3, 3), rfl, rfl, fun Γ x y => ⟨gf3 Γ x y, by rw [io_3.2]⟩⟩
theorem grv_4 : gRv 173 RX4 := ⟨io_4.1, 4, (RX4, TX4, 2), rfl, rfl, fun Γ x y => ⟨gf4 Γ x y, by rw [io_4.2]⟩⟩
theorem grv_5 {k : Nat} (h : isSt k) : gRv k RX5 := ⟨(isSt_o h).1, 5, (RX5, TX5, 10), rfl, rfl, fun Γ x y => ⟨gf5 Γ k x y, by rw [(isSt_o h).2]⟩⟩
theorem grv_6 : gRv 1 RX6 := ⟨io_6.1, 6, (RX6, TX6, 2), rfl, rfl, fun Γ x y => ⟨gf6 Γ x y, by rw [io_6.2]⟩⟩
theorem grv_7 : gRv 4 RX7 := ⟨io_7.1, 7, (RX7, TX7, 2), rfl, rfl, fun Γ x y => ⟨gf7 Γ x y, by rw [io_7.2]⟩⟩
theorem grv_8 : gRv 156 RX8 := ⟨io_8.1, 8, (RX8, TX8, 8), rfl, rfl, fun Γ x y => ⟨gf8 Γ x y, by rw [io_8.2]⟩⟩
theorem grv_9 : gRv 0 RX9 := ⟨io_9.1, 9, (RX9, TX9, 10), rfl, rfl, fun Γ x y => ⟨gf9 Γ x y, by rw [io_9.2]⟩⟩
