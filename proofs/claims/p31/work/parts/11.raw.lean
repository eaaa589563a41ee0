def gCy (p : Program) (s : State) (m : MethodId) (args : Array Value) (meth : Method) (c : Code) (Γ : gE) (own : String) (cc : ByteArray) (nL : Nat) (ret : Option FieldType) : Prop :=
  p.tables.exec = Jvm.exec ∧ c.code = cc ∧ c.maxLocals = nL ∧ meth.sig.returnType = ret ∧ s.vm.findClass own = some m.cls ∧ (∀ w ∈ lw_good, w.before args s = true) ∧ va_K (gD Γ) gcls (gtys Γ) s ∧ meth.locks = false ∧ gXA (gA0 Γ) Γ s s.heap
/-! MY ROWS for constructors: a world in the making: M cells in a row from gB Γ on, with any contents o; the heap ends behind them. -/
def rl (Γ : gE) (M : Nat) (o : Nat → va_E) : va_W := (List.range M).map (fun k => (gB Γ + k, o k))
def rP (Γ : gE) (M : Nat) (o : Nat → va_E) (H : Heap) : Prop := H.size = gB Γ + M ∧ va_P (gD Γ) gcls (rl Γ M o) H
theorem rl_len {Γ : gE} {M : Nat} {o : Nat → va_E} : (rl Γ M o).length = M := by unfold rl; rw [List.length_map, List.length_range]
theorem rl_get {Γ : gE} {M : Nat} {o : Nat → va_E} {k : Nat} (h : k < M) : (rl Γ M o)[k]? = some (gB Γ + k, o k) := by
  unfold rl
  rw [List.getElem?_map, List.getElem?_range h]
  rfl
theorem rl_at {Γ : gE} {M : Nat} {o : Nat → va_E} {k : Nat} {q : Nat × va_E} (h : (rl Γ M o)[k]? = some q) : k < M ∧ q = (gB Γ + k, o k) := by
  have hk : k < M := by
    have := (List.getElem?_eq_some_iff.mp h).1
    rwa [rl_len] at this
  rw [rl_get hk] at h
  exact ⟨hk, (Option.some.inj h).symm⟩
/-- the same cells but one, or one more -/
theorem rP_of {Γ : gE} {M M' : Nat} {o o1 : Nat → va_E} {H H1 : Heap} (h : rP Γ M o H) (k : Nat) (hs : H1.size = gB Γ + M') (hM : M' ≤ M + 1) (hk : M' = M + 1 → k = M) (hz : k < M' → va_at (gD Γ) gcls (gB Γ + k, o1 k) H1) (ho : ∀ j, j ≠ k → o1 j = o j) (hq : ∀ j, j ≠ k → j < M → H1[gB Γ + j]? = H[gB Γ + j]?) : rP Γ M' o1 H1 := by
  refine ⟨hs, fun i q hi => ?_⟩
  obtain ⟨hi1, rfl⟩ := rl_at hi
  by_cases e : i = k
  · subst e
    exact hz hi1
  · have hiM : i < M := by
      rcases Nat.lt_or_ge i M with h1 | h1
      · exact h1
      · have : M' = M + 1 := by omega
        have := hk this
        omega
    rw [ho i e]
    exact (h.2 i _ (rl_get hiM)).kept (hq i e hiM)
section RR
variable {p : Program} {l : Launch} {e : Env} {R : Room} {s : State} {m : MethodId} {args : Array Value} {below : List Frame} {meth : Method} {c : Code} {H : Heap} {locs : List Loc} {cells slots : Nat} {Q : State → Prop}
variable {cc : ByteArray} {pc : Nat} {ls : Array Slot} {rest : List Value} {Γ : gE} {M : Nat} {o : Nat → va_E} {own : String} {index : Nat}
theorem r_new (hx : p.tables.exec = Jvm.exec) (hb : c.code = cc) (hts : ∀ w ∈ lw_good, w.before args s = true) {C : String} {T : u_T} {N ci : Nat} (hin : ∀ w ∈ u_ws C T N, w ∈ lw_good) (ty : Nat → FieldType) (hty : ∀ k, k < N → parseFieldDescriptor (T k).2.2.1 = some (ty k)) (hown : s.vm.findClass own = some m.cls) (hcl : Cond.classLink own index C ∈ lw_good) (hinst : Cond.instantiable C N ∈ lw_good) (hini : Cond.initialized C ∈ lw_good)
    (hK : va_K (gD Γ) gcls (gtys Γ) s) (hR : rP Γ M o H) (hS : va_S (gA0 Γ) s.heap H locs) (hc : gcls[ci]? = some (C, T, N)) {fs : List Value} (hfs : ∀ j, j < N → defaultValue (ty j) = vp_V fs j) (hcells : cells + 1 ≤ R.cells) (hslots : slots + N ≤ R.slots) (hdg : decode cc pc = .ok (.new index, 3))
    (kk : ∀ (o1 : Nat → va_E) (H1 : Heap), o1 M = .inr (ci, fs) → (∀ j, j ≠ M → o1 j = o j) → rP Γ (M + 1) o1 H1 → va_S (gA0 Γ) s.heap H1 locs →
      W p l e R s m args below meth c H1 locs (cells + 1) (slots + N) Q (F0 m (pc + 3) ls (.ref (gB Γ + M) :: rest))) : W p l e R s m args below meth c H locs cells slots Q (F0 m pc ls rest) := by
  have hKn := hK.1 ci _ hc
  refine W.newcK hx hb hown (hts _ hcl) (hts _ hinst) (hts _ hini) rfl hdg hcells hslots hKn.2.1 hR.1 fun H1 kC hkC e1 z1 o1 => ?_
  refine kk (va_up o M (.inr (ci, fs))) H1 (by unfold va_up; simp) (fun j hj => by unfold va_up; simp [hj]) (rP_of hR M (by omega) (by omega) (fun _ => rfl) (fun _ => ?_) (fun j hj => by unfold va_up; simp [hj]) (fun j _ hj => o1 _ (by omega))) ⟨by have := hS.1; have := hR.1; omega, fun x h1 h2 => (o1 x (by have := hS.1; have := hR.1; omega)).trans (hS.2.1 x h1 h2), hS.2.2⟩
  have e9 : va_up o M (.inr (ci, fs)) M = .inr (ci, fs) := by unfold va_up; simp
  rw [e9]
  exact ⟨_, hc, (u_born ty hts hin hKn hkC e1 hty).to hfs⟩
theorem r_newa (hx : p.tables.exec = Jvm.exec) (hb : c.code = cc) (hts : ∀ w ∈ lw_good, w.before args s = true) {atype : ArrayType} (harr : Cond.arrayClass (newarray.typeOf atype) ∈ lw_good) (t : Nat) (ht : (gtys Γ)[t]? = some (Γ.2.2.1 t, newarray.typeOf atype)) (hK : va_K (gD Γ) gcls (gtys Γ) s) (hR : rP Γ M o H) (hS : va_S (gA0 Γ) s.heap H locs)
    {n : Int32} {N : Nat} {a0 : vp_A} (ha : ∀ cA : ClassId, vp_cell cA a0 = arrV cA N (fun _ => defaultValue (newarray.typeOf atype))) (hn : ¬ n < 0) (hN : n.toNatClampNeg = N) (hbytes : N * componentBytes (newarray.typeOf atype) ≤ 536870912) (hcells : cells + 1 ≤ R.cells) (hslots : slots + N ≤ R.slots) (hdg : decode cc pc = .ok (.newarray atype, 2))
    (kk : ∀ (o1 : Nat → va_E) (H1 : Heap), o1 M = .inl (Γ.2.2.1 t, a0) → (∀ j, j ≠ M → o1 j = o j) → rP Γ (M + 1) o1 H1 → va_S (gA0 Γ) s.heap H1 locs →
      W p l e R s m args below meth c H1 locs (cells + 1) (slots + N) Q (F0 m (pc + 2) ls (.ref (gB Γ + M) :: rest))) : W p l e R s m args below meth c H locs cells slots Q (F0 m pc ls (.int n :: rest)) := by
  refine va_newaK hx hb (hts _ harr) rfl hdg rfl hn hN hbytes hcells hslots hR.1 fun H1 cA e1 z1 o1 hAr hNm => ?_
  have hcA : cA = Γ.2.2.1 t := by
    have h2 := (hK.2 t _ ht).2
    have h3 : s.vm.findClass ("[" ++ (newarray.typeOf atype).toString) = some (Γ.2.2.1 t) := by cases atype <;> exact h2
    exact Option.some.inj (hNm.symm.trans h3)
  subst hcA
  refine kk (va_up o M (.inl (Γ.2.2.1 t, a0))) H1 (by unfold va_up; simp) (fun j hj => by unfold va_up; simp [hj]) (rP_of hR M (by omega) (by omega) (fun _ => rfl) (fun _ => ?_) (fun j hj => by unfold va_up; simp [hj]) (fun j _ hj => o1 _ (by omega))) ⟨by have := hS.1; have := hR.1; omega, fun x h1 h2 => (o1 x (by have := hS.1; have := hR.1; omega)).trans (hS.2.1 x h1 h2), hS.2.2⟩
  have e9 : va_up o M (.inl (Γ.2.2.1 t, a0)) M = .inl (Γ.2.2.1 t, a0) := by unfold va_up; simp
  rw [e9]
  show H1[gB Γ + M]? = some (vp_cell _ _)
  rw [ha]
  exact e1
theorem r_newq (hx : p.tables.exec = Jvm.exec) (hb : c.code = cc) (hts : ∀ w ∈ lw_good, w.before args s = true) (hown : s.vm.findClass own = some m.cls) (hcl : Cond.classLink own index RX5 ∈ lw_good) (hover : va_AO RX5 s) (hK : va_K (gD Γ) gcls (gtys Γ) s) (hR : rP Γ M o H) (hS : va_S (gA0 Γ) s.heap H locs)
    {n : Int32} {N : Nat} (hn : ¬ n < 0) (hN : n.toNatClampNeg = N) (hbytes : N * 4 ≤ 536870912) (hcells : cells + 1 ≤ R.cells) (hslots : slots + N ≤ R.slots) (hdg : decode cc pc = .ok (.anewarray index, 3))
    (kk : ∀ (o1 : Nat → va_E) (H1 : Heap), o1 M = .inl (Γ.2.2.1 4, N, .inr (.inr (.inr (.inr (fun _ => none))))) → (∀ j, j ≠ M → o1 j = o j) → rP Γ (M + 1) o1 H1 → va_S (gA0 Γ) s.heap H1 locs →
      W p l e R s m args below meth c H1 locs (cells + 1) (slots + N) Q (F0 m (pc + 3) ls (.ref (gB Γ + M) :: rest))) : W p l e R s m args below meth c H locs cells slots Q (F0 m pc ls (.int n :: rest)) := by
  subst hN
  refine W.anew hx hb hown (hts _ hcl) (va_AO.use hover) rfl hdg rfl hn hbytes hcells hslots fun cA kA comp f1 f2 f3 f4 => ?_
  have hcA : cA = Γ.2.2.1 4 := by
    obtain ⟨_, _, _, _, _, h3⟩ := (hK.2 4 (Γ.2.2.1 4, .object RX5) rfl).2
    exact Option.some.inj (f1.symm.trans h3)
  subst hcA
  rw [hR.1]
  generalize hH1 : H.push ({ cls := Γ.2.2.1 4, slots := Array.replicate n.toNatClampNeg .null, vm := .none } : Cell) = H1
  have z1 : H1.size = H.size + 1 := by rw [← hH1, Array.size_push]
  have e1 : H1[H.size]? = some (arrV (Γ.2.2.1 4) n.toNatClampNeg (fun _ => .null)) := by rw [← hH1, Array.getElem?_push_size, ← arrV_new]
  have o1 : ∀ q : Nat, q < H.size → H1[q]? = H[q]? := fun q hq => by rw [← hH1, Array.getElem?_push, if_neg (Nat.ne_of_lt hq)]
  have hz := hR.1
  refine kk (va_up o M (.inl (Γ.2.2.1 4, n.toNatClampNeg, .inr (.inr (.inr (.inr (fun _ => none))))))) H1 (by unfold va_up; simp) (fun j hj => by unfold va_up; simp [hj]) (rP_of hR M (by omega) (by omega) (fun _ => rfl) (fun _ => ?_) (fun j hj => by unfold va_up; simp [hj]) (fun j _ hj => o1 _ (by omega))) ⟨by have := hS.1; omega, fun x h1 h2 => (o1 x (by have := hS.1; omega)).trans (hS.2.1 x h1 h2), hS.2.2⟩
  have e9 : va_up o M (.inl (Γ.2.2.1 4, n.toNatClampNeg, .inr (.inr (.inr (.inr (fun _ => none)))))) M = (.inl (Γ.2.2.1 4, n.toNatClampNeg, .inr (.inr (.inr (.inr (fun _ => none))))) : va_E) := by unfold va_up; simp
  rw [e9]
  show H1[gB Γ + M]? = some (vp_cell _ _)
  rw [vp_cell_q, ← hz]
  exact e1
theorem r_get (hx : p.tables.exec = Jvm.exec) (hb : c.code = cc) (hts : ∀ w ∈ lw_good, w.before args s = true) {C : String} {T : u_T} {N ci k : Nat} (hin : ∀ w ∈ u_ws C T N, w ∈ lw_good) (hown : s.vm.findClass own = some m.cls) (hK : va_K (gD Γ) gcls (gtys Γ) s) (hR : rP Γ M o H) {fs : List Value} (ho : o k = .inr (ci, fs)) (hk : k < M) (hc : gcls[ci]? = some (C, T, N)) (j : Nat) (hj : j < N) (hcls : (T j).1 = C) (hw : Cond.fieldLink own index C (T j).2.1 (T j).2.2.1 ∈ lw_good) {v : Value} (hv : fs[j]? = some v) (hdg : decode cc pc = .ok (.getfield index, 3))
    (kk : W p l e R s m args below meth c H locs cells slots Q (F0 m (pc + 3) ls (v :: rest))) : W p l e R s m args below meth c H locs cells slots Q (F0 m pc ls (.ref (gB Γ + k) :: rest)) :=
  va_get (D := gD Γ) (ci := ci) (C := C) (T := T) (N := N) hx hb hts hin hown hK hR.2 k (by rw [rl_get hk, ho]) hc j hj (hts _ hw) (fun _ h => by rw [hcls] at h; exact h) hv hdg kk
/-- a field of the object in the making (final, or an int) -/
theorem r_put (hx : p.tables.exec = Jvm.exec) (hb : c.code = cc) (hts : ∀ w ∈ lw_good, w.before args s = true) {C : String} {T : u_T} {N ci k : Nat} (hin : ∀ w ∈ u_ws C T N, w ∈ lw_good) (ty0 : Nat → FieldType) (hty : ∀ k, k < N → parseFieldDescriptor (T k).2.2.1 = some (ty0 k)) (hnm : ∀ a, a < N → ∀ b, b < N → a ≠ b → (T a).2.1 ≠ (T b).2.1) (hown : s.vm.findClass own = some m.cls) (hin2 : meth.name = "<init>") (hK : va_K (gD Γ) gcls (gtys Γ) s) (hR : rP Γ M o H) (hS0 : va_S (gA0 Γ) s.heap H locs) {fs : List Value} (ho : o k = .inr (ci, fs)) (hk : k < M) (hc : gcls[ci]? = some (C, T, N)) (j : Nat) (hj : j < N) (hcls : (T j).1 = C) (hown9 : own = C) (hw : Cond.fieldLink own index C (T j).2.1 (T j).2.2.1 ∈ lw_good) {ty : FieldType} {v : Value} (hd : parseFieldDescriptor (T j).2.2.1 = some ty) (hn : narrow ty v = v) (hfit : fits ty v = true) (hl : j < fs.length) (hdg : decode cc pc = .ok (.putfield index, 3))
    (kk : ∀ (o1 : Nat → va_E) (H1 : Heap) (locs1 : List Loc), o1 k = .inr (ci, fs.set j v) → (∀ i, i ≠ k → o1 i = o i) → rP Γ M o1 H1 → va_S (gA0 Γ) s.heap H1 locs1 → W p l e R s m args below meth c H1 locs1 cells slots Q (F0 m (pc + 3) ls rest)) : W p l e R s m args below meth c H locs cells slots Q (F0 m pc ls (v :: .ref (gB Γ + k) :: rest)) := by
  have hap := va_apart (own := own) hts hin ty0 hty hnm hK hc
  have he := hR.2 k _ (rl_get hk)
  rw [ho] at he
  obtain ⟨r, h1, cell, q1, q2, q3, q4⟩ := he
  have hr : r = (C, T, N) := Option.some.inj (h1.symm.trans hc)
  subst hr
  obtain ⟨hS, hfc, kC, hkC, hkind⟩ := hK.1 ci _ hc
  obtain ⟨cf, kf, fi, f, hi, hsl⟩ := hS j hj
  have hlay := hts _ (hin _ (u_in_lay hj))
  unfold u_lay at hlay
  have hst := (u_facts hfc hkC (u_lays hts hin hj) hi).1
  have hi9 : s.fieldFound? C (T j).2.1 (T j).2.2.1 = some (cf, kf, fi, f) := by have h9 := hi; rw [hcls] at h9; exact h9
  have done : ∀ H' : Heap, H'[gB Γ + k]? = some (cell.setSlot f.slot v) → H'.size = H.size → (∀ q, q ≠ gB Γ + k → H'[q]? = H[q]?) → W p l e R s m args below meth c H' (locs ++ [⟨gB Γ + k, f.slot⟩]) cells slots Q (F0 m (pc + 3) ls rest) := by
    intro H' e1 e2 e3
    rw [hsl] at e1 ⊢
    refine kk (va_up o k (.inr (ci, fs.set j v))) H' _ (by unfold va_up; simp) (fun i hi => by unfold va_up; simp [hi]) (rP_of hR k (e2.trans hR.1) (by omega) (fun h => by omega) (fun _ => ?_) (fun i hi => by unfold va_up; simp [hi]) (fun i hi _ => e3 _ (by omega))) (hS0.put e2 e3 (by unfold gA0; omega))
    have e9 : va_up o k (.inr (ci, fs.set j v)) k = .inr (ci, fs.set j v) := by unfold va_up; simp
    rw [e9]
    exact ⟨_, hc, t_OB.to (V := updV (vp_V fs) j v) ⟨_, e1, q2, q3, t_set q4 hap hj v⟩ (fun i _ => vp_updV_set hl v i)⟩
  by_cases hfin : (T j).2.2.2 = true
  · rw [if_pos hfin] at hlay
    have hcf : m.cls = cf := by
      obtain ⟨_, _, c', _, _, _, -, -, hf', -, -, -, hown2, -⟩ := Cond.laysFinal_spec hlay
      have e1 : c' = cf := by have := hi.symm.trans hf'; simp at this; exact this.1.symm
      rw [hcls, ← hown9] at hown2
      rw [← e1]; exact Option.some.inj (hown.symm.trans hown2)
    have h6 := u_fits hfc hkC hkind (Or.inr hlay) hi hd hn hfit
    exact W.putFinK hx hb hown (hts _ hw) hi9 hst hcf hin2 (by rw [q2]; exact h6) q1 q3 (by rw [hsl]; exact k2_hasslot (q4 j hj)) rfl rfl hdg done
  · rw [if_neg hfin] at hlay
    have h6 := u_store hfc hkC hkind hlay hi hd hn hfit
    exact W.putK hx hb (f := f) ⟨hown, hts _ hw, ⟨_, _, _, hi9⟩, hst⟩ (by rw [q2]; exact h6) q1 q3 (by rw [hsl]; exact k2_hasslot (q4 j hj)) rfl rfl hdg done
theorem r_iast (hx : p.tables.exec = Jvm.exec) (hb : c.code = cc) (hK : va_K (gD Γ) gcls (gtys Γ) s) (hR : rP Γ M o H) (hS : va_S (gA0 Γ) s.heap H locs) {k n : Nat} {f : Nat → Int32} (ho : o k = .inl (Γ.2.2.1 0, n, .inl f)) (hk : k < M) {i x : Int32} (hin : vp_in i n) (hdg : decode cc pc = .ok (.iastore, 1))
    (kk : ∀ (o1 : Nat → va_E) (H1 : Heap) (locs1 : List Loc), o1 k = .inl (Γ.2.2.1 0, n, .inl (upd f i.toNatClampNeg x)) → (∀ j, j ≠ k → o1 j = o j) → rP Γ M o1 H1 → va_S (gA0 Γ) s.heap H1 locs1 → W p l e R s m args below meth c H1 locs1 cells slots Q (F0 m (pc + 1) ls rest)) : W p l e R s m args below meth c H locs cells slots Q (F0 m pc ls (.int x :: .int i :: .ref (gB Γ + k) :: rest)) := by
  have hlt : i.toNatClampNeg < n := Nat.not_le.mp fun q => hin (Or.inr q)
  have he := hR.2 k _ (rl_get hk)
  rw [ho] at he
  have he : H[gB Γ + k]? = some (vp_cell (Γ.2.2.1 0) (n, .inl f)) := he
  refine W.iast hx hb he ((hK.2 0 (Γ.2.2.1 0, .int) rfl).1 n (fun j => .int (f j))) (fun q => by cases q) (by show ¬ (i < 0 ∨ (arrV _ _ _).slots.size ≤ _); rw [arrV_size]; exact hin) rfl rfl hdg fun H1 e1 e2 e3 => ?_
  refine kk (va_up o k (.inl (Γ.2.2.1 0, n, .inl (upd f i.toNatClampNeg x)))) H1 _ (by unfold va_up; simp) (fun j hj => by unfold va_up; simp [hj]) (rP_of hR k (e2.trans hR.1) (by omega) (fun h => by omega) (fun _ => ?_) (fun j hj => by unfold va_up; simp [hj]) (fun j hj _ => e3 (gB Γ + j) (by show gB Γ + j ≠ gB Γ + k; omega))) (hS.put e2 e3 (by unfold gA0; omega))
  have e9 : va_up o k (.inl (Γ.2.2.1 0, n, .inl (upd f i.toNatClampNeg x))) k = (.inl (Γ.2.2.1 0, n, .inl (upd f i.toNatClampNeg x)) : va_E) := by unfold va_up; simp
  rw [e9]
  show H1[gB Γ + k]? = some (vp_cell _ _)
  rw [e1]
  rw [vp_cell_i, vp_cell_i, arrV_store]
  congr 2
  funext q
  by_cases hq : q = i.toNatClampNeg
  · subst hq
    simp [updV, upd]
  · simp [updV, upd, hq]
theorem r_qast (hx : p.tables.exec = Jvm.exec) (hb : c.code = cc) (hK : va_K (gD Γ) gcls (gtys Γ) s) (hR : rP Γ M o H) (hS : va_S (gA0 Γ) s.heap H locs) {k n v : Nat} {f : Nat → Option Nat} {vs : List Value} (ho : o k = .inl (Γ.2.2.1 4, n, .inr (.inr (.inr (.inr f))))) (hk : k < M) (hv : o v = .inr (5, vs)) (hvM : v < M) {i : Int32} (hin : vp_in i n) (hdg : decode cc pc = .ok (.aastore, 1))
    (kk : ∀ (o1 : Nat → va_E) (H1 : Heap) (locs1 : List Loc), o1 k = .inl (Γ.2.2.1 4, n, .inr (.inr (.inr (.inr (va_up f i.toNatClampNeg (some (gB Γ + v))))))) → (∀ j, j ≠ k → o1 j = o j) → rP Γ M o1 H1 → va_S (gA0 Γ) s.heap H1 locs1 → W p l e R s m args below meth c H1 locs1 cells slots Q (F0 m (pc + 1) ls rest)) : W p l e R s m args below meth c H locs cells slots Q (F0 m pc ls (.ref (gB Γ + v) :: .int i :: .ref (gB Γ + k) :: rest)) := by
  have hlt : i.toNatClampNeg < n := Nat.not_le.mp fun q => hin (Or.inr q)
  have h0 : ¬ i < 0 := fun q => hin (Or.inl q)
  have hev := hR.2 v _ (rl_get hvM)
  rw [hv] at hev
  obtain ⟨r', hr', cellV, g1, g2, g3, -⟩ := hev
  have hcls := (hK.1 5 _ hr').2
  obtain ⟨kA, comp, k1, k2, k3, -⟩ := (hK.2 4 (Γ.2.2.1 4, .object RX5) rfl).2
  have er : r'.1 = RX5 := by have := hr'; cases Option.some.inj this; rfl
  have hcomp : comp = (gD Γ).1 5 := Option.some.inj (k3.symm.trans (er ▸ hcls.1))
  subst hcomp
  obtain ⟨kC, hkC, -⟩ := hcls.2
  have he := hR.2 k _ (rl_get hk)
  rw [ho] at he
  have he : H[gB Γ + k]? = some (vp_cell (Γ.2.2.1 4) (n, .inr (.inr (.inr (.inr f))))) := he
  refine W.aast hx hb he (fun q h => by cases h) (fun h => by cases h) k1 k2 rfl hkC ⟨h0, by show _ < (arrV _ _ _).slots.size; rw [arrV_size]; exact hlt⟩ g1 (fun q h => by rw [g3] at h; cases h) (by rw [g2]; exact hkC) (by rw [g2]; exact va_assign hcls) rfl rfl hdg fun H1 e1 e2 e3 => ?_
  refine kk (va_up o k (.inl (Γ.2.2.1 4, n, .inr (.inr (.inr (.inr (va_up f i.toNatClampNeg (some (gB Γ + v))))))))) H1 _ (by unfold va_up; simp) (fun j hj => by unfold va_up; simp [hj]) (rP_of hR k (e2.trans hR.1) (by omega) (fun h => by omega) (fun _ => ?_) (fun j hj => by unfold va_up; simp [hj]) (fun j hj _ => e3 (gB Γ + j) (by show gB Γ + j ≠ gB Γ + k; omega))) (hS.put e2 e3 (by unfold gA0; omega))
  have e9 : va_up o k (.inl (Γ.2.2.1 4, n, .inr (.inr (.inr (.inr (va_up f i.toNatClampNeg (some (gB Γ + v)))))))) k = (.inl (Γ.2.2.1 4, n, .inr (.inr (.inr (.inr (va_up f i.toNatClampNeg (some (gB Γ + v))))))) : va_E) := by unfold va_up; simp
  rw [e9]
  show H1[gB Γ + k]? = some (vp_cell _ _)
  rw [e1]
  rw [vp_cell_q, vp_cell_q, arrV_store]
  congr 2
  funext q
  by_cases hq : q = i.toNatClampNeg
  · subst hq
    simp [updV, va_up, va_rf]
  · simp [updV, va_up, hq]
end RR
/-- a constructor's contract over a world in the making -/
def gK (l : Launch) (y : MethodName) (cc : ByteArray) (maxL f lo mc ms : Nat) (Γ : gE) (av : List Value) (M : Nat) (o : Nat → va_E) (M' : Nat) (post : (Nat → va_E) → Prop) : Prop := Met l y (Cond.code y cc maxL none :: lw_good) (gRx f lo mc ms) (va_Pc av (fun U => rP Γ M o U.heap ∧ va_K (gD Γ) gcls (gtys Γ) U ∧ gXA (gA0 Γ) Γ U U.heap ∧ va_AO RX5 U)) (va_Qv post (fun o1 t => rP Γ M' o1 t.heap) (gA0 Γ)) mc ms (gA0 Γ)
theorem rStart {l : Launch} {y : MethodName} {cc : ByteArray} {maxL f lo mc ms : Nat} {Γ : gE} {av : List Value} {M M' : Nat} {o : Nat → va_E} {post : (Nat → va_E) → Prop} {own : String}
    (hy : plainName y.cls = true) (ho : y.cls = own) (hnm : y.name = "<init>") (hlen : (lg_sl av).length ≤ maxL)
    (body : ∀ {p : Program} {e : Env} {s : State} {m : MethodId} {below : List Frame} {meth : Method} {c : Code}, gCy p s m av.toArray meth c Γ own cc maxL none → meth.name = "<init>" → va_AO RX5 s → ∀ ls : Array Slot, lv_has ls maxL (lv_args 0 av) → rP Γ M o s.heap →
      W p l e (gRx f lo mc ms) s m av.toArray below meth c s.heap [] 0 0 (MQ below (va_Qv post (fun o1 t => rP Γ M' o1 t.heap) (gA0 Γ)) av.toArray s mc ms (gA0 Γ)) (F0 m 0 ls [])) : gK l y cc maxL f lo mc ms Γ av M o M' post := by
  refine Met.ofW (cc := cc) (maxL := maxL) (ret := none) hy rfl ?_
  intro p e s m args below meth c s₁ B hml hv
  obtain ⟨rfl, hR, hK, hX, hA⟩ := hv
  have hts := atoms_spec (ws := Cond.code y cc maxL none :: lw_good) B.pre
  have hown : s.vm.findClass own = some m.cls := ho ▸ findClass_of_methodNamed B.named
  have hl := lv_entry av (n := maxL) hlen
  rw [lg_entry_eq]
  exact body ⟨B.exec, B.bytes, hml, B.returns, hown, fun w hw => hts w (List.mem_cons_of_mem _ hw), hK, B.notSynchronized, hX⟩ ((name_of_methodNamed B.named B.method).1.trans hnm) hA _ hl hR
section RC
variable {p : Program} {l : Launch} {e : Env} {R : Room} {s : State} {m : MethodId} {args : Array Value} {below : List Frame} {meth : Method} {c : Code} {H : Heap} {locs : List Loc} {cells slots : Nat} {Q : State → Prop}
variable {cc : ByteArray} {pc : Nat} {ls : Array Slot} {rest : List Value} {Γ : gE} {M : Nat} {o : Nat → va_E} {own : String} {index : Nat}
theorem r_vret {post : (Nat → va_E) → Prop} {mc ms : Nat} (hx : p.tables.exec = Jvm.exec) (hb : c.code = cc) (hr : meth.sig.returnType = none) (hlk : meth.locks = false) (hR : rP Γ M o H) (hS : va_S (gA0 Γ) s.heap H locs) (hc : cells ≤ mc) (hs : slots ≤ ms) (hp : post o) (hdg : decode cc pc = .ok (.return_, 1)) : W p l e R s m args below meth c H locs cells slots (MQ below (va_Qv post (fun o1 t => rP Γ M o1 t.heap) (gA0 Γ)) args s mc ms (gA0 Γ)) (F0 m pc ls []) :=
  W.widen hc hs (W.vret hx hb hr (fun t ht hW => ⟨⟨o, rfl, hp, by show rP _ _ _ t.heap; rw [ht]; exact hR⟩, hS.F ht⟩) hS.2.2 hdg hlk)
theorem r_obj {nL : Nat} {ret : Option FieldType} (C0 : gCy p s m args meth c Γ own cc nL ret) (hlink : Cond.methodLink own index Lib.objectInit ∈ lw_good) (hinst : Cond.instanceMethod Lib.objectInit ∈ lw_good) (hcode : Cond.code Lib.objectInit ⟨#[0xb1]⟩ 1 none ∈ lw_good) (hlz : ls.size = nL) {a : Nat} (hdg : decode cc pc = .ok (.invokespecial index, 3)) (hf : 1 ≤ R.frames) (hlo : 2 * (F0 m pc ls (.ref a :: rest)).monitorRoom + (rest.map fun v => v.category).sum + 12 ≤ R.locals)
    (kk : W p l e R s m args below meth c H locs cells slots Q (F0 m (pc + 3) ls rest)) : W p l e R s m args below meth c H locs cells slots Q (F0 m pc ls (.ref a :: rest)) := by
  obtain ⟨hx, hb, hml, hr, hown, hts, hK, hlk, hX⟩ := C0
  exact W.objInit hx hb hown (hts _ hlink) (hts _ hinst) (hts _ hcode) rfl (hlz.trans hml.symm) rfl hdg hf hlo kk
/-- a call of a constructor -/
theorem r_call {nL : Nat} {ret : Option FieldType} (C0 : gCy p s m args meth c Γ own cc nL ret) (hA : va_AO RX5 s) {y2 : MethodName} {b2 : ByteArray} {L2 n2 f2 lo2 mc2 ms2 M' : Nat} {post : (Nat → va_E) → Prop} (hcal : gCal y2 b2 L2 none n2) (hnm : y2.name = "<init>") (hi : Cond.instanceMethod y2 ∈ lw_good) (hw : Cond.methodLink own index y2 ∈ lw_good) (hR9 : f2 + 1 ≤ R.frames ∧ 8 + (L2 + 11) + lo2 ≤ R.locals) (hcs : cells + mc2 ≤ R.cells ∧ slots + ms2 ≤ R.slots)
    {a : Nat} (As : List Value) (hn : As.length = n2) (hrm : (rest.map fun v => v.category).sum ≤ 8) (hR : rP Γ M o H) (hS : va_S (gA0 Γ) s.heap H locs) (hlz : ls.size = nL) (hdg : decode cc pc = .ok (.invokespecial index, 3)) (hM : gK l y2 b2 L2 f2 lo2 mc2 ms2 Γ (.ref a :: As) M o M' post)
    (kk : ∀ (o1 : Nat → va_E) (H1 : Heap) (locs1 : List Loc), post o1 → rP Γ M' o1 H1 → va_S (gA0 Γ) s.heap H1 locs1 → W p l e R s m args below meth c H1 locs1 (cells + mc2) (slots + ms2) Q (F0 m (pc + 3) ls rest)) {st0 : List Value} (hst : st0 = As.reverse ++ .ref a :: rest) : W p l e R s m args below meth c H locs cells slots Q (F0 m pc ls st0) := by
  obtain ⟨hx, hb, hml, hr, hown, hts, hK, hlk, hX⟩ := C0
  subst hst
  refine va_callv (va_runI (As := As) (rest := rest) ⟨hx, hb, hml, hown, hts⟩ hM ⟨callB_of (rm := gRx f2 lo2 mc2 ms2) n2 hts (lw_goodIn hcal.1 (fun _ h => h)) rfl rfl rfl (hts _ hcal.2.1) (hts _ hw) hcal.2.2 hR9, hnm, hts _ hi⟩ ⟨fun a U f mk q => ⟨q.1, q.2.1, va_K.moved (u := U) (U := U.calling f mk a) (Vm.Alike.refl U.vm) q.2.2.1, q.2.2.2.1.calling, va_AO.moved (u := U) (U := U.calling f mk a) (Vm.Alike.refl U.vm) q.2.2.2.2⟩, fun U hU hW => ⟨rfl, by rw [hU]; exact hR, va_K.moved hW.alike hK, (hX.kept (H1 := U.heap) (by rw [hU]; exact hS.2.1)).warm hW, va_AO.moved hW.alike hA⟩⟩ rfl hn hlz rfl (lv_room hrm) hdg hcs) hS (fun q _ h => h) (fun q h => h) (fun o1 t H1 locs1 ht hvm hp hB hz1 hk1 hS1 => ?_)
  rw [← ht] at hS1 ⊢
  exact kk o1 t.heap locs1 hp hB hS1
theorem r_callN {nL : Nat} {ret : Option FieldType} {host : String} (C0 : gCy p s m args meth c Γ own cc nL ret) (hA : va_AO RX5 s) {y2 : MethodName} {b2 : ByteArray} {L2 n2 f2 lo2 mc2 ms2 M' : Nat} {post : (Nat → va_E) → Prop} (hcal : gCal y2 b2 L2 none n2) (hnm : y2.name = "<init>") (hi : Cond.instanceMethod y2 ∈ lw_good) (hw : (own, index, y2, host) ∈ gNsts) (hR9 : f2 + 1 ≤ R.frames ∧ 8 + (L2 + 11) + lo2 ≤ R.locals) (hcs : cells + mc2 ≤ R.cells ∧ slots + ms2 ≤ R.slots)
    {a : Nat} (As : List Value) (hn : As.length = n2) (hrm : (rest.map fun v => v.category).sum ≤ 8) (hR : rP Γ M o H) (hS : va_S (gA0 Γ) s.heap H locs) (hlz : ls.size = nL) (hdg : decode cc pc = .ok (.invokespecial index, 3)) (hM : gK l y2 b2 L2 f2 lo2 mc2 ms2 Γ (.ref a :: As) M o M' post)
    (kk : ∀ (o1 : Nat → va_E) (H1 : Heap) (locs1 : List Loc), post o1 → rP Γ M' o1 H1 → va_S (gA0 Γ) s.heap H1 locs1 → W p l e R s m args below meth c H1 locs1 (cells + mc2) (slots + ms2) Q (F0 m (pc + 3) ls rest)) {st0 : List Value} (hst : st0 = As.reverse ++ .ref a :: rest) : W p l e R s m args below meth c H locs cells slots Q (F0 m pc ls st0) := by
  obtain ⟨hx, hb, hml, hr, hown, hts, hK, hlk, hX⟩ := C0
  subst hst
  refine va_callv (va_runIN (As := As) (rest := rest) ⟨hx, hb, hml, hown, hts⟩ hM ⟨va_cnB (rm := gRx f2 lo2 mc2 ms2) n2 hts (lw_goodIn hcal.1 (fun _ h => h)) rfl rfl rfl (hX.2.2.2.2.2.1 _ hw) (hts _ hcal.2.1) hcal.2.2 hR9, hnm, hts _ hi⟩ ⟨fun a U f mk q => ⟨q.1, q.2.1, va_K.moved (u := U) (U := U.calling f mk a) (Vm.Alike.refl U.vm) q.2.2.1, q.2.2.2.1.calling, va_AO.moved (u := U) (U := U.calling f mk a) (Vm.Alike.refl U.vm) q.2.2.2.2⟩, fun U hU hW => ⟨rfl, by rw [hU]; exact hR, va_K.moved hW.alike hK, (hX.kept (H1 := U.heap) (by rw [hU]; exact hS.2.1)).warm hW, va_AO.moved hW.alike hA⟩⟩ rfl hn hlz rfl (lv_room hrm) hdg hcs) hS (fun q _ h => h) (fun q h => h) (fun o1 t H1 locs1 ht hvm hp hB hz1 hk1 hS1 => ?_)
  rw [← ht] at hS1 ⊢
  exact kk o1 t.heap locs1 hp hB hS1
end RC
