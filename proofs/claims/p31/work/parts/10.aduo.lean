/-! MY ROWS for a method that calls on two objects: what is free for it is A; a call on one object leaves the other's world. -/
def gCa (A : Nat → Prop) (p : Program) (s : State) (m : MethodId) (args : Array Value) (meth : Method) (c : Code) (Γ : gE) (own : String) (cc : ByteArray) (nL : Nat) (ret : Option FieldType) : Prop :=
  p.tables.exec = Jvm.exec ∧ c.code = cc ∧ c.maxLocals = nL ∧ meth.sig.returnType = ret ∧ s.vm.findClass own = some m.cls ∧ (∀ w ∈ lw_good, w.before args s = true) ∧ va_K (gD Γ) gcls (gtys Γ) s ∧ meth.locks = false ∧ gXA A Γ s s.heap ∧ ∀ q, gA Γ q → A q
def gTw (Γ Γ' : gE) : Prop := gD Γ' = gD Γ ∧ gtys Γ' = gtys Γ ∧ gV Γ' = gV Γ ∧ gB Γ + gM ≤ gB Γ'
def gA2 (Γ Γ' : gE) : Nat → Prop := fun q => gA Γ q ∨ gA Γ' q
theorem gCa_tw {A : Nat → Prop} {p : Program} {s : State} {m : MethodId} {args : Array Value} {meth : Method} {c : Code} {Γ Γ' : gE} {own : String} {cc : ByteArray} {nL : Nat} {ret : Option FieldType} (hT : gTw Γ Γ') (h : gCa A p s m args meth c Γ own cc nL ret) (hA : ∀ q, gA Γ' q → A q) : gCa A p s m args meth c Γ' own cc nL ret := by
  obtain ⟨h1, h2, h3, h4, h5, h6, hK, h8, hX, h10⟩ := h
  refine ⟨h1, h2, h3, h4, h5, h6, ?_, h8, ?_, hA⟩
  · rw [hT.1, hT.2.1]; exact hK
  · unfold gXA at hX ⊢
    rw [hT.2.2.1]; exact hX
section GQ
variable {p : Program} {l : Launch} {e : Env} {R : Room} {s : State} {m : MethodId} {args : Array Value} {below : List Frame} {meth : Method} {c : Code} {H : Heap} {locs : List Loc} {cells slots : Nat} {Q : State → Prop}
variable {cc : ByteArray} {pc : Nat} {ls : Array Slot} {rest : List Value} {Γ Γ' : gE} {g : gG} {Z : Type} {A : Nat → Prop}
theorem dkeep (hT : gTw Γ Γ') {H1 : Heap} (hQ : va_P (gD Γ') gcls (lay Γ' g) H) (hk : ∀ q : Nat, q < H.size → ¬ gA Γ q → H1[q]? = H[q]?) : va_P (gD Γ') gcls (lay Γ' g) H1 := by
  refine hQ.kept (fun k q hq => hk q.1 (hQ k q hq).lt ?_)
  have hk2 : k < gN Γ' := by
    have := (List.getElem?_eq_some_iff.mp hq).1
    rwa [lay_len] at this
  rw [lay_get hk2] at hq
  cases hq
  have h4 := hT.2.2.2
  unfold gA
  show ¬ (gB Γ ≤ gB Γ' + k ∧ gB Γ' + k < gB Γ + gM)
  omega
theorem dkeep' (hT : gTw Γ Γ') {H1 : Heap} (hQ : va_P (gD Γ) gcls (lay Γ g) H) (hk : ∀ q : Nat, q < H.size → ¬ gA Γ' q → H1[q]? = H[q]?) : va_P (gD Γ) gcls (lay Γ g) H1 := by
  refine hQ.kept (fun k q hq => hk q.1 (hQ k q hq).lt ?_)
  have hk2 : k < gM := by
    have := (List.getElem?_eq_some_iff.mp hq).1
    rwa [lay_len] at this
  rw [lay_get hk2] at hq
  cases hq
  have h4 := hT.2.2.2
  unfold gA
  show ¬ (gB Γ' ≤ gB Γ + k ∧ gB Γ + k < gB Γ' + gM)
  omega
theorem dNext {g : gG} {U : State} (hX : gXA A Γ s s.heap) (hA : ∀ q, gA Γ q → A q) (hK : va_K (gD Γ) gcls (gtys Γ) s) (hP : va_P (gD Γ) gcls (lay Γ g) H) (hS : va_S A s.heap H locs) (hU : U.heap = H) (hW : s.WarmedH U.vm) : gI Γ g U := by
  subst hU
  exact ⟨hP, va_K.moved hW.alike hK, ((hX.kept (H1 := U.heap) hS.2.1).warm hW).sub hA⟩
theorem dPre {av : List Value} (hX : gXA A Γ s s.heap) (hA : ∀ q, gA Γ q → A q) (hK : va_K (gD Γ) gcls (gtys Γ) s) (hP : va_P (gD Γ) gcls (lay Γ g) H) (hS : va_S A s.heap H locs) : PreS s H (va_Pc av (gI Γ g)) av :=
  ⟨fun a U f mk q => ⟨q.1, q.2.calling⟩, fun U hU hW => ⟨rfl, dNext hX hA hK hP hS hU hW⟩⟩
theorem dPreV {k : Nat} {C : String} {av : List Value} (hv : gRv k C) (hX : gXA A Γ s s.heap) (hA : ∀ q, gA Γ q → A q) (hK : va_K (gD Γ) gcls (gtys Γ) s) (hP : va_P (gD Γ) gcls (lay Γ g) H) (hS : va_S A s.heap H locs) : PreV s H C (gB Γ + k) (va_Pc (.ref (gB Γ + k) :: av) (gI Γ g)) av := by
  refine ⟨fun a U f mk q => ⟨q.1, q.2.calling⟩, ?_, fun U hU hW => ⟨rfl, dNext hX hA hK hP hS hU hW⟩⟩
  obtain ⟨hk, ci, q, hc, rfl, hsh⟩ := hv
  obtain ⟨fs, hfs⟩ := hsh Γ (g.1 k) (g.2 k)
  exact va_recv hK hP hc (q0 := k) (fs := fs) (by rw [lay_get (gN_lt hk), hfs])
theorem dHl {nL : Nat} {ret : Option FieldType} {own : String} (C0 : gCa A p s m args meth c Γ own cc nL ret) {y2 : MethodName} {b2 : ByteArray} {L2 n2 f2 lo2 mc2 ms2 index : Nat} {ret2 : Option FieldType} {hh : List (Nat × Nat × Nat × Nat)} (hcode : Cond.codeWith y2 b2 L2 ret2 hh ∈ lw_good) (hini : Cond.initialized y2.cls ∈ lw_good) (hd : y2.cls ≠ "java/lang/invoke/MethodHandle" ∧ y2.cls ≠ "java/lang/invoke/VarHandle" ∧ (parseMethodDescriptor y2.desc).map (fun d => d.parameters.length) = some n2) (hw : Cond.methodLink own index y2 ∈ lw_good) (hi : Cond.static y2 ∈ lw_good) (hR : f2 + 1 ≤ R.frames ∧ 8 + (L2 + 11) + lo2 ≤ R.locals) (hcs : cells + mc2 ≤ R.cells ∧ slots + ms2 ≤ R.slots)
    (As : List Value) (hn : As.length = n2) (hrm : (rest.map fun v => v.category).sum ≤ 8) (hP : va_P (gD Γ) gcls (lay Γ g) H) (hS : va_S A s.heap H locs) (hlz : ls.size = nL) (hdg : decode cc pc = .ok (.invokestatic index, 3))
    {X : Option (Int64 × gG)} {F : Int64 × gG → Option Z} {z : Z} (h : X.bind F = some z) (hM : ∀ u, X = some u → gHl l y2 b2 L2 ret2 hh f2 lo2 mc2 ms2 Γ As g u)
    (kk : ∀ (u : Int64 × gG) (H1 : Heap) (locs1 : List Loc), F u = some z → va_P (gD Γ) gcls (lay Γ u.2) H1 → (∀ q : Nat, q < H.size → ¬ gA Γ q → H1[q]? = H[q]?) → va_S A s.heap H1 locs1 → W p l e R s m args below meth c H1 locs1 (cells + mc2) (slots + ms2) Q (F0 m (pc + 3) ls (.long u.1 :: rest))) {st0 : List Value} (hst : st0 = As.reverse ++ rest) : W p l e R s m args below meth c H locs cells slots Q (F0 m pc ls st0) := by
  obtain ⟨hx, hb, hml, hr, hown, hts, hK, hlk, hX, hA⟩ := C0
  obtain ⟨u, hu, h⟩ := gOb h
  subst hst
  have hc0 : Cond.codeWith y2 b2 L2 ret2 hh ∈ Cond.codeWith y2 b2 L2 ret2 hh :: lw_good := List.mem_cons_self
  have cw : vx_CSW R s args own index y2 b2 L2 ret2 hh (Cond.codeWith y2 b2 L2 ret2 hh :: lw_good) (gRx f2 lo2 mc2 ms2) mc2 ms2 n2 := by
    refine ⟨⟨rfl, rfl, hR.1, hR.2, pay_in hts (lw_goodIn hcode (fun _ h => h)), hc0⟩, hts _ hcode, hts _ hini, ⟨hd.1, hd.2.1⟩, fun sig h => ?_, hts _ hw, hts _ hi⟩
    have h2 := hd.2.2
    rw [h] at h2
    exact (Option.some.inj h2).symm
  refine va_calll (vx_runSW (As := As) (rest := rest) ⟨hx, hb, hml, hown, hts⟩ (hM u hu) cw (dPre hX hA hK hP hS) rfl hn hlz rfl (lv_room hrm) hdg hcs) hS (fun q _ h => hA q h) (fun q h => hA q h) (fun r u1 t H1 locs1 ht hvm hw hB hz1 hk1 hS1 => ?_)
  rw [← ht] at hS1 hk1 ⊢
  have e1 : r = u.1 := hw
  subst e1
  exact kk u t.heap locs1 h hB hk1 hS1
theorem dKi {nL : Nat} {ret : Option FieldType} {own : String} (C0 : gCa A p s m args meth c Γ own cc nL ret) {y2 : MethodName} {b2 : ByteArray} {L2 n2 f2 lo2 mc2 ms2 index : Nat} {ret2 : Option FieldType} (hcal : gCal y2 b2 L2 ret2 n2) (hw : Cond.methodLink own index y2 ∈ lw_good) (hi : Cond.static y2 ∈ lw_good) (hR : f2 + 1 ≤ R.frames ∧ 8 + (L2 + 11) + lo2 ≤ R.locals) (hcs : cells + mc2 ≤ R.cells ∧ slots + ms2 ≤ R.slots)
    (As : List Value) (hn : As.length = n2) (hrm : (rest.map fun v => v.category).sum ≤ 8) (hP : va_P (gD Γ) gcls (lay Γ g) H) (hS : va_S A s.heap H locs) (hlz : ls.size = nL) (hdg : decode cc pc = .ok (.invokestatic index, 3))
    {X : Option (Int32 × gG)} {F : Int32 × gG → Option Z} {z : Z} (h : X.bind F = some z) (hM : ∀ u, X = some u → gCi l y2 b2 L2 ret2 f2 lo2 mc2 ms2 Γ As g u)
    (kk : ∀ (u : Int32 × gG) (H1 : Heap) (locs1 : List Loc), F u = some z → va_P (gD Γ) gcls (lay Γ u.2) H1 → (∀ q : Nat, q < H.size → ¬ gA Γ q → H1[q]? = H[q]?) → va_S A s.heap H1 locs1 → W p l e R s m args below meth c H1 locs1 (cells + mc2) (slots + ms2) Q (F0 m (pc + 3) ls (.int u.1 :: rest))) {st0 : List Value} (hst : st0 = As.reverse ++ rest) : W p l e R s m args below meth c H locs cells slots Q (F0 m pc ls st0) := by
  obtain ⟨hx, hb, hml, hr, hown, hts, hK, hlk, hX, hA⟩ := C0
  obtain ⟨u, hu, h⟩ := gOb h
  subst hst
  refine va_calli (va_runS (As := As) (rest := rest) ⟨hx, hb, hml, hown, hts⟩ (hM u hu) ⟨gCalX hts hcal hw hR, hts _ hi⟩ (dPre hX hA hK hP hS) rfl hn hlz rfl (lv_room hrm) hdg hcs) hS (fun q _ h => hA q h) (fun q h => hA q h) (fun r u1 t H1 locs1 ht hvm hw hB hz1 hk1 hS1 => ?_)
  rw [← ht] at hS1 hk1 ⊢
  have e1 : r = u.1 := hw
  subst e1
  exact kk u t.heap locs1 h hB hk1 hS1
theorem dKl {nL : Nat} {ret : Option FieldType} {own : String} (C0 : gCa A p s m args meth c Γ own cc nL ret) {y2 : MethodName} {b2 : ByteArray} {L2 n2 f2 lo2 mc2 ms2 index : Nat} {ret2 : Option FieldType} (hcal : gCal y2 b2 L2 ret2 n2) (hw : Cond.methodLink own index y2 ∈ lw_good) (hi : Cond.static y2 ∈ lw_good) (hR : f2 + 1 ≤ R.frames ∧ 8 + (L2 + 11) + lo2 ≤ R.locals) (hcs : cells + mc2 ≤ R.cells ∧ slots + ms2 ≤ R.slots)
    (As : List Value) (hn : As.length = n2) (hrm : (rest.map fun v => v.category).sum ≤ 8) (hP : va_P (gD Γ) gcls (lay Γ g) H) (hS : va_S A s.heap H locs) (hlz : ls.size = nL) (hdg : decode cc pc = .ok (.invokestatic index, 3))
    {X : Option (Int64 × gG)} {F : Int64 × gG → Option Z} {z : Z} (h : X.bind F = some z) (hM : ∀ u, X = some u → gCl l y2 b2 L2 ret2 f2 lo2 mc2 ms2 Γ As g u)
    (kk : ∀ (u : Int64 × gG) (H1 : Heap) (locs1 : List Loc), F u = some z → va_P (gD Γ) gcls (lay Γ u.2) H1 → (∀ q : Nat, q < H.size → ¬ gA Γ q → H1[q]? = H[q]?) → va_S A s.heap H1 locs1 → W p l e R s m args below meth c H1 locs1 (cells + mc2) (slots + ms2) Q (F0 m (pc + 3) ls (.long u.1 :: rest))) {st0 : List Value} (hst : st0 = As.reverse ++ rest) : W p l e R s m args below meth c H locs cells slots Q (F0 m pc ls st0) := by
  obtain ⟨hx, hb, hml, hr, hown, hts, hK, hlk, hX, hA⟩ := C0
  obtain ⟨u, hu, h⟩ := gOb h
  subst hst
  refine va_calll (va_runS (As := As) (rest := rest) ⟨hx, hb, hml, hown, hts⟩ (hM u hu) ⟨gCalX hts hcal hw hR, hts _ hi⟩ (dPre hX hA hK hP hS) rfl hn hlz rfl (lv_room hrm) hdg hcs) hS (fun q _ h => hA q h) (fun q h => hA q h) (fun r u1 t H1 locs1 ht hvm hw hB hz1 hk1 hS1 => ?_)
  rw [← ht] at hS1 hk1 ⊢
  have e1 : r = u.1 := hw
  subst e1
  exact kk u t.heap locs1 h hB hk1 hS1
theorem dVi {nL : Nat} {ret : Option FieldType} {own : String} (C0 : gCa A p s m args meth c Γ own cc nL ret) {y2 : MethodName} {b2 : ByteArray} {L2 n2 f2 lo2 index : Nat} {ret2 : Option FieldType} (hcal : gCal y2 b2 L2 ret2 n2) (hw : Cond.methodLink own index y2 ∈ lw_good) (hi : Cond.instanceMethod y2 ∈ lw_good) (hse : Cond.selects y2.cls y2 y2 ∈ lw_good) (hR : f2 + 1 ≤ R.frames ∧ 8 + (L2 + 11) + lo2 ≤ R.locals) (hcs : cells + 0 ≤ R.cells ∧ slots + 0 ≤ R.slots)
    {k : Nat} (hv : gRv k y2.cls) (As : List Value) (hn : As.length = n2) (hrm : (rest.map fun v => v.category).sum ≤ 8) (hP : va_P (gD Γ) gcls (lay Γ g) H) (hS : va_S A s.heap H locs) (hlz : ls.size = nL) (hdg : decode cc pc = .ok (.invokevirtual index, 3))
    {X : Option (Int32 × gG)} {F : Int32 × gG → Option Z} {z : Z} (h : X.bind F = some z) (hM : ∀ u, X = some u → gMi l y2 b2 L2 ret2 f2 lo2 Γ (.ref (gB Γ + k) :: As) g u)
    (kk : ∀ (u : Int32 × gG) (H1 : Heap) (locs1 : List Loc), F u = some z → va_P (gD Γ) gcls (lay Γ u.2) H1 → (∀ q : Nat, q < H.size → ¬ gA Γ q → H1[q]? = H[q]?) → va_S A s.heap H1 locs1 → W p l e R s m args below meth c H1 locs1 cells slots Q (F0 m (pc + 3) ls (.int u.1 :: rest))) {st0 : List Value} (hst : st0 = As.reverse ++ .ref (gB Γ + k) :: rest) : W p l e R s m args below meth c H locs cells slots Q (F0 m pc ls st0) := by
  obtain ⟨hx, hb, hml, hr, hown, hts, hK, hlk, hX, hA⟩ := C0
  obtain ⟨u, hu, h⟩ := gOb h
  subst hst
  refine va_calli (va_runV (As := As) (rest := rest) ⟨hx, hb, hml, hown, hts⟩ (hM u hu) (C := y2.cls) ⟨gCalB hts hcal hw hR, hts _ hi, hts _ hse⟩ (dPreV hv hX hA hK hP hS) rfl hn hlz rfl (lv_room hrm) hdg hcs) hS (fun q _ h => hA q h) (fun q h => hA q h) (fun r u1 t H1 locs1 ht hvm hw hB hz1 hk1 hS1 => ?_)
  rw [← ht] at hS1 hk1 ⊢
  have e1 : r = u.1 := hw
  subst e1
  exact kk u t.heap locs1 h hB hk1 hS1
def gI2 (Γ Γ' : gE) (g h : gG) (U : State) : Prop := va_P (gD Γ) gcls (lay Γ g) U.heap ∧ va_P (gD Γ') gcls (lay Γ' h) U.heap ∧ va_K (gD Γ) gcls (gtys Γ) U ∧ gXA (gA2 Γ Γ') Γ U U.heap
def gQ2 (Γ Γ' : gE) (z : Int32 × gG × gG) : Array Value → State → Outcome → State → Prop := va_Qi (fun r (_ : Unit) => r = z.1) (fun _ t => va_P (gD Γ) gcls (lay Γ z.2.1) t.heap ∧ va_P (gD Γ') gcls (lay Γ' z.2.2) t.heap) (gA2 Γ Γ')
def gAl (l : Launch) (y : MethodName) (cc : ByteArray) (maxL : Nat) (ret : Option FieldType) (f lo mc ms : Nat) (Γ Γ' : gE) (av : List Value) (g h : gG) (z : Int32 × gG × gG) : Prop := Met l y (Cond.code y cc maxL ret :: lw_good) (gRx f lo mc ms) (va_Pc av (gI2 Γ Γ' g h)) (gQ2 Γ Γ' z) mc ms (gA2 Γ Γ')
theorem gStart2 {l : Launch} {y : MethodName} {cc : ByteArray} {maxL : Nat} {ret : Option FieldType} {rm : Room} {Γ Γ' : gE} (hT : gTw Γ Γ') {av : List Value} {g h : gG} {Qc : Array Value → State → Outcome → State → Prop} {mc ms : Nat} {own : String}
    (hy : plainName y.cls = true) (ho : y.cls = own) (hlen : (lg_sl av).length ≤ maxL)
    (body : ∀ {p : Program} {e : Env} {s : State} {m : MethodId} {below : List Frame} {meth : Method} {c : Code}, gCa (gA2 Γ Γ') p s m av.toArray meth c Γ own cc maxL ret → gCa (gA2 Γ Γ') p s m av.toArray meth c Γ' own cc maxL ret → ∀ ls : Array Slot, lv_has ls maxL (lv_args 0 av) → va_P (gD Γ) gcls (lay Γ g) s.heap → va_P (gD Γ') gcls (lay Γ' h) s.heap →
      W p l e rm s m av.toArray below meth c s.heap [] 0 0 (MQ below Qc av.toArray s mc ms (gA2 Γ Γ')) (F0 m 0 ls [])) : Met l y (Cond.code y cc maxL ret :: lw_good) rm (va_Pc av (gI2 Γ Γ' g h)) Qc mc ms (gA2 Γ Γ') := by
  refine Met.ofW (cc := cc) (maxL := maxL) (ret := ret) hy rfl ?_
  intro p e s m args below meth c s₁ B hml hv
  obtain ⟨rfl, hP, hQ, hK, hX⟩ := hv
  have hts := atoms_spec (ws := Cond.code y cc maxL ret :: lw_good) B.pre
  have hown : s.vm.findClass own = some m.cls := ho ▸ findClass_of_methodNamed B.named
  have hl := lv_entry av (n := maxL) hlen
  rw [lg_entry_eq]
  have C0 : gCa (gA2 Γ Γ') p s m av.toArray meth c Γ own cc maxL ret := ⟨B.exec, B.bytes, hml, B.returns, hown, fun w hw => hts w (List.mem_cons_of_mem _ hw), hK, B.notSynchronized, hX, fun q h => Or.inl h⟩
  exact body C0 (gCa_tw hT C0 (fun q h => Or.inr h)) _ hl hP hQ
theorem dzret0 {g h : gG} (hx : p.tables.exec = Jvm.exec) (hb : c.code = cc) (hr : meth.sig.returnType = some .boolean) (hlk : meth.locks = false) (hP : va_P (gD Γ) gcls (lay Γ g) H) (hQ : va_P (gD Γ') gcls (lay Γ' h) H) (hS : va_S (gA2 Γ Γ') s.heap H locs) {v : Int32} {z : Int32 × gG × gG} (hn : narrow .boolean (.int v) = .int v) (hdg : decode cc pc = .ok (.ireturn, 1)) (h9 : some (v, g, h) = some z) : W p l e R s m args below meth c H locs cells slots (MQ below (gQ2 Γ Γ' z) args s cells slots (gA2 Γ Γ')) (F0 m pc ls [.int v]) := by
  cases h9
  exact W.zret hx hb hr hn (fun t ht hW => ⟨⟨v, (), rfl, rfl, by show va_P _ _ _ t.heap ∧ va_P _ _ _ t.heap; rw [ht]; exact ⟨hP, hQ⟩⟩, hS.F ht⟩) hS.2.2 hdg hlk
theorem dAl {nL : Nat} {ret : Option FieldType} {own : String} (hT : gTw Γ Γ') (C0 : gCa A p s m args meth c Γ own cc nL ret) (hA' : ∀ q, gA Γ' q → A q) {y2 : MethodName} {b2 : ByteArray} {L2 n2 f2 lo2 mc2 ms2 index : Nat} {ret2 : Option FieldType} (hcal : gCal y2 b2 L2 ret2 n2) (hw : Cond.methodLink own index y2 ∈ lw_good) (hi : Cond.static y2 ∈ lw_good) (hR : f2 + 1 ≤ R.frames ∧ 8 + (L2 + 11) + lo2 ≤ R.locals) (hcs : cells + mc2 ≤ R.cells ∧ slots + ms2 ≤ R.slots)
    (As : List Value) (hn : As.length = n2) (hrm : (rest.map fun v => v.category).sum ≤ 8) {g h : gG} (hP : va_P (gD Γ) gcls (lay Γ g) H) (hQ : va_P (gD Γ') gcls (lay Γ' h) H) (hS : va_S A s.heap H locs) (hlz : ls.size = nL) (hdg : decode cc pc = .ok (.invokestatic index, 3))
    {X : Option (Int32 × gG × gG)} {F : Int32 × gG × gG → Option Z} {z : Z} (h9 : X.bind F = some z) (hM : ∀ u, X = some u → gAl l y2 b2 L2 ret2 f2 lo2 mc2 ms2 Γ Γ' As g h u)
    (kk : ∀ (u : Int32 × gG × gG) (H1 : Heap) (locs1 : List Loc), F u = some z → va_P (gD Γ) gcls (lay Γ u.2.1) H1 → va_P (gD Γ') gcls (lay Γ' u.2.2) H1 → va_S A s.heap H1 locs1 → W p l e R s m args below meth c H1 locs1 (cells + mc2) (slots + ms2) Q (F0 m (pc + 3) ls (.int u.1 :: rest))) {st0 : List Value} (hst : st0 = As.reverse ++ rest) : W p l e R s m args below meth c H locs cells slots Q (F0 m pc ls st0) := by
  obtain ⟨hx, hb, hml, hr, hown, hts, hK, hlk, hX, hA⟩ := C0
  obtain ⟨u, hu, h9⟩ := gOb h9
  subst hst
  have hA2 : ∀ q, gA2 Γ Γ' q → A q := fun q h => h.elim (hA q) (hA' q)
  refine va_calli (va_runS (As := As) (rest := rest) ⟨hx, hb, hml, hown, hts⟩ (hM u hu) ⟨gCalX hts hcal hw hR, hts _ hi⟩ ⟨fun a U f mk q => ⟨q.1, q.2.1, q.2.2.1, va_K.moved (u := U) (U := U.calling f mk a) (Vm.Alike.refl U.vm) q.2.2.2.1, q.2.2.2.2.calling⟩, fun U hU hW => ⟨rfl, by rw [hU]; exact hP, by rw [hU]; exact hQ, va_K.moved hW.alike hK, ((hX.kept (H1 := U.heap) (by rw [hU]; exact hS.2.1)).warm hW).sub hA2⟩⟩ rfl hn hlz rfl (lv_room hrm) hdg hcs) hS (fun q _ h => hA2 q h) (fun q h => hA2 q h) (fun r u1 t H1 locs1 ht hvm hw hB hz1 hk1 hS1 => ?_)
  rw [← ht] at hS1 hk1 ⊢
  have e1 : r = u.1 := hw
  subst e1
  exact kk u t.heap locs1 h9 hB.1 hB.2 hS1
/-- the script's number k -/
def sdr (L : Nat) (xs : Nat → Int32) (k : Int32) : Option Int32 := if Int32.ofNat L ≤ k then some (((15593329 : Int32) * k + 10399) &&& 2147483647) else if inb k L = true then some (xs k.toNatClampNeg &&& 2147483647) else none
def gDr (l : Launch) (y : MethodName) (cc : ByteArray) (maxL : Nat) (ret : Option FieldType) (f lo b L : Nat) (xs : Nat → Int32) (k z : Int32) : Prop := Met l y (Cond.code y cc maxL ret :: lw_good) (gRm f lo) (va_Pc [.ref b, .int k] (fun U => va_X b L xs U U.heap)) (va_Qi (fun r (_ : Unit) => r = z) (fun _ _ => True) (fun _ => False)) 0 0 (fun _ => False)
theorem dDr {nL : Nat} {ret : Option FieldType} {own : String} (C0 : gCa A p s m args meth c Γ own cc nL ret) {y2 : MethodName} {b2 : ByteArray} {L2 f2 lo2 index : Nat} {ret2 : Option FieldType} (hcal : gCal y2 b2 L2 ret2 2) (hw : Cond.methodLink own index y2 ∈ lw_good) (hi : Cond.static y2 ∈ lw_good) (hR : f2 + 1 ≤ R.frames ∧ 8 + (L2 + 11) + lo2 ≤ R.locals) (hcs : cells + 0 ≤ R.cells ∧ slots + 0 ≤ R.slots)
    {b L : Nat} {xs : Nat → Int32} (hXs : va_X b L xs s s.heap) (hbl : b < s.heap.size) (hbA : ¬ A b) {k : Int32} (hrm : (rest.map fun v => v.category).sum ≤ 8) (hS : va_S A s.heap H locs) (hlz : ls.size = nL) (hdg : decode cc pc = .ok (.invokestatic index, 3))
    {F : Int32 → Option Z} {z : Z} (h : (sdr L xs k).bind F = some z) (hM : ∀ u, sdr L xs k = some u → gDr l y2 b2 L2 ret2 f2 lo2 b L xs k u)
    (kk : ∀ (u : Int32) (H1 : Heap) (locs1 : List Loc), F u = some z → (∀ q : Nat, q < H.size → H1[q]? = H[q]?) → va_S A s.heap H1 locs1 → W p l e R s m args below meth c H1 locs1 cells slots Q (F0 m (pc + 3) ls (.int u :: rest))) : W p l e R s m args below meth c H locs cells slots Q (F0 m pc ls (.int k :: .ref b :: rest)) := by
  obtain ⟨hx, hb, hml, hr, hown, hts, hK, hlk, hX, hA⟩ := C0
  obtain ⟨u, hu, h⟩ := gOb h
  refine va_calli (va_runS (As := [.ref b, .int k]) (rest := rest) ⟨hx, hb, hml, hown, hts⟩ (hM u hu) ⟨gCalB hts hcal hw hR, hts _ hi⟩ ⟨fun a U f mk q => ⟨q.1, va_X.moved (u := U) (U := U.calling f mk a) (Vm.Alike.refl U.vm) q.2⟩, fun U hU hW => ⟨rfl, by show va_X b L xs U U.heap; rw [hU]; exact (va_X.moved hW.alike hXs).kept (hS.2.1 b hbl hbA)⟩⟩ rfl rfl hlz rfl (lv_room hrm) hdg hcs) hS (fun q _ h => h.elim) (fun q h => h.elim) (fun r u1 t H1 locs1 ht hvm hw hB hz1 hk1 hS1 => ?_)
  rw [← ht] at hS1 hk1 ⊢
  have e1 : r = u := hw
  subst e1
  exact kk r t.heap locs1 h (fun q hq => hk1 q hq id) hS1
end GQ
theorem wk_L_7d : Cond.constant RL 7 (15593329 : Int32) ∈ lw_good := wm 298 (by decide +kernel) (by decide +kernel)
theorem wk_L_8d : Cond.constant RL 8 (2147483647 : Int32) ∈ lw_good := wm 299 (by decide +kernel) (by decide +kernel)
set_option maxHeartbeats 2000000 in
theorem m_L_draw (l : Launch) (b L : Nat) (xs : Nat → Int32) (k z : Int32) (h : sdr L xs k = some z) : gDr l yL_draw cL_draw 2 (some .int) 0 0 b L xs k z := by
  unfold sdr at h
  refine Met.ofW (cc := cL_draw) (maxL := 2) (ret := some .int) (by decide +kernel) rfl ?_
  intro p e s m args below meth c s₁ B hml hv
  obtain ⟨rfl, hXs⟩ := hv
  have hts0 := atoms_spec (ws := Cond.code yL_draw cL_draw 2 (some .int) :: lw_good) B.pre
  have hown : s.vm.findClass RL = some m.cls := findClass_of_methodNamed B.named
  have hts : ∀ w ∈ lw_good, w.before #[Value.ref b, Value.int k] s = true := fun w hw => hts0 w (List.mem_cons_of_mem _ hw)
  have hl := lv_entry [.ref b, .int k] (n := 2) (Nat.le_of_ble_eq_true rfl)
  rw [lg_entry_eq]
  generalize (lg_sl ([.ref b, .int k]) ++ List.replicate (2 - (lg_sl ([.ref b, .int k])).length) Slot.unset).toArray = ls at hl ⊢
  have hl : lv_has ls 2 [(0, .ref b), (1, .int k)] := hl
  have hx := B.exec
  have hb := B.bytes
  have hr := B.returns
  have hlk := B.notSynchronized
  have hbl : b < s.heap.size := by
    obtain ⟨scr, h1, -⟩ := hXs
    exact (Array.getElem?_eq_some_iff.mp h1).1
  have hS : va_S (fun _ => False) s.heap s.heap [] := va_S.rf
  refine lv_iload_n hx hb dL_draw_0 rfl (lv_at hl 1 rfl) ?_
  refine lv_aload_n hx hb dL_draw_1 rfl (lv_at hl 0 rfl) ?_
  refine va_slen hx hb hXs hbl id hS dL_draw_2 ?_
  refine lv_icmp_ge (tgt := 12) hx hb dL_draw_3 (by decide) (fun c1 => ?_) (fun c1 => ?_)
  · replace h := gpos c1 h
    refine lv_ldc (v := 15593329) hx hb hown (hts _ wk_L_7d) dL_draw_12 ?_
    refine lv_iload_n hx hb dL_draw_14 rfl (lv_at hl 1 rfl) ?_
    refine lv_imul hx hb dL_draw_15 ?_
    refine lv_sipush (v := 10399) hx hb dL_draw_16 (by decide) ?_
    refine lv_iadd hx hb dL_draw_19 ?_
    refine lv_ldc (v := 2147483647) hx hb hown (hts _ wk_L_8d) dL_draw_20 ?_
    refine lv_iand hx hb dL_draw_22 ?_
    cases h
    exact W.iret hx hb hr (fun t ht hW => ⟨⟨_, (), rfl, rfl, trivial⟩, hS.F ht⟩) hS.2.2 dL_draw_23 hlk
  · replace h := gneg c1 h
    refine lv_aload_n hx hb dL_draw_6 rfl (lv_at hl 0 rfl) ?_
    refine lv_iload_n hx hb dL_draw_7 rfl (lv_at hl 1 rfl) ?_
    by_cases hi : inb k L = true
    · rw [if_pos hi] at h
      refine va_sld hx hb hXs hbl id hS (inb_vp hi) dL_draw_8 ?_
      refine lv_goto (tgt := 20) hx hb dL_draw_9 (by decide) ?_
      refine lv_ldc (v := 2147483647) hx hb hown (hts _ wk_L_8d) dL_draw_20 ?_
      refine lv_iand hx hb dL_draw_22 ?_
      cases h
      exact W.iret hx hb hr (fun t ht hW => ⟨⟨_, (), rfl, rfl, trivial⟩, hS.F ht⟩) hS.2.2 dL_draw_23 hlk
    · rw [if_neg hi] at h
      cases h
