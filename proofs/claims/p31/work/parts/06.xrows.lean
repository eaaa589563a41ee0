/-! MY ROWS for methods that throw: they answer .inl r or .inr n (the n-th of gExs). -/
def gRx (f lo mc ms : Nat) : Room := { frames := f, cells := mc, slots := ms, locals := lo }
def gQxi (Γ : gE) (z : (Int32 ⊕ Nat) × gG) : Array Value → State → Outcome → State → Prop := va_Qi (fun r (_ : Unit) => z.1 = .inl r) (gPo Γ z.2) (gA Γ)
def gQxv (Γ : gE) (z : (Unit ⊕ Nat) × gG) : Array Value → State → Outcome → State → Prop := va_Qv (fun (_ : Unit) => z.1 = .inl ()) (gPo Γ z.2) (gA Γ)
def gXC {α : Type} (Γ : gE) (z : (α ⊕ Nat) × gG) : String → State → State → Prop := vx_X (S := Unit) (fun _ => True) (fun E _ t => (∃ n, z.1 = .inr n ∧ gEx n = E) ∧ va_P (gD Γ) gcls (lay Γ z.2) t.heap) (gA Γ)
def gXi (l : Launch) (y : MethodName) (cc : ByteArray) (maxL : Nat) (ret : Option FieldType) (f lo mc ms : Nat) (Γ : gE) (av : List Value) (g : gG) (z : (Int32 ⊕ Nat) × gG) : Prop := vx_Met l y (Cond.code y cc maxL ret :: lw_good) (gRx f lo mc ms) (va_Pc av (gI Γ g)) (gQxi Γ z) (gXC Γ z) mc ms (gA Γ)
def gXv (l : Launch) (y : MethodName) (cc : ByteArray) (maxL : Nat) (ret : Option FieldType) (f lo mc ms : Nat) (Γ : gE) (av : List Value) (g : gG) (z : (Unit ⊕ Nat) × gG) : Prop := vx_Met l y (Cond.code y cc maxL ret :: lw_good) (gRx f lo mc ms) (va_Pc av (gI Γ g)) (gQxv Γ z) (gXC Γ z) mc ms (gA Γ)
def gXb {α β : Type} (X : Option ((α ⊕ Nat) × gG)) (F : α → gG → Option ((β ⊕ Nat) × gG)) : Option ((β ⊕ Nat) × gG) := X.bind (fun u => match u.1 with | .inl r => F r u.2 | .inr n => some (.inr n, u.2))
theorem gXbE {α β : Type} {X : Option ((α ⊕ Nat) × gG)} {F : α → gG → Option ((β ⊕ Nat) × gG)} {z : (β ⊕ Nat) × gG} (h : gXb X F = some z) : ∃ u, X = some u ∧ ((∃ r, u.1 = .inl r ∧ F r u.2 = some z) ∨ ∃ n, u.1 = .inr n ∧ z = (.inr n, u.2)) := by
  obtain ⟨u, hu, h⟩ := gOb h
  refine ⟨u, hu, ?_⟩
  obtain ⟨r | n, g1⟩ := u
  · exact Or.inl ⟨r, rfl, h⟩
  · exact Or.inr ⟨n, rfl, (Option.some.inj h).symm⟩
theorem gStartX {l : Launch} {y : MethodName} {cc : ByteArray} {maxL : Nat} {ret : Option FieldType} {rm : Room} {Γ : gE} {av : List Value} {g : gG} {Qc : Array Value → State → Outcome → State → Prop} {XC : String → State → State → Prop} {mc ms : Nat} {own : String}
    (hy : plainName y.cls = true) (ho : y.cls = own) (hlen : (lg_sl av).length ≤ maxL)
    (body : ∀ {p : Program} {e : Env} {s : State} {m : MethodId} {below : List Frame} {meth : Method} {c : Code}, gCx p s m av.toArray meth c Γ own cc maxL ret → (∀ x ∈ c.exceptionTable.toList, False) → ∀ ls : Array Slot, lv_has ls maxL (lv_args 0 av) → va_P (gD Γ) gcls (lay Γ g) s.heap →
      W p l e rm s m av.toArray below meth c s.heap [] 0 0 (vx_MQ below Qc XC av.toArray s mc ms (gA Γ)) (F0 m 0 ls [])) : vx_Met l y (Cond.code y cc maxL ret :: lw_good) rm (va_Pc av (gI Γ g)) Qc XC mc ms (gA Γ) := by
  refine vx_ofW (cc := cc) (maxL := maxL) (ret := ret) hy rfl ?_
  intro p e s m args below meth c s₁ B hml hE hv
  obtain ⟨rfl, hP, hK, hX⟩ := hv
  have hts := atoms_spec (ws := Cond.code y cc maxL ret :: lw_good) B.pre
  have hown : s.vm.findClass own = some m.cls := ho ▸ findClass_of_methodNamed B.named
  have hl := lv_entry av (n := maxL) hlen
  rw [lg_entry_eq]
  exact body ⟨B.exec, B.bytes, hml, B.returns, hown, fun w hw => hts w (List.mem_cons_of_mem _ hw), hK, B.notSynchronized, hX⟩ hE _ hl hP
def gBad : List Cond := gDecs.map Cond.declares ++ gExs.map (fun q => Cond.castable q q)
theorem gBad_ok {Γ : gE} {s : State} {H : Heap} {args : Array Value} (hX : gX Γ s H) : ∀ w ∈ gBad, w.before args s = true := by
  intro w hw
  rcases List.mem_append.mp hw with h | h
  · obtain ⟨q, hq, rfl⟩ := List.mem_map.mp h
    exact va_Nw.use rfl (hX.2.2.2.2.2.2.1 q hq)
  · obtain ⟨q, hq, rfl⟩ := List.mem_map.mp h
    exact va_Nw.use rfl (hX.2.2.2.2.2.2.2.1 q hq)
/-- what a 'throw new X(text)' in the class needs of the tables -/
def gTh (ik is ic : Nat) (cls text : String) : Prop := Bundle.fit cls = true ∧ Cond.classLink RX9 ik cls ∈ lw_good ∧ Cond.initialized cls ∈ lw_good ∧ (RX9, is, text) ∈ gStrs ∧ (∀ w ∈ (vx_atS RX9 ic cls gNms).filter goodWord, w ∈ lw_good) ∧ (∀ w ∈ (vx_atS RX9 ic cls gNms).filter (fun w => !goodWord w), w ∈ gBad) ∧ ∀ w ∈ Cond.classLink RX9 ik cls :: Cond.initialized cls :: vx_atS RX9 ic cls gNms, vx_ot w = true
theorem gNms_fit : ∀ n ∈ gNms, Bundle.fit n = true := by decide +kernel
section GX
variable {p : Program} {l : Launch} {e : Env} {R : Room} {s : State} {m : MethodId} {args : Array Value} {below : List Frame} {meth : Method} {c : Code} {H : Heap} {locs : List Loc} {cells slots : Nat} {Q : State → Prop}
variable {cc : ByteArray} {pc : Nat} {ls : Array Slot} {rest : List Value} {Γ : gE} {g : gG} {α β : Type} {mc ms : Nat} {Qc : Array Value → State → Outcome → State → Prop}
theorem gXC_of {z : (α ⊕ Nat) × gG} {n : Nat} {E : String} (h : some (.inr n, g) = some z) (hn : gEx n = E) (hP : va_P (gD Γ) gcls (lay Γ g) H) (hS : va_S (gA Γ) s.heap H locs) (t : State) (hz : H.size ≤ t.heap.size) (hk : ∀ q : Nat, q < H.size → t.heap[q]? = H[q]?) : gXC Γ z E s t := by
  cases h
  exact ⟨(), trivial, ⟨⟨n, rfl, hn⟩, hP.kept (fun k q hq => hk q.1 (hP k q hq).lt)⟩, Nat.le_trans hS.1 hz, fun q h1 h2 => by rw [hk q (Nat.lt_of_lt_of_le h1 hS.1)]; exact hS.2.1 q h1 h2⟩
theorem gThrow {nL : Nat} {ret : Option FieldType} (C0 : gCx p s m args meth c Γ RX9 cc nL ret) (hE : ∀ x ∈ c.exceptionTable.toList, False) (hst : l.stackTraces = false) {ik is ic : Nat} {cls text : String} (n : Nat) (hth : gTh ik is ic cls text) (hn : gEx n = cls) (hP : va_P (gD Γ) gcls (lay Γ g) H) (hS : va_S (gA Γ) s.heap H locs) (hlz : ls.size = nL)
    (d0 : decode cc pc = .ok (.new ik, 3)) (d3 : decode cc (pc + 3) = .ok (.dup, 1)) (d4 : decode cc (pc + 4) = .ok (.ldc is, 2)) (d6 : decode cc (pc + 6) = .ok (.invokespecial ic, 3)) (d9 : decode cc (pc + 9) = .ok (.athrow, 1))
    (hf : 5 < R.frames) (hlo : (rest.map fun v => v.category).sum + 82 ≤ R.locals) (hc : cells + 1 ≤ R.cells) (hs : slots + 6 ≤ R.slots) (hc2 : cells + 1 ≤ mc) (hs2 : slots + 6 ≤ ms) {z : (α ⊕ Nat) × gG} (h : some (.inr n, g) = some z) :
    W p l e R s m args below meth c H locs cells slots (vx_MQ below Qc (gXC Γ z) args s mc ms (gA Γ)) (F0 m pc ls rest) := by
  obtain ⟨hx, hb, hml, hr, hown, hts, hK, hlk, hX⟩ := C0
  obtain ⟨hfit, hk, hi, hstr, hat, hbad, hot⟩ := hth
  obtain ⟨sa, hsa⟩ := hX.2.2.2.2.1 _ hstr
  exact vx_throwS (names := gNms) hx hb hst hown hfit gNms_fit (hts _ hk) (hts _ hi) hsa (vx_hat (fun w hw => hts w (hat w hw)) hbad (gBad_ok hX)) hot hX.2.2.1 hX.2.2.2.1 hS (hlz.trans hml.symm) d0 d3 d4 d6 d9 (fun x hx9 => (hE x hx9).elim) hf hlo hc hs hlk (fun t _ hz hk9 => gXC_of h hn hP hS t hz hk9) hS.2.2 hc2 hs2
theorem gxiret (hx : p.tables.exec = Jvm.exec) (hb : c.code = cc) (hr : meth.sig.returnType = some .int) (hlk : meth.locks = false) (hP : va_P (gD Γ) gcls (lay Γ g) H) (hS : va_S (gA Γ) s.heap H locs) {v : Int32} {z : (Int32 ⊕ Nat) × gG} {XC : String → State → State → Prop} (hc : cells ≤ mc) (hs : slots ≤ ms) (hdg : decode cc pc = .ok (.ireturn, 1)) (h : some (.inl v, g) = some z) : W p l e R s m args below meth c H locs cells slots (vx_MQ below (gQxi Γ z) XC args s mc ms (gA Γ)) (F0 m pc ls [.int v]) := by
  cases h
  exact vx_ret (W.widen hc hs (W.iret hx hb hr (fun t ht hW => ⟨⟨v, (), rfl, rfl, by show va_P _ _ _ t.heap; rw [ht]; exact hP⟩, hS.F ht⟩) hS.2.2 hdg hlk))
theorem gxzret0 (hx : p.tables.exec = Jvm.exec) (hb : c.code = cc) (hr : meth.sig.returnType = some .boolean) (hlk : meth.locks = false) (hP : va_P (gD Γ) gcls (lay Γ g) H) (hS : va_S (gA Γ) s.heap H locs) {v : Int32} {z : (Int32 ⊕ Nat) × gG} {XC : String → State → State → Prop} (hc : cells ≤ mc) (hs : slots ≤ ms) (hn : narrow .boolean (.int v) = .int v) (hdg : decode cc pc = .ok (.ireturn, 1)) (h : some (.inl v, g) = some z) : W p l e R s m args below meth c H locs cells slots (vx_MQ below (gQxi Γ z) XC args s mc ms (gA Γ)) (F0 m pc ls [.int v]) := by
  cases h
  exact vx_ret (W.widen hc hs (W.zret hx hb hr hn (fun t ht hW => ⟨⟨v, (), rfl, rfl, by show va_P _ _ _ t.heap; rw [ht]; exact hP⟩, hS.F ht⟩) hS.2.2 hdg hlk))
theorem gxzret (hx : p.tables.exec = Jvm.exec) (hb : c.code = cc) (hr : meth.sig.returnType = some .boolean) (hlk : meth.locks = false) (hP : va_P (gD Γ) gcls (lay Γ g) H) (hS : va_S (gA Γ) s.heap H locs) {v : Int32} {z : (Int32 ⊕ Nat) × gG} {XC : String → State → State → Prop} (hc : cells ≤ mc) (hs : slots ≤ ms) (hdg : decode cc pc = .ok (.ireturn, 1)) (h : (if gZb v = true then some (.inl v, g) else none) = some z) : W p l e R s m args below meth c H locs cells slots (vx_MQ below (gQxi Γ z) XC args s mc ms (gA Γ)) (F0 m pc ls [.int v]) := by
  by_cases hz : gZb v = true
  · rw [if_pos hz] at h
    exact gxzret0 hx hb hr hlk hP hS hc hs (gZb_nar hz) hdg h
  · rw [if_neg hz] at h
    cases h
theorem gxvret (hx : p.tables.exec = Jvm.exec) (hb : c.code = cc) (hr : meth.sig.returnType = none) (hlk : meth.locks = false) (hP : va_P (gD Γ) gcls (lay Γ g) H) (hS : va_S (gA Γ) s.heap H locs) {z : (Unit ⊕ Nat) × gG} {XC : String → State → State → Prop} (hc : cells ≤ mc) (hs : slots ≤ ms) (hdg : decode cc pc = .ok (.return_, 1)) (h : some (.inl (), g) = some z) : W p l e R s m args below meth c H locs cells slots (vx_MQ below (gQxv Γ z) XC args s mc ms (gA Γ)) (F0 m pc ls []) := by
  cases h
  exact vx_ret (W.widen hc hs (W.vret hx hb hr (fun t ht hW => ⟨⟨(), rfl, rfl, by show va_P _ _ _ t.heap; rw [ht]; exact hP⟩, hS.F ht⟩) hS.2.2 hdg hlk))
theorem gCalX {own : String} {y2 : MethodName} {b2 : ByteArray} {L2 n2 f2 lo2 mc2 ms2 index : Nat} {ret2 : Option FieldType} (hts : ∀ w ∈ lw_good, w.before args s = true) (hcal : gCal y2 b2 L2 ret2 n2) (hw : Cond.methodLink own index y2 ∈ lw_good) (hR : f2 + 1 ≤ R.frames ∧ 8 + (L2 + 11) + lo2 ≤ R.locals) :
    CallB R s args own index y2 b2 L2 ret2 (Cond.code y2 b2 L2 ret2 :: lw_good) (gRx f2 lo2 mc2 ms2) mc2 ms2 n2 :=
  callB_of (rm := gRx f2 lo2 mc2 ms2) n2 hts (lw_goodIn hcal.1 (fun _ h => h)) rfl rfl rfl (hts _ hcal.2.1) (hts _ hw) hcal.2.2 hR
/-- a call of a method that throws, in one that throws -/
theorem gXCVv {nL : Nat} {ret : Option FieldType} {own : String} (C0 : gCx p s m args meth c Γ own cc nL ret) (hE : ∀ x ∈ c.exceptionTable.toList, False) {y2 : MethodName} {b2 : ByteArray} {L2 n2 f2 lo2 mc2 ms2 index : Nat} {ret2 : Option FieldType} (hcal : gCal y2 b2 L2 ret2 n2) (hw : Cond.methodLink own index y2 ∈ lw_good) (hi : Cond.instanceMethod y2 ∈ lw_good) (hse : Cond.selects y2.cls y2 y2 ∈ lw_good) (hR : f2 + 1 ≤ R.frames ∧ 8 + (L2 + 11) + lo2 ≤ R.locals) (hcs : cells + mc2 ≤ R.cells ∧ slots + ms2 ≤ R.slots) (hcs2 : cells + mc2 ≤ mc ∧ slots + ms2 ≤ ms)
    {k : Nat} (hv : gRv k y2.cls) (As : List Value) (hn : As.length = n2) (hrm : (rest.map fun v => v.category).sum ≤ 8) (hP : va_P (gD Γ) gcls (lay Γ g) H) (hS : va_S (gA Γ) s.heap H locs) (hlz : ls.size = nL) (hdg : decode cc pc = .ok (.invokevirtual index, 3))
    {X : Option ((Unit ⊕ Nat) × gG)} {F : Unit → gG → Option ((β ⊕ Nat) × gG)} {z : (β ⊕ Nat) × gG} (h : gXb X F = some z) (hM : ∀ u, X = some u → gXv l y2 b2 L2 ret2 f2 lo2 mc2 ms2 Γ (.ref (gB Γ + k) :: As) g u)
    (kk : ∀ (g1 : gG) (H1 : Heap) (locs1 : List Loc), F () g1 = some z → va_P (gD Γ) gcls (lay Γ g1) H1 → va_S (gA Γ) s.heap H1 locs1 → W p l e R s m args below meth c H1 locs1 (cells + mc2) (slots + ms2) (vx_MQ below Qc (gXC Γ z) args s mc ms (gA Γ)) (F0 m (pc + 3) ls rest)) {st0 : List Value} (hst : st0 = As.reverse ++ .ref (gB Γ + k) :: rest) : W p l e R s m args below meth c H locs cells slots (vx_MQ below Qc (gXC Γ z) args s mc ms (gA Γ)) (F0 m pc ls st0) := by
  obtain ⟨hx, hb, hml, hr, hown, hts, hK, hlk, hX⟩ := C0
  obtain ⟨u, hu, h⟩ := gXbE h
  subst hst
  refine vx_callv (vx_runV (As := As) (rest := rest) ⟨hx, hb, hml, hown, hts⟩ (hM u hu) (C := y2.cls) ⟨gCalX hts hcal hw hR, hts _ hi, hts _ hse⟩ (gPreV hv hX hK hP hS) rfl hn hlz rfl (lv_room hrm) hdg hcs) hS (fun q _ h => h) (fun q h => h) (fun q _ h => h) ?_ ?_
  · intro E ce q9 u9 t H1 locs1 ht hvm _ hB hz1 hk1 hS1 hce hcv hcl
    subst ht
    obtain ⟨⟨n, e1, e2⟩, hP1⟩ := hB
    rcases h with ⟨r, e3, h⟩ | ⟨n', e3, h⟩
    · rw [e1] at e3; cases e3
    · rw [e1] at e3; cases e3
      exact vx_out (fun x hx9 => (hE x hx9).elim) hlk hce hcv hcl (fun t2 ht2 _ => gXC_of (congrArg some h.symm) e2 hP1 hS1 t2 (by rw [ht2]; exact Nat.le_refl _) (fun q _ => by rw [ht2])) hS1.2.2 hcs2.1 hcs2.2
  · intro u9 t H1 locs1 ht hvm hw9 hB hz1 hk1 hS1
    subst ht
    rcases h with ⟨r, e3, h⟩ | ⟨n', e3, h⟩
    · exact kk u.2 t.heap locs1 h hB hS1
    · rw [hw9] at e3; cases e3
/-- a call of a method that throws, in one that throws -/
theorem gXCSv {nL : Nat} {ret : Option FieldType} {own : String} (C0 : gCx p s m args meth c Γ own cc nL ret) (hE : ∀ x ∈ c.exceptionTable.toList, False) {y2 : MethodName} {b2 : ByteArray} {L2 n2 f2 lo2 mc2 ms2 index : Nat} {ret2 : Option FieldType} (hcal : gCal y2 b2 L2 ret2 n2) (hw : Cond.methodLink own index y2 ∈ lw_good) (hi : Cond.static y2 ∈ lw_good) (hR : f2 + 1 ≤ R.frames ∧ 8 + (L2 + 11) + lo2 ≤ R.locals) (hcs : cells + mc2 ≤ R.cells ∧ slots + ms2 ≤ R.slots) (hcs2 : cells + mc2 ≤ mc ∧ slots + ms2 ≤ ms)
    (As : List Value) (hn : As.length = n2) (hrm : (rest.map fun v => v.category).sum ≤ 8) (hP : va_P (gD Γ) gcls (lay Γ g) H) (hS : va_S (gA Γ) s.heap H locs) (hlz : ls.size = nL) (hdg : decode cc pc = .ok (.invokestatic index, 3))
    {X : Option ((Unit ⊕ Nat) × gG)} {F : Unit → gG → Option ((β ⊕ Nat) × gG)} {z : (β ⊕ Nat) × gG} (h : gXb X F = some z) (hM : ∀ u, X = some u → gXv l y2 b2 L2 ret2 f2 lo2 mc2 ms2 Γ As g u)
    (kk : ∀ (g1 : gG) (H1 : Heap) (locs1 : List Loc), F () g1 = some z → va_P (gD Γ) gcls (lay Γ g1) H1 → va_S (gA Γ) s.heap H1 locs1 → W p l e R s m args below meth c H1 locs1 (cells + mc2) (slots + ms2) (vx_MQ below Qc (gXC Γ z) args s mc ms (gA Γ)) (F0 m (pc + 3) ls rest)) {st0 : List Value} (hst : st0 = As.reverse ++ rest) : W p l e R s m args below meth c H locs cells slots (vx_MQ below Qc (gXC Γ z) args s mc ms (gA Γ)) (F0 m pc ls st0) := by
  obtain ⟨hx, hb, hml, hr, hown, hts, hK, hlk, hX⟩ := C0
  obtain ⟨u, hu, h⟩ := gXbE h
  subst hst
  refine vx_callv (vx_runS (As := As) (rest := rest) ⟨hx, hb, hml, hown, hts⟩ (hM u hu) ⟨gCalX hts hcal hw hR, hts _ hi⟩ (gPre hX hK hP hS) rfl hn hlz rfl (lv_room hrm) hdg hcs) hS (fun q _ h => h) (fun q h => h) (fun q _ h => h) ?_ ?_
  · intro E ce q9 u9 t H1 locs1 ht hvm _ hB hz1 hk1 hS1 hce hcv hcl
    subst ht
    obtain ⟨⟨n, e1, e2⟩, hP1⟩ := hB
    rcases h with ⟨r, e3, h⟩ | ⟨n', e3, h⟩
    · rw [e1] at e3; cases e3
    · rw [e1] at e3; cases e3
      exact vx_out (fun x hx9 => (hE x hx9).elim) hlk hce hcv hcl (fun t2 ht2 _ => gXC_of (congrArg some h.symm) e2 hP1 hS1 t2 (by rw [ht2]; exact Nat.le_refl _) (fun q _ => by rw [ht2])) hS1.2.2 hcs2.1 hcs2.2
  · intro u9 t H1 locs1 ht hvm hw9 hB hz1 hk1 hS1
    subst ht
    rcases h with ⟨r, e3, h⟩ | ⟨n', e3, h⟩
    · exact kk u.2 t.heap locs1 h hB hS1
    · rw [hw9] at e3; cases e3
end GX
theorem gat_1 : ∀ w ∈ (vx_atS RX9 81 "java/lang/IllegalArgumentException" gNms).filter goodWord, w ∈ lw_good := by
  have h : ((vx_atS RX9 81 "java/lang/IllegalArgumentException" gNms).filter goodWord).all (fun w => decide (w ∈ lw_tbl)) = true := by decide +kernel
  intro w hw
  exact List.mem_filter.mpr ⟨of_decide_eq_true (List.all_eq_true.mp h w hw), (List.mem_filter.mp hw).2⟩
theorem gbd_1 : ∀ w ∈ (vx_atS RX9 81 "java/lang/IllegalArgumentException" gNms).filter (fun w => !goodWord w), w ∈ gBad := by decide +kernel
theorem got_1 : ∀ w ∈ Cond.classLink RX9 77 "java/lang/IllegalArgumentException" :: Cond.initialized "java/lang/IllegalArgumentException" :: vx_atS RX9 81 "java/lang/IllegalArgumentException" gNms, vx_ot w = true := by decide +kernel
theorem gth_1 {is : Nat} {text : String} (h : (RX9, is, text) ∈ gStrs) : gTh 77 is 81 "java/lang/IllegalArgumentException" text := ⟨by decide +kernel, wm 627 (by decide +kernel) (by decide +kernel), wm 48 (by decide +kernel) (by decide +kernel), h, gat_1, gbd_1, got_1⟩
theorem gat_2 : ∀ w ∈ (vx_atS RX9 92 "java/lang/IllegalStateException" gNms).filter goodWord, w ∈ lw_good := by
  have h : ((vx_atS RX9 92 "java/lang/IllegalStateException" gNms).filter goodWord).all (fun w => decide (w ∈ lw_tbl)) = true := by decide +kernel
  intro w hw
  exact List.mem_filter.mpr ⟨of_decide_eq_true (List.all_eq_true.mp h w hw), (List.mem_filter.mp hw).2⟩
theorem gbd_2 : ∀ w ∈ (vx_atS RX9 92 "java/lang/IllegalStateException" gNms).filter (fun w => !goodWord w), w ∈ gBad := by decide +kernel
theorem got_2 : ∀ w ∈ Cond.classLink RX9 88 "java/lang/IllegalStateException" :: Cond.initialized "java/lang/IllegalStateException" :: vx_atS RX9 92 "java/lang/IllegalStateException" gNms, vx_ot w = true := by decide +kernel
theorem gth_2 {is : Nat} {text : String} (h : (RX9, is, text) ∈ gStrs) : gTh 88 is 92 "java/lang/IllegalStateException" text := ⟨by decide +kernel, wm 409 (by decide +kernel) (by decide +kernel), wm 51 (by decide +kernel) (by decide +kernel), h, gat_2, gbd_2, got_2⟩
theorem gat_3 : ∀ w ∈ (vx_atS RX9 317 "java/lang/IndexOutOfBoundsException" gNms).filter goodWord, w ∈ lw_good := by
  have h : ((vx_atS RX9 317 "java/lang/IndexOutOfBoundsException" gNms).filter goodWord).all (fun w => decide (w ∈ lw_tbl)) = true := by decide +kernel
  intro w hw
  exact List.mem_filter.mpr ⟨of_decide_eq_true (List.all_eq_true.mp h w hw), (List.mem_filter.mp hw).2⟩
theorem gbd_3 : ∀ w ∈ (vx_atS RX9 317 "java/lang/IndexOutOfBoundsException" gNms).filter (fun w => !goodWord w), w ∈ gBad := by decide +kernel
theorem got_3 : ∀ w ∈ Cond.classLink RX9 313 "java/lang/IndexOutOfBoundsException" :: Cond.initialized "java/lang/IndexOutOfBoundsException" :: vx_atS RX9 317 "java/lang/IndexOutOfBoundsException" gNms, vx_ot w = true := by decide +kernel
theorem gth_3 {is : Nat} {text : String} (h : (RX9, is, text) ∈ gStrs) : gTh 313 is 317 "java/lang/IndexOutOfBoundsException" text := ⟨by decide +kernel, wm 521 (by decide +kernel) (by decide +kernel), wm 49 (by decide +kernel) (by decide +kernel), h, gat_3, gbd_3, got_3⟩
