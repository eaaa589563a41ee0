/-! MY ROWS for the law's own methods, which catch. -/
def gXh {α β : Type} (X : Option ((α ⊕ Nat) × gG)) (F : α → gG → Option β) (G : Nat → gG → Option β) : Option β := X.bind (fun u => match u.1 with | .inl r => F r u.2 | .inr n => G n u.2)
theorem gXhE {α β : Type} {X : Option ((α ⊕ Nat) × gG)} {F : α → gG → Option β} {G : Nat → gG → Option β} {z : β} (h : gXh X F G = some z) : ∃ u, X = some u ∧ ((∃ r, u.1 = .inl r ∧ F r u.2 = some z) ∨ ∃ n, u.1 = .inr n ∧ G n u.2 = some z) := by
  obtain ⟨u, hu, h⟩ := gOb h
  refine ⟨u, hu, ?_⟩
  obtain ⟨r | n, g1⟩ := u
  · exact Or.inl ⟨r, rfl, h⟩
  · exact Or.inr ⟨n, rfl, h⟩
def gHi (l : Launch) (y : MethodName) (cc : ByteArray) (maxL : Nat) (ret : Option FieldType) (hh : List (Nat × Nat × Nat × Nat)) (f lo mc ms : Nat) (Γ : gE) (av : List Value) (g : gG) (z : Int32 × gG) : Prop := Met l y (Cond.codeWith y cc maxL ret hh :: lw_good) (gRx f lo mc ms) (va_Pc av (gI Γ g)) (gQi Γ z) mc ms (gA Γ)
theorem gStartH {l : Launch} {y : MethodName} {cc : ByteArray} {maxL : Nat} {ret : Option FieldType} {hh : List (Nat × Nat × Nat × Nat)} {rm : Room} {Γ : gE} {av : List Value} {g : gG} {Qc : Array Value → State → Outcome → State → Prop} {mc ms : Nat} {own : String}
    (hy : plainName y.cls = true) (ho : y.cls = own) (hlen : (lg_sl av).length ≤ maxL)
    (body : ∀ {p : Program} {e : Env} {s : State} {m : MethodId} {below : List Frame} {meth : Method} {c : Code}, gCx p s m av.toArray meth c Γ own cc maxL ret → c.exceptionTable.toList = tableOf hh → ∀ ls : Array Slot, lv_has ls maxL (lv_args 0 av) → va_P (gD Γ) gcls (lay Γ g) s.heap →
      W p l e rm s m av.toArray below meth c s.heap [] 0 0 (MQ below Qc av.toArray s mc ms (gA Γ)) (F0 m 0 ls [])) : Met l y (Cond.codeWith y cc maxL ret hh :: lw_good) rm (va_Pc av (gI Γ g)) Qc mc ms (gA Γ) := by
  refine va_MetW (cc := cc) (maxL := maxL) (ret := ret) (hh := hh) hy rfl ?_
  intro p e s m args below meth c s₁ B hml hv
  obtain ⟨rfl, hP, hK, hX⟩ := hv
  have hts := atoms_spec (ws := Cond.codeWith y cc maxL ret hh :: lw_good) B.pre
  have hown : s.vm.findClass own = some m.cls := ho ▸ findClass_of_methodNamed B.named
  have hl := lv_entry av (n := maxL) hlen
  have hT := vx_table (x := y) B (hts _ List.mem_cons_self)
  rw [lg_entry_eq]
  exact body ⟨B.exec, B.bytes, hml, B.returns, hown, fun w hw => hts w (List.mem_cons_of_mem _ hw), hK, B.notSynchronized, hX⟩ hT _ hl hP
section GH
variable {p : Program} {l : Launch} {e : Env} {R : Room} {s : State} {m : MethodId} {args : Array Value} {below : List Frame} {meth : Method} {c : Code} {H : Heap} {locs : List Loc} {cells slots : Nat} {Q : State → Prop}
variable {cc : ByteArray} {pc : Nat} {ls : Array Slot} {rest : List Value} {Γ : gE} {g : gG} {β : Type} {mc ms : Nat}
theorem gHV {nL : Nat} {ret : Option FieldType} {own : String} (C0 : gCx p s m args meth c Γ own cc nL ret) {y2 : MethodName} {b2 : ByteArray} {L2 n2 f2 lo2 mc2 ms2 index : Nat} {ret2 : Option FieldType} (hcal : gCal y2 b2 L2 ret2 n2) (hw : Cond.methodLink own index y2 ∈ lw_good) (hi : Cond.instanceMethod y2 ∈ lw_good) (hse : Cond.selects y2.cls y2 y2 ∈ lw_good) (hR : f2 + 1 ≤ R.frames ∧ 8 + (L2 + 11) + lo2 ≤ R.locals) (hcs : cells + mc2 ≤ R.cells ∧ slots + ms2 ≤ R.slots)
    {k : Nat} (hv : gRv k y2.cls) (As : List Value) (hn : As.length = n2) (hrm : (rest.map fun v => v.category).sum ≤ 8) (hP : va_P (gD Γ) gcls (lay Γ g) H) (hS : va_S (gA Γ) s.heap H locs) (hlz : ls.size = nL) (hdg : decode cc pc = .ok (.invokevirtual index, 3))
    {X : Option ((Int32 ⊕ Nat) × gG)} {F : Int32 → gG → Option β} {G : Nat → gG → Option β} {z : β} (h : gXh X F G = some z) (hM : ∀ u, X = some u → gXi l y2 b2 L2 ret2 f2 lo2 mc2 ms2 Γ (.ref (gB Γ + k) :: As) g u)
    (kx : ∀ (n : Nat) (g1 : gG) (H1 : Heap) (locs1 : List Loc) (q9 : Addr) (ce : Cell), G n g1 = some z → va_P (gD Γ) gcls (lay Γ g1) H1 → va_S (gA Γ) s.heap H1 locs1 → H1[q9]? = some ce → ce.vm = .none → s.vm.findClass (gEx n) = some ce.cls → vx_W p l e R s m args below meth c H1 locs1 (cells + mc2) (slots + ms2) Q (F0 m pc ls rest) q9)
    (kk : ∀ (r : Int32) (g1 : gG) (H1 : Heap) (locs1 : List Loc), F r g1 = some z → va_P (gD Γ) gcls (lay Γ g1) H1 → va_S (gA Γ) s.heap H1 locs1 → W p l e R s m args below meth c H1 locs1 (cells + mc2) (slots + ms2) Q (F0 m (pc + 3) ls (.int r :: rest))) {st0 : List Value} (hst : st0 = As.reverse ++ .ref (gB Γ + k) :: rest) : W p l e R s m args below meth c H locs cells slots Q (F0 m pc ls st0) := by
  obtain ⟨hx, hb, hml, hr, hown, hts, hK, hlk, hX⟩ := C0
  obtain ⟨u, hu, h⟩ := gXhE h
  subst hst
  refine vx_calli (vx_runV (As := As) (rest := rest) ⟨hx, hb, hml, hown, hts⟩ (hM u hu) (C := y2.cls) ⟨gCalX hts hcal hw hR, hts _ hi, hts _ hse⟩ (gPreV hv hX hK hP hS) rfl hn hlz rfl (lv_room hrm) hdg hcs) hS (fun q _ h => h) (fun q h => h) (fun q _ h => h) ?_ ?_
  · intro E ce q9 u9 t H1 locs1 ht hvm _ hB hz1 hk1 hS1 hce hcv hcl
    subst ht
    obtain ⟨⟨n, e1, e2⟩, hP1⟩ := hB
    rcases h with ⟨r, e3, h⟩ | ⟨n', e3, h⟩
    · rw [e1] at e3; cases e3
    · rw [e1] at e3; cases e3
      exact kx n u.2 t.heap locs1 q9 ce h hP1 hS1 hce hcv (by rw [e2]; exact hcl)
  · intro r9 u9 t H1 locs1 ht hvm hw9 hB hz1 hk1 hS1
    subst ht
    rcases h with ⟨r, e3, h⟩ | ⟨n', e3, h⟩
    · rw [hw9] at e3; cases e3
      exact kk r9 u.2 t.heap locs1 h hB hS1
    · rw [hw9] at e3; cases e3
theorem giretW {z : Int32 × gG} (hx : p.tables.exec = Jvm.exec) (hb : c.code = cc) (hr : meth.sig.returnType = some .int) (hlk : meth.locks = false) (hP : va_P (gD Γ) gcls (lay Γ g) H) (hS : va_S (gA Γ) s.heap H locs) {v : Int32} (hc : cells ≤ mc) (hs : slots ≤ ms) (hdg : decode cc pc = .ok (.ireturn, 1)) (h : some (v, g) = some z) : W p l e R s m args below meth c H locs cells slots (MQ below (gQi Γ z) args s mc ms (gA Γ)) (F0 m pc ls [.int v]) :=
  W.widen hc hs (giret hx hb hr hlk hP hS hdg h)
/-- the first handler, or the second -/
theorem gCatch1 {own : String} {n : Nat} {hh : List (Nat × Nat × Nat × Nat)} {st en ha ty : Nat} {ce : Cell} {q : Addr} (hown : s.vm.findClass own = some m.cls) (hts : ∀ w ∈ lw_good, w.before args s = true) (hX : gX Γ s s.heap) (hT : c.exceptionTable.toList = tableOf ((st, en, ha, ty) :: hh)) (hcov : covers ⟨st, en, ha, ty⟩ pc = true) (hty : ty ≠ 0) (hw : Cond.classLink own ty (gEx n) ∈ lw_good) (hn : gEx n ∈ gExs) (hce : H[q]? = some ce) (hv : ce.vm = .none) (hcl : s.vm.findClass (gEx n) = some ce.cls)
    (kk : W p l e R s m args below meth c H locs cells slots Q (F0 m ha ls [.ref q])) : vx_W p l e R s m args below meth c H locs cells slots Q (F0 m pc ls rest) q :=
  vx_catch (x := ⟨st, en, ha, ty⟩) hown [] (suf := tableOf hh) hT (fun z hz => by cases hz) hcov hty (hts _ hw) (va_Nw.use rfl (hX.2.2.2.2.2.2.2.1 _ hn)) hce hv hcl kk
theorem gCatch2 {own : String} {n n1 : Nat} {hh : List (Nat × Nat × Nat × Nat)} {st en ha ty st1 en1 ha1 ty1 : Nat} {ce : Cell} {q : Addr} (hown : s.vm.findClass own = some m.cls) (hts : ∀ w ∈ lw_good, w.before args s = true) (hX : gX Γ s s.heap) (hT : c.exceptionTable.toList = tableOf ((st1, en1, ha1, ty1) :: (st, en, ha, ty) :: hh)) (hty1 : ty1 ≠ 0) (hw1 : Cond.classLink own ty1 (gEx n1) ∈ lw_good) (hnc : (gEx n, gEx n1) ∈ gNcs) (hcov : covers ⟨st, en, ha, ty⟩ pc = true) (hty : ty ≠ 0) (hw : Cond.classLink own ty (gEx n) ∈ lw_good) (hn : gEx n ∈ gExs) (hce : H[q]? = some ce) (hv : ce.vm = .none) (hcl : s.vm.findClass (gEx n) = some ce.cls)
    (kk : W p l e R s m args below meth c H locs cells slots Q (F0 m ha ls [.ref q])) : vx_W p l e R s m args below meth c H locs cells slots Q (F0 m pc ls rest) q :=
  vx_catch (x := ⟨st, en, ha, ty⟩) hown [⟨st1, en1, ha1, ty1⟩] (suf := tableOf hh) hT (fun z hz => by rcases List.mem_singleton.mp hz with rfl; exact Or.inr ⟨hty1, _, hts _ hw1, hX.2.2.2.2.2.2.2.2 _ hnc⟩) hcov hty (hts _ hw) (va_Nw.use rfl (hX.2.2.2.2.2.2.2.1 _ hn)) hce hv hcl kk
end GH
/-! MY ROWS for the law's own methods with long answers, and for those that call them. -/
def gHl (l : Launch) (y : MethodName) (cc : ByteArray) (maxL : Nat) (ret : Option FieldType) (hh : List (Nat × Nat × Nat × Nat)) (f lo mc ms : Nat) (Γ : gE) (av : List Value) (g : gG) (z : Int64 × gG) : Prop := Met l y (Cond.codeWith y cc maxL ret hh :: lw_good) (gRx f lo mc ms) (va_Pc av (gI Γ g)) (gQl Γ z) mc ms (gA Γ)
def gCi (l : Launch) (y : MethodName) (cc : ByteArray) (maxL : Nat) (ret : Option FieldType) (f lo mc ms : Nat) (Γ : gE) (av : List Value) (g : gG) (z : Int32 × gG) : Prop := Met l y (Cond.code y cc maxL ret :: lw_good) (gRx f lo mc ms) (va_Pc av (gI Γ g)) (gQi Γ z) mc ms (gA Γ)
def gCl (l : Launch) (y : MethodName) (cc : ByteArray) (maxL : Nat) (ret : Option FieldType) (f lo mc ms : Nat) (Γ : gE) (av : List Value) (g : gG) (z : Int64 × gG) : Prop := Met l y (Cond.code y cc maxL ret :: lw_good) (gRx f lo mc ms) (va_Pc av (gI Γ g)) (gQl Γ z) mc ms (gA Γ)
theorem gRcl {f lo mc ms x : Nat} (h : x ≤ mc) : x ≤ (gRx f lo mc ms).cells := h
theorem gRsl {f lo mc ms x : Nat} (h : x ≤ ms) : x ≤ (gRx f lo mc ms).slots := h
theorem gStartC {l : Launch} {y : MethodName} {cc : ByteArray} {maxL : Nat} {ret : Option FieldType} {rm : Room} {Γ : gE} {av : List Value} {g : gG} {Qc : Array Value → State → Outcome → State → Prop} {mc ms : Nat} {own : String}
    (hy : plainName y.cls = true) (ho : y.cls = own) (hlen : (lg_sl av).length ≤ maxL)
    (body : ∀ {p : Program} {e : Env} {s : State} {m : MethodId} {below : List Frame} {meth : Method} {c : Code}, gCx p s m av.toArray meth c Γ own cc maxL ret → ∀ ls : Array Slot, lv_has ls maxL (lv_args 0 av) → va_P (gD Γ) gcls (lay Γ g) s.heap →
      W p l e rm s m av.toArray below meth c s.heap [] 0 0 (MQ below Qc av.toArray s mc ms (gA Γ)) (F0 m 0 ls [])) : Met l y (Cond.code y cc maxL ret :: lw_good) rm (va_Pc av (gI Γ g)) Qc mc ms (gA Γ) := by
  refine Met.ofW (cc := cc) (maxL := maxL) (ret := ret) hy rfl ?_
  intro p e s m args below meth c s₁ B hml hv
  obtain ⟨rfl, hP, hK, hX⟩ := hv
  have hts := atoms_spec (ws := Cond.code y cc maxL ret :: lw_good) B.pre
  have hown : s.vm.findClass own = some m.cls := ho ▸ findClass_of_methodNamed B.named
  have hl := lv_entry av (n := maxL) hlen
  rw [lg_entry_eq]
  exact body ⟨B.exec, B.bytes, hml, B.returns, hown, fun w hw => hts w (List.mem_cons_of_mem _ hw), hK, B.notSynchronized, hX⟩ _ hl hP
section GJ
variable {p : Program} {l : Launch} {e : Env} {R : Room} {s : State} {m : MethodId} {args : Array Value} {below : List Frame} {meth : Method} {c : Code} {H : Heap} {locs : List Loc} {cells slots : Nat} {Q : State → Prop}
variable {cc : ByteArray} {pc : Nat} {ls : Array Slot} {rest : List Value} {Γ : gE} {g : gG} {Z : Type} {mc ms : Nat}
theorem glretW {z : Int64 × gG} (hx : p.tables.exec = Jvm.exec) (hb : c.code = cc) (hr : meth.sig.returnType = some .long) (hlk : meth.locks = false) (hP : va_P (gD Γ) gcls (lay Γ g) H) (hS : va_S (gA Γ) s.heap H locs) {v : Int64} (hc : cells ≤ mc) (hs : slots ≤ ms) (hdg : decode cc pc = .ok (.lreturn, 1)) (h : some (v, g) = some z) : W p l e R s m args below meth c H locs cells slots (MQ below (gQl Γ z) args s mc ms (gA Γ)) (F0 m pc ls [.long v]) :=
  W.widen hc hs (glret hx hb hr hlk hP hS hdg h)
theorem gCHi {nL : Nat} {ret : Option FieldType} {own : String} (C0 : gCx p s m args meth c Γ own cc nL ret) {y2 : MethodName} {b2 : ByteArray} {L2 n2 f2 lo2 mc2 ms2 index : Nat} {ret2 : Option FieldType} {hh : List (Nat × Nat × Nat × Nat)} (hcode : Cond.codeWith y2 b2 L2 ret2 hh ∈ lw_good) (hini : Cond.initialized y2.cls ∈ lw_good) (hd : y2.cls ≠ "java/lang/invoke/MethodHandle" ∧ y2.cls ≠ "java/lang/invoke/VarHandle" ∧ (parseMethodDescriptor y2.desc).map (fun d => d.parameters.length) = some n2) (hw : Cond.methodLink own index y2 ∈ lw_good) (hi : Cond.static y2 ∈ lw_good) (hR : f2 + 1 ≤ R.frames ∧ 8 + (L2 + 11) + lo2 ≤ R.locals) (hcs : cells + mc2 ≤ R.cells ∧ slots + ms2 ≤ R.slots)
    (As : List Value) (hn : As.length = n2) (hrm : (rest.map fun v => v.category).sum ≤ 8) (hP : va_P (gD Γ) gcls (lay Γ g) H) (hS : va_S (gA Γ) s.heap H locs) (hlz : ls.size = nL) (hdg : decode cc pc = .ok (.invokestatic index, 3))
    {X : Option (Int32 × gG)} {F : Int32 × gG → Option Z} {z : Z} (h : X.bind F = some z) (hM : ∀ u, X = some u → gHi l y2 b2 L2 ret2 hh f2 lo2 mc2 ms2 Γ As g u)
    (kk : ∀ (u : Int32 × gG) (H1 : Heap) (locs1 : List Loc), F u = some z → va_P (gD Γ) gcls (lay Γ u.2) H1 → va_S (gA Γ) s.heap H1 locs1 → W p l e R s m args below meth c H1 locs1 (cells + mc2) (slots + ms2) Q (F0 m (pc + 3) ls (.int u.1 :: rest))) {st0 : List Value} (hst : st0 = As.reverse ++ rest) : W p l e R s m args below meth c H locs cells slots Q (F0 m pc ls st0) := by
  obtain ⟨hx, hb, hml, hr, hown, hts, hK, hlk, hX⟩ := C0
  obtain ⟨u, hu, h⟩ := gOb h
  subst hst
  have hc0 : Cond.codeWith y2 b2 L2 ret2 hh ∈ Cond.codeWith y2 b2 L2 ret2 hh :: lw_good := List.mem_cons_self
  have cw : vx_CSW R s args own index y2 b2 L2 ret2 hh (Cond.codeWith y2 b2 L2 ret2 hh :: lw_good) (gRx f2 lo2 mc2 ms2) mc2 ms2 n2 := by
    refine ⟨⟨rfl, rfl, hR.1, hR.2, pay_in hts (lw_goodIn hcode (fun _ h => h)), hc0⟩, hts _ hcode, hts _ hini, ⟨hd.1, hd.2.1⟩, fun sig h => ?_, hts _ hw, hts _ hi⟩
    have h2 := hd.2.2
    rw [h] at h2
    exact (Option.some.inj h2).symm
  refine va_calli (vx_runSW (As := As) (rest := rest) ⟨hx, hb, hml, hown, hts⟩ (hM u hu) cw (gPre hX hK hP hS) rfl hn hlz rfl (lv_room hrm) hdg hcs) hS (fun q _ h => h) (fun q h => h) (fun r u1 t H1 locs1 ht hvm hw hB hz1 hk1 hS1 => ?_)
  rw [← ht] at hS1 ⊢
  have e1 : r = u.1 := hw
  subst e1
  exact kk u t.heap locs1 h hB hS1
theorem gCKi {nL : Nat} {ret : Option FieldType} {own : String} (C0 : gCx p s m args meth c Γ own cc nL ret) {y2 : MethodName} {b2 : ByteArray} {L2 n2 f2 lo2 mc2 ms2 index : Nat} {ret2 : Option FieldType} (hcal : gCal y2 b2 L2 ret2 n2) (hw : Cond.methodLink own index y2 ∈ lw_good) (hi : Cond.static y2 ∈ lw_good) (hR : f2 + 1 ≤ R.frames ∧ 8 + (L2 + 11) + lo2 ≤ R.locals) (hcs : cells + mc2 ≤ R.cells ∧ slots + ms2 ≤ R.slots)
    (As : List Value) (hn : As.length = n2) (hrm : (rest.map fun v => v.category).sum ≤ 8) (hP : va_P (gD Γ) gcls (lay Γ g) H) (hS : va_S (gA Γ) s.heap H locs) (hlz : ls.size = nL) (hdg : decode cc pc = .ok (.invokestatic index, 3))
    {X : Option (Int32 × gG)} {F : Int32 × gG → Option Z} {z : Z} (h : X.bind F = some z) (hM : ∀ u, X = some u → gCi l y2 b2 L2 ret2 f2 lo2 mc2 ms2 Γ As g u)
    (kk : ∀ (u : Int32 × gG) (H1 : Heap) (locs1 : List Loc), F u = some z → va_P (gD Γ) gcls (lay Γ u.2) H1 → va_S (gA Γ) s.heap H1 locs1 → W p l e R s m args below meth c H1 locs1 (cells + mc2) (slots + ms2) Q (F0 m (pc + 3) ls (.int u.1 :: rest))) {st0 : List Value} (hst : st0 = As.reverse ++ rest) : W p l e R s m args below meth c H locs cells slots Q (F0 m pc ls st0) := by
  obtain ⟨hx, hb, hml, hr, hown, hts, hK, hlk, hX⟩ := C0
  obtain ⟨u, hu, h⟩ := gOb h
  subst hst
  refine va_calli (va_runS (As := As) (rest := rest) ⟨hx, hb, hml, hown, hts⟩ (hM u hu) ⟨gCalX hts hcal hw hR, hts _ hi⟩ (gPre hX hK hP hS) rfl hn hlz rfl (lv_room hrm) hdg hcs) hS (fun q _ h => h) (fun q h => h) (fun r u1 t H1 locs1 ht hvm hw hB hz1 hk1 hS1 => ?_)
  rw [← ht] at hS1 ⊢
  have e1 : r = u.1 := hw
  subst e1
  exact kk u t.heap locs1 h hB hS1
theorem gCHl {nL : Nat} {ret : Option FieldType} {own : String} (C0 : gCx p s m args meth c Γ own cc nL ret) {y2 : MethodName} {b2 : ByteArray} {L2 n2 f2 lo2 mc2 ms2 index : Nat} {ret2 : Option FieldType} {hh : List (Nat × Nat × Nat × Nat)} (hcode : Cond.codeWith y2 b2 L2 ret2 hh ∈ lw_good) (hini : Cond.initialized y2.cls ∈ lw_good) (hd : y2.cls ≠ "java/lang/invoke/MethodHandle" ∧ y2.cls ≠ "java/lang/invoke/VarHandle" ∧ (parseMethodDescriptor y2.desc).map (fun d => d.parameters.length) = some n2) (hw : Cond.methodLink own index y2 ∈ lw_good) (hi : Cond.static y2 ∈ lw_good) (hR : f2 + 1 ≤ R.frames ∧ 8 + (L2 + 11) + lo2 ≤ R.locals) (hcs : cells + mc2 ≤ R.cells ∧ slots + ms2 ≤ R.slots)
    (As : List Value) (hn : As.length = n2) (hrm : (rest.map fun v => v.category).sum ≤ 8) (hP : va_P (gD Γ) gcls (lay Γ g) H) (hS : va_S (gA Γ) s.heap H locs) (hlz : ls.size = nL) (hdg : decode cc pc = .ok (.invokestatic index, 3))
    {X : Option (Int64 × gG)} {F : Int64 × gG → Option Z} {z : Z} (h : X.bind F = some z) (hM : ∀ u, X = some u → gHl l y2 b2 L2 ret2 hh f2 lo2 mc2 ms2 Γ As g u)
    (kk : ∀ (u : Int64 × gG) (H1 : Heap) (locs1 : List Loc), F u = some z → va_P (gD Γ) gcls (lay Γ u.2) H1 → va_S (gA Γ) s.heap H1 locs1 → W p l e R s m args below meth c H1 locs1 (cells + mc2) (slots + ms2) Q (F0 m (pc + 3) ls (.long u.1 :: rest))) {st0 : List Value} (hst : st0 = As.reverse ++ rest) : W p l e R s m args below meth c H locs cells slots Q (F0 m pc ls st0) := by
  obtain ⟨hx, hb, hml, hr, hown, hts, hK, hlk, hX⟩ := C0
  obtain ⟨u, hu, h⟩ := gOb h
  subst hst
  have hc0 : Cond.codeWith y2 b2 L2 ret2 hh ∈ Cond.codeWith y2 b2 L2 ret2 hh :: lw_good := List.mem_cons_self
  have cw : vx_CSW R s args own index y2 b2 L2 ret2 hh (Cond.codeWith y2 b2 L2 ret2 hh :: lw_good) (gRx f2 lo2 mc2 ms2) mc2 ms2 n2 := by
    refine ⟨⟨rfl, rfl, hR.1, hR.2, pay_in hts (lw_goodIn hcode (fun _ h => h)), hc0⟩, hts _ hcode, hts _ hini, ⟨hd.1, hd.2.1⟩, fun sig h => ?_, hts _ hw, hts _ hi⟩
    have h2 := hd.2.2
    rw [h] at h2
    exact (Option.some.inj h2).symm
  refine va_calll (vx_runSW (As := As) (rest := rest) ⟨hx, hb, hml, hown, hts⟩ (hM u hu) cw (gPre hX hK hP hS) rfl hn hlz rfl (lv_room hrm) hdg hcs) hS (fun q _ h => h) (fun q h => h) (fun r u1 t H1 locs1 ht hvm hw hB hz1 hk1 hS1 => ?_)
  rw [← ht] at hS1 ⊢
  have e1 : r = u.1 := hw
  subst e1
  exact kk u t.heap locs1 h hB hS1
theorem gCKl {nL : Nat} {ret : Option FieldType} {own : String} (C0 : gCx p s m args meth c Γ own cc nL ret) {y2 : MethodName} {b2 : ByteArray} {L2 n2 f2 lo2 mc2 ms2 index : Nat} {ret2 : Option FieldType} (hcal : gCal y2 b2 L2 ret2 n2) (hw : Cond.methodLink own index y2 ∈ lw_good) (hi : Cond.static y2 ∈ lw_good) (hR : f2 + 1 ≤ R.frames ∧ 8 + (L2 + 11) + lo2 ≤ R.locals) (hcs : cells + mc2 ≤ R.cells ∧ slots + ms2 ≤ R.slots)
    (As : List Value) (hn : As.length = n2) (hrm : (rest.map fun v => v.category).sum ≤ 8) (hP : va_P (gD Γ) gcls (lay Γ g) H) (hS : va_S (gA Γ) s.heap H locs) (hlz : ls.size = nL) (hdg : decode cc pc = .ok (.invokestatic index, 3))
    {X : Option (Int64 × gG)} {F : Int64 × gG → Option Z} {z : Z} (h : X.bind F = some z) (hM : ∀ u, X = some u → gCl l y2 b2 L2 ret2 f2 lo2 mc2 ms2 Γ As g u)
    (kk : ∀ (u : Int64 × gG) (H1 : Heap) (locs1 : List Loc), F u = some z → va_P (gD Γ) gcls (lay Γ u.2) H1 → va_S (gA Γ) s.heap H1 locs1 → W p l e R s m args below meth c H1 locs1 (cells + mc2) (slots + ms2) Q (F0 m (pc + 3) ls (.long u.1 :: rest))) {st0 : List Value} (hst : st0 = As.reverse ++ rest) : W p l e R s m args below meth c H locs cells slots Q (F0 m pc ls st0) := by
  obtain ⟨hx, hb, hml, hr, hown, hts, hK, hlk, hX⟩ := C0
  obtain ⟨u, hu, h⟩ := gOb h
  subst hst
  refine va_calll (va_runS (As := As) (rest := rest) ⟨hx, hb, hml, hown, hts⟩ (hM u hu) ⟨gCalX hts hcal hw hR, hts _ hi⟩ (gPre hX hK hP hS) rfl hn hlz rfl (lv_room hrm) hdg hcs) hS (fun q _ h => h) (fun q h => h) (fun r u1 t H1 locs1 ht hvm hw hB hz1 hk1 hS1 => ?_)
  rw [← ht] at hS1 ⊢
  have e1 : r = u.1 := hw
  subst e1
  exact kk u t.heap locs1 h hB hS1
end GJ
