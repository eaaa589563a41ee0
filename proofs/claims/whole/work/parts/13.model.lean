theorem wl_X10_1 : Cond.methodLink RX10 1 Lib.objectInit ∈ lw_good := wm 1135 (by decide +kernel) (by decide +kernel)
def fs_X10_init_190 (F190 : Int32 → gG → Option (Unit × gG)) (l1 : Int32) (g : gG) : Option (Unit × gG) :=
  if (1024 : Int32) ≤ l1 then (some ((), g)) else ((f_X10_has l1 (0 : Int32) g).bind (fun u2 => (f_X10_put 183 394 (1 : Int32) l1 u2.1 u2.2).bind (fun u3 => gLet (l1 + (1 : Int32)) (fun x4 => F190 x4 u3.2))))
def fb_X10_init_190  : Nat → Int32 → gG → Option (Unit × gG)
  | 0 => fun _ _ => none
  | n + 1 => fs_X10_init_190 (fb_X10_init_190 n)
def fs_X10_init_166 (F166 : Int32 → gG → Option (Unit × gG)) (l1 : Int32) (g : gG) : Option (Unit × gG) :=
  if (32 : Int32) ≤ l1 then (fb_X10_init_190 gFuel (0 : Int32) g) else (if inb ((22 : Int32) + l1) 394 = true then gLet (gI1 g 183 ((22 : Int32) + l1).toNatClampNeg (-1 : Int32)) (fun g2 => gLet (l1 + (1 : Int32)) (fun x3 => F166 x3 g2)) else none)
def fb_X10_init_166  : Nat → Int32 → gG → Option (Unit × gG)
  | 0 => fun _ _ => none
  | n + 1 => fs_X10_init_166 (fb_X10_init_166 n)
def ft_X10_init (g : gG) : Option (Unit × gG) :=
  if inb (0 : Int32) 394 = true then gLet (gI1 g 183 (0 : Int32).toNatClampNeg (2 : Int32)) (fun g1 => fb_X10_init_166 gFuel (0 : Int32) g1) else none
set_option maxHeartbeats 2000000 in
set_option maxRecDepth 20000 in
theorem bs_X10_init_190 {p : Program} {l : Launch} {e : Env} {s : State} {m : MethodId} {args : Array Value} {below : List Frame} {meth : Method} {c : Code} {Γ : gE} (C0 : gCx p s m args meth c Γ RX10 cX10_init 2 none)   {z : Unit × gG} {F190 : Int32 → gG → Option (Unit × gG)} {l1 : Int32} {g : gG} {H : Heap} {locs : List Loc} {ls : Array Slot} (hF190 : ∀ (l1 : Int32) (g : gG) (H : Heap) (locs : List Loc) (ls : Array Slot), F190 l1 g = some z → va_P (gD Γ) gcls (lay Γ g) H → va_S (gA Γ) s.heap H locs → lv_has ls 2 [(0, .ref (gB Γ + 174)), (1, .int l1)] → W p l e (gRx 1 25 18 16020) s m args below meth c H locs 18 16020 (MQ below (gQv Γ z) args s 18 16020 (gA Γ)) (F0 m 190 ls [])) (h : fs_X10_init_190 F190 l1 g = some z) (hP : va_P (gD Γ) gcls (lay Γ g) H) (hS : va_S (gA Γ) s.heap H locs) (hl : lv_has ls 2 [(0, .ref (gB Γ + 174)), (1, .int l1)]) : W p l e (gRx 1 25 18 16020) s m args below meth c H locs 18 16020 (MQ below (gQv Γ z) args s 18 16020 (gA Γ)) (F0 m 190 ls []) := by
  unfold fs_X10_init_190 at h
  obtain ⟨hx, hb, hml, hr, hown, hts, hK, hlk, hX⟩ := id C0
  refine lv_iload_n hx hb dX10_init_190 rfl (lv_at hl 1 rfl) ?_
  refine lv_sipush (v := 1024) hx hb dX10_init_191 (by decide) ?_
  refine lv_icmp_ge (tgt := 217) hx hb dX10_init_194 (by decide) (fun c1 => ?_) (fun c1 => ?_)
  · replace h := gpos c1 h
    exact gvret hx hb hr hlk hP hS dX10_init_217 h
  · replace h := gneg c1 h
    refine lv_aload_n hx hb dX10_init_197 rfl (lv_at hl 0 rfl) ?_
    refine gf_10_13 hx hb hown hts hK hP wf_X10_35 dX10_init_198 ?_
    refine lv_iconst (v := 1) hx hb dX10_init_201 (by decide) ?_
    refine lv_iload_n hx hb dX10_init_202 rfl (lv_at hl 1 rfl) ?_
    refine lv_iload_n hx hb dX10_init_203 rfl (lv_at hl 1 rfl) ?_
    refine lv_iconst (v := 0) hx hb dX10_init_204 (by decide) ?_
    refine gCSi (rest := [.int l1, .int (1 : Int32), .ref (gB Γ + 183)]) C0 cal_X10_has wl_X10_65 wt_X10_has ⟨Nat.le_of_ble_eq_true rfl, Nat.le_of_ble_eq_true rfl⟩ ⟨Nat.le_of_ble_eq_true rfl, Nat.le_of_ble_eq_true rfl⟩ [.int l1, .int (0 : Int32)] rfl (Nat.le_of_ble_eq_true rfl) hP hS hl.1 dX10_init_205 h (fun u hu => m_X10_has l Γ l1 (0 : Int32) g u hu) (fun u2 H locs h hP hS => ?_) rfl
    refine gCSv (rest := []) C0 cal_X10_put wl_X10_69 wt_X10_put ⟨Nat.le_of_ble_eq_true rfl, Nat.le_of_ble_eq_true rfl⟩ ⟨Nat.le_of_ble_eq_true rfl, Nat.le_of_ble_eq_true rfl⟩ [.ref (gB Γ + 183), .int (1 : Int32), .int l1, .int u2.1] rfl (Nat.le_of_ble_eq_true rfl) hP hS hl.1 dX10_init_208 h (fun u hu => m_X10_put l Γ is_183 (1 : Int32) l1 u2.1 u2.2 u hu) (fun u3 H locs h hP hS => ?_) rfl
    obtain ⟨x4, ex4⟩ : ∃ y : Int32, y = l1 + (1 : Int32) := ⟨_, rfl⟩
    replace h := gLetI ex4 h
    refine lv_iinc (v := x4) (lv' := [(1, .int x4), (0, .ref (gB Γ + 174))]) hx hb dX10_init_211 hl (k := 1) rfl (by rw [ex4]; rfl) (by decide) rfl (fun ls hl => ?_)
    refine lv_goto (tgt := 190) hx hb dX10_init_214 (by decide) ?_
    exact hF190 _ _ _ _ _ h hP hS (lv_sub hl [1, 0] rfl)
set_option maxHeartbeats 2000000 in
set_option maxRecDepth 20000 in
theorem bk_X10_init_190 {p : Program} {l : Launch} {e : Env} {s : State} {m : MethodId} {args : Array Value} {below : List Frame} {meth : Method} {c : Code} {Γ : gE} (C0 : gCx p s m args meth c Γ RX10 cX10_init 2 none)   {z : Unit × gG}   : ∀ (n : Nat) (l1 : Int32) (g : gG) (H : Heap) (locs : List Loc) (ls : Array Slot), fb_X10_init_190 n l1 g = some z → va_P (gD Γ) gcls (lay Γ g) H → va_S (gA Γ) s.heap H locs → lv_has ls 2 [(0, .ref (gB Γ + 174)), (1, .int l1)] → W p l e (gRx 1 25 18 16020) s m args below meth c H locs 18 16020 (MQ below (gQv Γ z) args s 18 16020 (gA Γ)) (F0 m 190 ls []) := by
  intro n
  induction n with
  | zero => intro l1 g H locs ls h hP hS hl; cases h
  | succ n ih => intro l1 g H locs ls h hP hS hl; exact bs_X10_init_190 C0  ih h hP hS hl
set_option maxHeartbeats 2000000 in
set_option maxRecDepth 20000 in
theorem bs_X10_init_166 {p : Program} {l : Launch} {e : Env} {s : State} {m : MethodId} {args : Array Value} {below : List Frame} {meth : Method} {c : Code} {Γ : gE} (C0 : gCx p s m args meth c Γ RX10 cX10_init 2 none)   {z : Unit × gG} {F166 : Int32 → gG → Option (Unit × gG)} {l1 : Int32} {g : gG} {H : Heap} {locs : List Loc} {ls : Array Slot} (hF166 : ∀ (l1 : Int32) (g : gG) (H : Heap) (locs : List Loc) (ls : Array Slot), F166 l1 g = some z → va_P (gD Γ) gcls (lay Γ g) H → va_S (gA Γ) s.heap H locs → lv_has ls 2 [(0, .ref (gB Γ + 174)), (1, .int l1)] → W p l e (gRx 1 25 18 16020) s m args below meth c H locs 18 16020 (MQ below (gQv Γ z) args s 18 16020 (gA Γ)) (F0 m 166 ls [])) (h : fs_X10_init_166 F166 l1 g = some z) (hP : va_P (gD Γ) gcls (lay Γ g) H) (hS : va_S (gA Γ) s.heap H locs) (hl : lv_has ls 2 [(0, .ref (gB Γ + 174)), (1, .int l1)]) : W p l e (gRx 1 25 18 16020) s m args below meth c H locs 18 16020 (MQ below (gQv Γ z) args s 18 16020 (gA Γ)) (F0 m 166 ls []) := by
  unfold fs_X10_init_166 at h
  obtain ⟨hx, hb, hml, hr, hown, hts, hK, hlk, hX⟩ := id C0
  refine lv_iload_n hx hb dX10_init_166 rfl (lv_at hl 1 rfl) ?_
  refine lv_bipush (v := 32) hx hb dX10_init_167 (by decide) ?_
  refine lv_icmp_ge (tgt := 188) hx hb dX10_init_169 (by decide) (fun c1 => ?_) (fun c1 => ?_)
  · replace h := gpos c1 h
    refine lv_iconst (v := 0) hx hb dX10_init_188 (by decide) ?_
    refine lv_istore_n (lv' := [(1, .int (0 : Int32)), (0, .ref (gB Γ + 174))]) hx hb dX10_init_189 rfl hl (by decide) rfl (fun ls hl => ?_)
    exact bk_X10_init_190 C0  gFuel _ _ _ _ _ h hP hS (lv_sub hl [1, 0] rfl)
  · replace h := gneg c1 h
    refine lv_aload_n hx hb dX10_init_172 rfl (lv_at hl 0 rfl) ?_
    refine gf_10_13 hx hb hown hts hK hP wf_X10_35 dX10_init_173 ?_
    refine lv_bipush (v := 22) hx hb dX10_init_176 (by decide) ?_
    refine lv_iload_n hx hb dX10_init_178 rfl (lv_at hl 1 rfl) ?_
    refine lv_iadd hx hb dX10_init_179 ?_
    refine lv_iconst (v := -1) hx hb dX10_init_180 (by decide) ?_
    refine gIst hx hb hK hP hS is_183 dX10_init_181 h (fun H locs g2 h hP hS => ?_)
    obtain ⟨x3, ex3⟩ : ∃ y : Int32, y = l1 + (1 : Int32) := ⟨_, rfl⟩
    replace h := gLetI ex3 h
    refine lv_iinc (v := x3) (lv' := [(1, .int x3), (0, .ref (gB Γ + 174))]) hx hb dX10_init_182 hl (k := 1) rfl (by rw [ex3]; rfl) (by decide) rfl (fun ls hl => ?_)
    refine lv_goto (tgt := 166) hx hb dX10_init_185 (by decide) ?_
    exact hF166 _ _ _ _ _ h hP hS (lv_sub hl [1, 0] rfl)
set_option maxHeartbeats 2000000 in
set_option maxRecDepth 20000 in
theorem bk_X10_init_166 {p : Program} {l : Launch} {e : Env} {s : State} {m : MethodId} {args : Array Value} {below : List Frame} {meth : Method} {c : Code} {Γ : gE} (C0 : gCx p s m args meth c Γ RX10 cX10_init 2 none)   {z : Unit × gG}   : ∀ (n : Nat) (l1 : Int32) (g : gG) (H : Heap) (locs : List Loc) (ls : Array Slot), fb_X10_init_166 n l1 g = some z → va_P (gD Γ) gcls (lay Γ g) H → va_S (gA Γ) s.heap H locs → lv_has ls 2 [(0, .ref (gB Γ + 174)), (1, .int l1)] → W p l e (gRx 1 25 18 16020) s m args below meth c H locs 18 16020 (MQ below (gQv Γ z) args s 18 16020 (gA Γ)) (F0 m 166 ls []) := by
  intro n
  induction n with
  | zero => intro l1 g H locs ls h hP hS hl; cases h
  | succ n ih => intro l1 g H locs ls h hP hS hl; exact bs_X10_init_166 C0  ih h hP hS hl
set_option maxHeartbeats 8000000 in
set_option maxRecDepth 20000 in
theorem k_X10_init (l : Launch) (Γ : gE) (hΓ : Γ.2.2.2.2.2 = 0) (o : Nat → va_E) (ho : o 174 = .inr (10, [.int 0, .null, .int 0, .int 0, .int 0, .null, .null, .null, .null, .null, .null, .null, .int 0, .null, .null, .null, .int 0, .null, .null, .null, .null, .null, .null, .null])) (hlow : ∀ j, j < 174 → o j = gFin Γ j) (z : Unit × gG) (h : ft_X10_init g00 = some z) : Met l yX10_init (Cond.code yX10_init cX10_init 2 none :: lw_good) (gRx 1 25 18 16020) (va_Pc [.ref (gB Γ + 174)] (fun U => rP Γ 175 o U.heap ∧ va_K (gD Γ) gcls (gtys Γ) U ∧ gX Γ U U.heap ∧ va_AO RX5 U)) (gQv Γ z) 18 16020 (gA Γ) := by
  refine Met.ofW (cc := cX10_init) (maxL := 2) (ret := none) (by decide +kernel) rfl ?_
  intro p e s m args below meth c s₁ B hml hv
  obtain ⟨rfl, hR, hK, hX, hA⟩ := hv
  have hts9 := atoms_spec (ws := Cond.code yX10_init cX10_init 2 none :: lw_good) B.pre
  have hts : ∀ w ∈ lw_good, w.before [Value.ref (gB Γ + 174)].toArray s = true := fun w hw => hts9 w (List.mem_cons_of_mem _ hw)
  have hown : s.vm.findClass RX10 = some m.cls := findClass_of_methodNamed B.named
  have C0 : gCx p s m [Value.ref (gB Γ + 174)].toArray meth c Γ RX10 cX10_init 2 none := ⟨B.exec, B.bytes, hml, B.returns, hown, hts, hK, B.notSynchronized, hX⟩
  have hin : meth.name = "<init>" := (name_of_methodNamed B.named B.method).1
  have hl := lv_entry [.ref (gB Γ + 174)] (n := 2) (Nat.le_of_ble_eq_true rfl)
  rw [lg_entry_eq]
  generalize (lg_sl ([.ref (gB Γ + 174)]) ++ List.replicate (2 - (lg_sl ([.ref (gB Γ + 174)])).length) Slot.unset).toArray = ls at hl ⊢
  have hl : lv_has ls 2 [(0, .ref (gB Γ + 174))] := hl
  have hS : va_S (gA Γ) s.heap s.heap [] := va_S.rf
  obtain ⟨hx, hb, hml, hr, hown, hts, hK, hlk, hX⟩ := id C0
  show W p l e (gRx 1 25 18 16020) s m _ below meth c s.heap [] 0 0 _ (F0 m 0 ls [])
  refine lv_aload_n hx hb dX10_init_0 rfl (lv_at hl 0 rfl) ?_
  refine r_obj C0 wl_X10_1 wi_obj wc_obj hl.1 dX10_init_1 (Nat.le_of_ble_eq_true rfl) (Nat.le_of_ble_eq_true rfl) ?_
  refine lv_aload_n hx hb dX10_init_4 rfl (lv_at hl 0 rfl) ?_
  refine lv_bipush (v := 120) hx hb dX10_init_5 (by decide) ?_
  refine r_newa (atype := .int) (N := 120) (a0 := (120, .inl (fun _ => 0))) hx hb hts warr_int 0 rfl hK hR hS (fun _ => rfl) (by decide) (by decide) (Nat.le_of_ble_eq_true rfl) (Nat.le_of_ble_eq_true rfl) (Nat.le_of_ble_eq_true rfl) dX10_init_7 (fun o1 H h_175 hne hR hS => ?_)
  have ho := (hne _ (by omega)).trans ho
  have hlow := fun j hj => (hne j (by omega)).trans (hlow j hj)
  refine r_put (ci := 10) (ty := tyX10 1) (v := .ref (gB Γ + 175)) (C := RX10) (T := TX10) (N := 24) hx hb hts hin_10 tyX10 tyX10_ok nmX10 hown hin hK hR hS ho (by omega) rfl 1 (by decide) rfl rfl wf_X10_7 (tyX10_ok 1 (by decide)) rfl rfl (Nat.le_of_ble_eq_true rfl) dX10_init_9 (fun o2 H locs ho hne hR hS => ?_)
  have ho : o2 174 = .inr (10, [.int 0, .ref (gB Γ + 175), .int 0, .int 0, .int 0, .null, .null, .null, .null, .null, .null, .null, .int 0, .null, .null, .null, .int 0, .null, .null, .null, .null, .null, .null, .null]) := ho
  have h_175 := (hne _ (by omega)).trans h_175
  have hlow := fun j hj => (hne j (by omega)).trans (hlow j hj)
  refine lv_aload_n hx hb dX10_init_12 rfl (lv_at hl 0 rfl) ?_
  refine lv_sipush (v := 394) hx hb dX10_init_13 (by decide) ?_
  refine r_newa (atype := .int) (N := 394) (a0 := (394, .inl (fun _ => 0))) hx hb hts warr_int 0 rfl hK hR hS (fun _ => rfl) (by decide) (by decide) (Nat.le_of_ble_eq_true rfl) (Nat.le_of_ble_eq_true rfl) (Nat.le_of_ble_eq_true rfl) dX10_init_16 (fun o3 H h_176 hne hR hS => ?_)
  have ho := (hne _ (by omega)).trans ho
  have h_175 := (hne _ (by omega)).trans h_175
  have hlow := fun j hj => (hne j (by omega)).trans (hlow j hj)
  refine r_put (ci := 10) (ty := tyX10 5) (v := .ref (gB Γ + 176)) (C := RX10) (T := TX10) (N := 24) hx hb hts hin_10 tyX10 tyX10_ok nmX10 hown hin hK hR hS ho (by omega) rfl 5 (by decide) rfl rfl wf_X10_13 (tyX10_ok 5 (by decide)) rfl rfl (Nat.le_of_ble_eq_true rfl) dX10_init_18 (fun o4 H locs ho hne hR hS => ?_)
  have ho : o4 174 = .inr (10, [.int 0, .ref (gB Γ + 175), .int 0, .int 0, .int 0, .ref (gB Γ + 176), .null, .null, .null, .null, .null, .null, .int 0, .null, .null, .null, .int 0, .null, .null, .null, .null, .null, .null, .null]) := ho
  have h_175 := (hne _ (by omega)).trans h_175
  have h_176 := (hne _ (by omega)).trans h_176
  have hlow := fun j hj => (hne j (by omega)).trans (hlow j hj)
  refine lv_aload_n hx hb dX10_init_21 rfl (lv_at hl 0 rfl) ?_
  refine lv_bipush (v := 122) hx hb dX10_init_22 (by decide) ?_
  refine r_newa (atype := .int) (N := 122) (a0 := (122, .inl (fun _ => 0))) hx hb hts warr_int 0 rfl hK hR hS (fun _ => rfl) (by decide) (by decide) (Nat.le_of_ble_eq_true rfl) (Nat.le_of_ble_eq_true rfl) (Nat.le_of_ble_eq_true rfl) dX10_init_24 (fun o5 H h_177 hne hR hS => ?_)
  have ho := (hne _ (by omega)).trans ho
  have h_175 := (hne _ (by omega)).trans h_175
  have h_176 := (hne _ (by omega)).trans h_176
  have hlow := fun j hj => (hne j (by omega)).trans (hlow j hj)
  refine r_put (ci := 10) (ty := tyX10 6) (v := .ref (gB Γ + 177)) (C := RX10) (T := TX10) (N := 24) hx hb hts hin_10 tyX10 tyX10_ok nmX10 hown hin hK hR hS ho (by omega) rfl 6 (by decide) rfl rfl wf_X10_16 (tyX10_ok 6 (by decide)) rfl rfl (Nat.le_of_ble_eq_true rfl) dX10_init_26 (fun o6 H locs ho hne hR hS => ?_)
  have ho : o6 174 = .inr (10, [.int 0, .ref (gB Γ + 175), .int 0, .int 0, .int 0, .ref (gB Γ + 176), .ref (gB Γ + 177), .null, .null, .null, .null, .null, .int 0, .null, .null, .null, .int 0, .null, .null, .null, .null, .null, .null, .null]) := ho
  have h_175 := (hne _ (by omega)).trans h_175
  have h_176 := (hne _ (by omega)).trans h_176
  have h_177 := (hne _ (by omega)).trans h_177
  have hlow := fun j hj => (hne j (by omega)).trans (hlow j hj)
  refine lv_aload_n hx hb dX10_init_29 rfl (lv_at hl 0 rfl) ?_
  refine lv_bipush (v := 122) hx hb dX10_init_30 (by decide) ?_
  refine r_newa (atype := .boolean) (N := 122) (a0 := (122, .inl (fun _ => 0))) hx hb hts warr_boolean 1 rfl hK hR hS (fun _ => rfl) (by decide) (by decide) (Nat.le_of_ble_eq_true rfl) (Nat.le_of_ble_eq_true rfl) (Nat.le_of_ble_eq_true rfl) dX10_init_32 (fun o7 H h_178 hne hR hS => ?_)
  have ho := (hne _ (by omega)).trans ho
  have h_175 := (hne _ (by omega)).trans h_175
  have h_176 := (hne _ (by omega)).trans h_176
  have h_177 := (hne _ (by omega)).trans h_177
  have hlow := fun j hj => (hne j (by omega)).trans (hlow j hj)
  refine r_put (ci := 10) (ty := tyX10 7) (v := .ref (gB Γ + 178)) (C := RX10) (T := TX10) (N := 24) hx hb hts hin_10 tyX10 tyX10_ok nmX10 hown hin hK hR hS ho (by omega) rfl 7 (by decide) rfl rfl wf_X10_19 (tyX10_ok 7 (by decide)) rfl rfl (Nat.le_of_ble_eq_true rfl) dX10_init_34 (fun o8 H locs ho hne hR hS => ?_)
  have ho : o8 174 = .inr (10, [.int 0, .ref (gB Γ + 175), .int 0, .int 0, .int 0, .ref (gB Γ + 176), .ref (gB Γ + 177), .ref (gB Γ + 178), .null, .null, .null, .null, .int 0, .null, .null, .null, .int 0, .null, .null, .null, .null, .null, .null, .null]) := ho
  have h_175 := (hne _ (by omega)).trans h_175
  have h_176 := (hne _ (by omega)).trans h_176
  have h_177 := (hne _ (by omega)).trans h_177
  have h_178 := (hne _ (by omega)).trans h_178
  have hlow := fun j hj => (hne j (by omega)).trans (hlow j hj)
  refine lv_aload_n hx hb dX10_init_37 rfl (lv_at hl 0 rfl) ?_
  refine lv_bipush (v := 122) hx hb dX10_init_38 (by decide) ?_
  refine r_newa (atype := .boolean) (N := 122) (a0 := (122, .inl (fun _ => 0))) hx hb hts warr_boolean 1 rfl hK hR hS (fun _ => rfl) (by decide) (by decide) (Nat.le_of_ble_eq_true rfl) (Nat.le_of_ble_eq_true rfl) (Nat.le_of_ble_eq_true rfl) dX10_init_40 (fun o9 H h_179 hne hR hS => ?_)
  have ho := (hne _ (by omega)).trans ho
  have h_175 := (hne _ (by omega)).trans h_175
  have h_176 := (hne _ (by omega)).trans h_176
  have h_177 := (hne _ (by omega)).trans h_177
  have h_178 := (hne _ (by omega)).trans h_178
  have hlow := fun j hj => (hne j (by omega)).trans (hlow j hj)
  refine r_put (ci := 10) (ty := tyX10 8) (v := .ref (gB Γ + 179)) (C := RX10) (T := TX10) (N := 24) hx hb hts hin_10 tyX10 tyX10_ok nmX10 hown hin hK hR hS ho (by omega) rfl 8 (by decide) rfl rfl wf_X10_23 (tyX10_ok 8 (by decide)) rfl rfl (Nat.le_of_ble_eq_true rfl) dX10_init_42 (fun o10 H locs ho hne hR hS => ?_)
  have ho : o10 174 = .inr (10, [.int 0, .ref (gB Γ + 175), .int 0, .int 0, .int 0, .ref (gB Γ + 176), .ref (gB Γ + 177), .ref (gB Γ + 178), .ref (gB Γ + 179), .null, .null, .null, .int 0, .null, .null, .null, .int 0, .null, .null, .null, .null, .null, .null, .null]) := ho
  have h_175 := (hne _ (by omega)).trans h_175
  have h_176 := (hne _ (by omega)).trans h_176
  have h_177 := (hne _ (by omega)).trans h_177
  have h_178 := (hne _ (by omega)).trans h_178
  have h_179 := (hne _ (by omega)).trans h_179
  have hlow := fun j hj => (hne j (by omega)).trans (hlow j hj)
  refine lv_aload_n hx hb dX10_init_45 rfl (lv_at hl 0 rfl) ?_
  refine lv_bipush (v := 122) hx hb dX10_init_46 (by decide) ?_
  refine r_newa (atype := .boolean) (N := 122) (a0 := (122, .inl (fun _ => 0))) hx hb hts warr_boolean 1 rfl hK hR hS (fun _ => rfl) (by decide) (by decide) (Nat.le_of_ble_eq_true rfl) (Nat.le_of_ble_eq_true rfl) (Nat.le_of_ble_eq_true rfl) dX10_init_48 (fun o11 H h_180 hne hR hS => ?_)
  have ho := (hne _ (by omega)).trans ho
  have h_175 := (hne _ (by omega)).trans h_175
  have h_176 := (hne _ (by omega)).trans h_176
  have h_177 := (hne _ (by omega)).trans h_177
  have h_178 := (hne _ (by omega)).trans h_178
  have h_179 := (hne _ (by omega)).trans h_179
  have hlow := fun j hj => (hne j (by omega)).trans (hlow j hj)
  refine r_put (ci := 10) (ty := tyX10 9) (v := .ref (gB Γ + 180)) (C := RX10) (T := TX10) (N := 24) hx hb hts hin_10 tyX10 tyX10_ok nmX10 hown hin hK hR hS ho (by omega) rfl 9 (by decide) rfl rfl wf_X10_26 (tyX10_ok 9 (by decide)) rfl rfl (Nat.le_of_ble_eq_true rfl) dX10_init_50 (fun o12 H locs ho hne hR hS => ?_)
  have ho : o12 174 = .inr (10, [.int 0, .ref (gB Γ + 175), .int 0, .int 0, .int 0, .ref (gB Γ + 176), .ref (gB Γ + 177), .ref (gB Γ + 178), .ref (gB Γ + 179), .ref (gB Γ + 180), .null, .null, .int 0, .null, .null, .null, .int 0, .null, .null, .null, .null, .null, .null, .null]) := ho
  have h_175 := (hne _ (by omega)).trans h_175
  have h_176 := (hne _ (by omega)).trans h_176
  have h_177 := (hne _ (by omega)).trans h_177
  have h_178 := (hne _ (by omega)).trans h_178
  have h_179 := (hne _ (by omega)).trans h_179
  have h_180 := (hne _ (by omega)).trans h_180
  have hlow := fun j hj => (hne j (by omega)).trans (hlow j hj)
  refine lv_aload_n hx hb dX10_init_53 rfl (lv_at hl 0 rfl) ?_
  refine lv_bipush (v := 122) hx hb dX10_init_54 (by decide) ?_
  refine r_newa (atype := .int) (N := 122) (a0 := (122, .inl (fun _ => 0))) hx hb hts warr_int 0 rfl hK hR hS (fun _ => rfl) (by decide) (by decide) (Nat.le_of_ble_eq_true rfl) (Nat.le_of_ble_eq_true rfl) (Nat.le_of_ble_eq_true rfl) dX10_init_56 (fun o13 H h_181 hne hR hS => ?_)
  have ho := (hne _ (by omega)).trans ho
  have h_175 := (hne _ (by omega)).trans h_175
  have h_176 := (hne _ (by omega)).trans h_176
  have h_177 := (hne _ (by omega)).trans h_177
  have h_178 := (hne _ (by omega)).trans h_178
  have h_179 := (hne _ (by omega)).trans h_179
  have h_180 := (hne _ (by omega)).trans h_180
  have hlow := fun j hj => (hne j (by omega)).trans (hlow j hj)
  refine r_put (ci := 10) (ty := tyX10 10) (v := .ref (gB Γ + 181)) (C := RX10) (T := TX10) (N := 24) hx hb hts hin_10 tyX10 tyX10_ok nmX10 hown hin hK hR hS ho (by omega) rfl 10 (by decide) rfl rfl wf_X10_29 (tyX10_ok 10 (by decide)) rfl rfl (Nat.le_of_ble_eq_true rfl) dX10_init_58 (fun o14 H locs ho hne hR hS => ?_)
  have ho : o14 174 = .inr (10, [.int 0, .ref (gB Γ + 175), .int 0, .int 0, .int 0, .ref (gB Γ + 176), .ref (gB Γ + 177), .ref (gB Γ + 178), .ref (gB Γ + 179), .ref (gB Γ + 180), .ref (gB Γ + 181), .null, .int 0, .null, .null, .null, .int 0, .null, .null, .null, .null, .null, .null, .null]) := ho
  have h_175 := (hne _ (by omega)).trans h_175
  have h_176 := (hne _ (by omega)).trans h_176
  have h_177 := (hne _ (by omega)).trans h_177
  have h_178 := (hne _ (by omega)).trans h_178
  have h_179 := (hne _ (by omega)).trans h_179
  have h_180 := (hne _ (by omega)).trans h_180
  have h_181 := (hne _ (by omega)).trans h_181
  have hlow := fun j hj => (hne j (by omega)).trans (hlow j hj)
  refine lv_aload_n hx hb dX10_init_61 rfl (lv_at hl 0 rfl) ?_
  refine lv_bipush (v := 122) hx hb dX10_init_62 (by decide) ?_
  refine r_newa (atype := .int) (N := 122) (a0 := (122, .inl (fun _ => 0))) hx hb hts warr_int 0 rfl hK hR hS (fun _ => rfl) (by decide) (by decide) (Nat.le_of_ble_eq_true rfl) (Nat.le_of_ble_eq_true rfl) (Nat.le_of_ble_eq_true rfl) dX10_init_64 (fun o15 H h_182 hne hR hS => ?_)
  have ho := (hne _ (by omega)).trans ho
  have h_175 := (hne _ (by omega)).trans h_175
  have h_176 := (hne _ (by omega)).trans h_176
  have h_177 := (hne _ (by omega)).trans h_177
  have h_178 := (hne _ (by omega)).trans h_178
  have h_179 := (hne _ (by omega)).trans h_179
  have h_180 := (hne _ (by omega)).trans h_180
  have h_181 := (hne _ (by omega)).trans h_181
  have hlow := fun j hj => (hne j (by omega)).trans (hlow j hj)
  refine r_put (ci := 10) (ty := tyX10 11) (v := .ref (gB Γ + 182)) (C := RX10) (T := TX10) (N := 24) hx hb hts hin_10 tyX10 tyX10_ok nmX10 hown hin hK hR hS ho (by omega) rfl 11 (by decide) rfl rfl wf_X10_32 (tyX10_ok 11 (by decide)) rfl rfl (Nat.le_of_ble_eq_true rfl) dX10_init_66 (fun o16 H locs ho hne hR hS => ?_)
  have ho : o16 174 = .inr (10, [.int 0, .ref (gB Γ + 175), .int 0, .int 0, .int 0, .ref (gB Γ + 176), .ref (gB Γ + 177), .ref (gB Γ + 178), .ref (gB Γ + 179), .ref (gB Γ + 180), .ref (gB Γ + 181), .ref (gB Γ + 182), .int 0, .null, .null, .null, .int 0, .null, .null, .null, .null, .null, .null, .null]) := ho
  have h_175 := (hne _ (by omega)).trans h_175
  have h_176 := (hne _ (by omega)).trans h_176
  have h_177 := (hne _ (by omega)).trans h_177
  have h_178 := (hne _ (by omega)).trans h_178
  have h_179 := (hne _ (by omega)).trans h_179
  have h_180 := (hne _ (by omega)).trans h_180
  have h_181 := (hne _ (by omega)).trans h_181
  have h_182 := (hne _ (by omega)).trans h_182
  have hlow := fun j hj => (hne j (by omega)).trans (hlow j hj)
  refine lv_aload_n hx hb dX10_init_69 rfl (lv_at hl 0 rfl) ?_
  refine lv_sipush (v := 394) hx hb dX10_init_70 (by decide) ?_
  refine r_newa (atype := .int) (N := 394) (a0 := (394, .inl (fun _ => 0))) hx hb hts warr_int 0 rfl hK hR hS (fun _ => rfl) (by decide) (by decide) (Nat.le_of_ble_eq_true rfl) (Nat.le_of_ble_eq_true rfl) (Nat.le_of_ble_eq_true rfl) dX10_init_73 (fun o17 H h_183 hne hR hS => ?_)
  have ho := (hne _ (by omega)).trans ho
  have h_175 := (hne _ (by omega)).trans h_175
  have h_176 := (hne _ (by omega)).trans h_176
  have h_177 := (hne _ (by omega)).trans h_177
  have h_178 := (hne _ (by omega)).trans h_178
  have h_179 := (hne _ (by omega)).trans h_179
  have h_180 := (hne _ (by omega)).trans h_180
  have h_181 := (hne _ (by omega)).trans h_181
  have h_182 := (hne _ (by omega)).trans h_182
  have hlow := fun j hj => (hne j (by omega)).trans (hlow j hj)
  refine r_put (ci := 10) (ty := tyX10 13) (v := .ref (gB Γ + 183)) (C := RX10) (T := TX10) (N := 24) hx hb hts hin_10 tyX10 tyX10_ok nmX10 hown hin hK hR hS ho (by omega) rfl 13 (by decide) rfl rfl wf_X10_35 (tyX10_ok 13 (by decide)) rfl rfl (Nat.le_of_ble_eq_true rfl) dX10_init_75 (fun o18 H locs ho hne hR hS => ?_)
  have ho : o18 174 = .inr (10, [.int 0, .ref (gB Γ + 175), .int 0, .int 0, .int 0, .ref (gB Γ + 176), .ref (gB Γ + 177), .ref (gB Γ + 178), .ref (gB Γ + 179), .ref (gB Γ + 180), .ref (gB Γ + 181), .ref (gB Γ + 182), .int 0, .ref (gB Γ + 183), .null, .null, .int 0, .null, .null, .null, .null, .null, .null, .null]) := ho
  have h_175 := (hne _ (by omega)).trans h_175
  have h_176 := (hne _ (by omega)).trans h_176
  have h_177 := (hne _ (by omega)).trans h_177
  have h_178 := (hne _ (by omega)).trans h_178
  have h_179 := (hne _ (by omega)).trans h_179
  have h_180 := (hne _ (by omega)).trans h_180
  have h_181 := (hne _ (by omega)).trans h_181
  have h_182 := (hne _ (by omega)).trans h_182
  have h_183 := (hne _ (by omega)).trans h_183
  have hlow := fun j hj => (hne j (by omega)).trans (hlow j hj)
  refine lv_aload_n hx hb dX10_init_78 rfl (lv_at hl 0 rfl) ?_
  refine lv_sipush (v := 394) hx hb dX10_init_79 (by decide) ?_
  refine r_newa (atype := .int) (N := 394) (a0 := (394, .inl (fun _ => 0))) hx hb hts warr_int 0 rfl hK hR hS (fun _ => rfl) (by decide) (by decide) (Nat.le_of_ble_eq_true rfl) (Nat.le_of_ble_eq_true rfl) (Nat.le_of_ble_eq_true rfl) dX10_init_82 (fun o19 H h_184 hne hR hS => ?_)
  have ho := (hne _ (by omega)).trans ho
  have h_175 := (hne _ (by omega)).trans h_175
  have h_176 := (hne _ (by omega)).trans h_176
  have h_177 := (hne _ (by omega)).trans h_177
  have h_178 := (hne _ (by omega)).trans h_178
  have h_179 := (hne _ (by omega)).trans h_179
  have h_180 := (hne _ (by omega)).trans h_180
  have h_181 := (hne _ (by omega)).trans h_181
  have h_182 := (hne _ (by omega)).trans h_182
  have h_183 := (hne _ (by omega)).trans h_183
  have hlow := fun j hj => (hne j (by omega)).trans (hlow j hj)
  refine r_put (ci := 10) (ty := tyX10 14) (v := .ref (gB Γ + 184)) (C := RX10) (T := TX10) (N := 24) hx hb hts hin_10 tyX10 tyX10_ok nmX10 hown hin hK hR hS ho (by omega) rfl 14 (by decide) rfl rfl wf_X10_38 (tyX10_ok 14 (by decide)) rfl rfl (Nat.le_of_ble_eq_true rfl) dX10_init_84 (fun o20 H locs ho hne hR hS => ?_)
  have ho : o20 174 = .inr (10, [.int 0, .ref (gB Γ + 175), .int 0, .int 0, .int 0, .ref (gB Γ + 176), .ref (gB Γ + 177), .ref (gB Γ + 178), .ref (gB Γ + 179), .ref (gB Γ + 180), .ref (gB Γ + 181), .ref (gB Γ + 182), .int 0, .ref (gB Γ + 183), .ref (gB Γ + 184), .null, .int 0, .null, .null, .null, .null, .null, .null, .null]) := ho
  have h_175 := (hne _ (by omega)).trans h_175
  have h_176 := (hne _ (by omega)).trans h_176
  have h_177 := (hne _ (by omega)).trans h_177
  have h_178 := (hne _ (by omega)).trans h_178
  have h_179 := (hne _ (by omega)).trans h_179
  have h_180 := (hne _ (by omega)).trans h_180
  have h_181 := (hne _ (by omega)).trans h_181
  have h_182 := (hne _ (by omega)).trans h_182
  have h_183 := (hne _ (by omega)).trans h_183
  have h_184 := (hne _ (by omega)).trans h_184
  have hlow := fun j hj => (hne j (by omega)).trans (hlow j hj)
  refine lv_aload_n hx hb dX10_init_87 rfl (lv_at hl 0 rfl) ?_
  refine lv_sipush (v := 5516) hx hb dX10_init_88 (by decide) ?_
  refine r_newa (atype := .int) (N := 5516) (a0 := (5516, .inl (fun _ => 0))) hx hb hts warr_int 0 rfl hK hR hS (fun _ => rfl) (by decide) (by decide) (Nat.le_of_ble_eq_true rfl) (Nat.le_of_ble_eq_true rfl) (Nat.le_of_ble_eq_true rfl) dX10_init_91 (fun o21 H h_185 hne hR hS => ?_)
  have ho := (hne _ (by omega)).trans ho
  have h_175 := (hne _ (by omega)).trans h_175
  have h_176 := (hne _ (by omega)).trans h_176
  have h_177 := (hne _ (by omega)).trans h_177
  have h_178 := (hne _ (by omega)).trans h_178
  have h_179 := (hne _ (by omega)).trans h_179
  have h_180 := (hne _ (by omega)).trans h_180
  have h_181 := (hne _ (by omega)).trans h_181
  have h_182 := (hne _ (by omega)).trans h_182
  have h_183 := (hne _ (by omega)).trans h_183
  have h_184 := (hne _ (by omega)).trans h_184
  have hlow := fun j hj => (hne j (by omega)).trans (hlow j hj)
  refine r_put (ci := 10) (ty := tyX10 15) (v := .ref (gB Γ + 185)) (C := RX10) (T := TX10) (N := 24) hx hb hts hin_10 tyX10 tyX10_ok nmX10 hown hin hK hR hS ho (by omega) rfl 15 (by decide) rfl rfl wf_X10_41 (tyX10_ok 15 (by decide)) rfl rfl (Nat.le_of_ble_eq_true rfl) dX10_init_93 (fun o22 H locs ho hne hR hS => ?_)
  have ho : o22 174 = .inr (10, [.int 0, .ref (gB Γ + 175), .int 0, .int 0, .int 0, .ref (gB Γ + 176), .ref (gB Γ + 177), .ref (gB Γ + 178), .ref (gB Γ + 179), .ref (gB Γ + 180), .ref (gB Γ + 181), .ref (gB Γ + 182), .int 0, .ref (gB Γ + 183), .ref (gB Γ + 184), .ref (gB Γ + 185), .int 0, .null, .null, .null, .null, .null, .null, .null]) := ho
  have h_175 := (hne _ (by omega)).trans h_175
  have h_176 := (hne _ (by omega)).trans h_176
  have h_177 := (hne _ (by omega)).trans h_177
  have h_178 := (hne _ (by omega)).trans h_178
  have h_179 := (hne _ (by omega)).trans h_179
  have h_180 := (hne _ (by omega)).trans h_180
  have h_181 := (hne _ (by omega)).trans h_181
  have h_182 := (hne _ (by omega)).trans h_182
  have h_183 := (hne _ (by omega)).trans h_183
  have h_184 := (hne _ (by omega)).trans h_184
  have h_185 := (hne _ (by omega)).trans h_185
  have hlow := fun j hj => (hne j (by omega)).trans (hlow j hj)
  refine lv_aload_n hx hb dX10_init_96 rfl (lv_at hl 0 rfl) ?_
  refine lv_sipush (v := 788) hx hb dX10_init_97 (by decide) ?_
  refine r_newa (atype := .int) (N := 788) (a0 := (788, .inl (fun _ => 0))) hx hb hts warr_int 0 rfl hK hR hS (fun _ => rfl) (by decide) (by decide) (Nat.le_of_ble_eq_true rfl) (Nat.le_of_ble_eq_true rfl) (Nat.le_of_ble_eq_true rfl) dX10_init_100 (fun o23 H h_186 hne hR hS => ?_)
  have ho := (hne _ (by omega)).trans ho
  have h_175 := (hne _ (by omega)).trans h_175
  have h_176 := (hne _ (by omega)).trans h_176
  have h_177 := (hne _ (by omega)).trans h_177
  have h_178 := (hne _ (by omega)).trans h_178
  have h_179 := (hne _ (by omega)).trans h_179
  have h_180 := (hne _ (by omega)).trans h_180
  have h_181 := (hne _ (by omega)).trans h_181
  have h_182 := (hne _ (by omega)).trans h_182
  have h_183 := (hne _ (by omega)).trans h_183
  have h_184 := (hne _ (by omega)).trans h_184
  have h_185 := (hne _ (by omega)).trans h_185
  have hlow := fun j hj => (hne j (by omega)).trans (hlow j hj)
  refine r_put (ci := 10) (ty := tyX10 17) (v := .ref (gB Γ + 186)) (C := RX10) (T := TX10) (N := 24) hx hb hts hin_10 tyX10 tyX10_ok nmX10 hown hin hK hR hS ho (by omega) rfl 17 (by decide) rfl rfl wf_X10_44 (tyX10_ok 17 (by decide)) rfl rfl (Nat.le_of_ble_eq_true rfl) dX10_init_102 (fun o24 H locs ho hne hR hS => ?_)
  have ho : o24 174 = .inr (10, [.int 0, .ref (gB Γ + 175), .int 0, .int 0, .int 0, .ref (gB Γ + 176), .ref (gB Γ + 177), .ref (gB Γ + 178), .ref (gB Γ + 179), .ref (gB Γ + 180), .ref (gB Γ + 181), .ref (gB Γ + 182), .int 0, .ref (gB Γ + 183), .ref (gB Γ + 184), .ref (gB Γ + 185), .int 0, .ref (gB Γ + 186), .null, .null, .null, .null, .null, .null]) := ho
  have h_175 := (hne _ (by omega)).trans h_175
  have h_176 := (hne _ (by omega)).trans h_176
  have h_177 := (hne _ (by omega)).trans h_177
  have h_178 := (hne _ (by omega)).trans h_178
  have h_179 := (hne _ (by omega)).trans h_179
  have h_180 := (hne _ (by omega)).trans h_180
  have h_181 := (hne _ (by omega)).trans h_181
  have h_182 := (hne _ (by omega)).trans h_182
  have h_183 := (hne _ (by omega)).trans h_183
  have h_184 := (hne _ (by omega)).trans h_184
  have h_185 := (hne _ (by omega)).trans h_185
  have h_186 := (hne _ (by omega)).trans h_186
  have hlow := fun j hj => (hne j (by omega)).trans (hlow j hj)
  refine lv_aload_n hx hb dX10_init_105 rfl (lv_at hl 0 rfl) ?_
  refine lv_iconst (v := 2) hx hb dX10_init_106 (by decide) ?_
  refine r_newa (atype := .boolean) (N := 2) (a0 := (2, .inl (fun _ => 0))) hx hb hts warr_boolean 1 rfl hK hR hS (fun _ => rfl) (by decide) (by decide) (Nat.le_of_ble_eq_true rfl) (Nat.le_of_ble_eq_true rfl) (Nat.le_of_ble_eq_true rfl) dX10_init_107 (fun o25 H h_187 hne hR hS => ?_)
  have ho := (hne _ (by omega)).trans ho
  have h_175 := (hne _ (by omega)).trans h_175
  have h_176 := (hne _ (by omega)).trans h_176
  have h_177 := (hne _ (by omega)).trans h_177
  have h_178 := (hne _ (by omega)).trans h_178
  have h_179 := (hne _ (by omega)).trans h_179
  have h_180 := (hne _ (by omega)).trans h_180
  have h_181 := (hne _ (by omega)).trans h_181
  have h_182 := (hne _ (by omega)).trans h_182
  have h_183 := (hne _ (by omega)).trans h_183
  have h_184 := (hne _ (by omega)).trans h_184
  have h_185 := (hne _ (by omega)).trans h_185
  have h_186 := (hne _ (by omega)).trans h_186
  have hlow := fun j hj => (hne j (by omega)).trans (hlow j hj)
  refine r_put (ci := 10) (ty := tyX10 18) (v := .ref (gB Γ + 187)) (C := RX10) (T := TX10) (N := 24) hx hb hts hin_10 tyX10 tyX10_ok nmX10 hown hin hK hR hS ho (by omega) rfl 18 (by decide) rfl rfl wf_X10_47 (tyX10_ok 18 (by decide)) rfl rfl (Nat.le_of_ble_eq_true rfl) dX10_init_109 (fun o26 H locs ho hne hR hS => ?_)
  have ho : o26 174 = .inr (10, [.int 0, .ref (gB Γ + 175), .int 0, .int 0, .int 0, .ref (gB Γ + 176), .ref (gB Γ + 177), .ref (gB Γ + 178), .ref (gB Γ + 179), .ref (gB Γ + 180), .ref (gB Γ + 181), .ref (gB Γ + 182), .int 0, .ref (gB Γ + 183), .ref (gB Γ + 184), .ref (gB Γ + 185), .int 0, .ref (gB Γ + 186), .ref (gB Γ + 187), .null, .null, .null, .null, .null]) := ho
  have h_175 := (hne _ (by omega)).trans h_175
  have h_176 := (hne _ (by omega)).trans h_176
  have h_177 := (hne _ (by omega)).trans h_177
  have h_178 := (hne _ (by omega)).trans h_178
  have h_179 := (hne _ (by omega)).trans h_179
  have h_180 := (hne _ (by omega)).trans h_180
  have h_181 := (hne _ (by omega)).trans h_181
  have h_182 := (hne _ (by omega)).trans h_182
  have h_183 := (hne _ (by omega)).trans h_183
  have h_184 := (hne _ (by omega)).trans h_184
  have h_185 := (hne _ (by omega)).trans h_185
  have h_186 := (hne _ (by omega)).trans h_186
  have h_187 := (hne _ (by omega)).trans h_187
  have hlow := fun j hj => (hne j (by omega)).trans (hlow j hj)
  refine lv_aload_n hx hb dX10_init_112 rfl (lv_at hl 0 rfl) ?_
  refine lv_sipush (v := 512) hx hb dX10_init_113 (by decide) ?_
  refine r_newa (atype := .boolean) (N := 512) (a0 := (512, .inl (fun _ => 0))) hx hb hts warr_boolean 1 rfl hK hR hS (fun _ => rfl) (by decide) (by decide) (Nat.le_of_ble_eq_true rfl) (Nat.le_of_ble_eq_true rfl) (Nat.le_of_ble_eq_true rfl) dX10_init_116 (fun o27 H h_188 hne hR hS => ?_)
  have ho := (hne _ (by omega)).trans ho
  have h_175 := (hne _ (by omega)).trans h_175
  have h_176 := (hne _ (by omega)).trans h_176
  have h_177 := (hne _ (by omega)).trans h_177
  have h_178 := (hne _ (by omega)).trans h_178
  have h_179 := (hne _ (by omega)).trans h_179
  have h_180 := (hne _ (by omega)).trans h_180
  have h_181 := (hne _ (by omega)).trans h_181
  have h_182 := (hne _ (by omega)).trans h_182
  have h_183 := (hne _ (by omega)).trans h_183
  have h_184 := (hne _ (by omega)).trans h_184
  have h_185 := (hne _ (by omega)).trans h_185
  have h_186 := (hne _ (by omega)).trans h_186
  have h_187 := (hne _ (by omega)).trans h_187
  have hlow := fun j hj => (hne j (by omega)).trans (hlow j hj)
  refine r_put (ci := 10) (ty := tyX10 19) (v := .ref (gB Γ + 188)) (C := RX10) (T := TX10) (N := 24) hx hb hts hin_10 tyX10 tyX10_ok nmX10 hown hin hK hR hS ho (by omega) rfl 19 (by decide) rfl rfl wf_X10_50 (tyX10_ok 19 (by decide)) rfl rfl (Nat.le_of_ble_eq_true rfl) dX10_init_118 (fun o28 H locs ho hne hR hS => ?_)
  have ho : o28 174 = .inr (10, [.int 0, .ref (gB Γ + 175), .int 0, .int 0, .int 0, .ref (gB Γ + 176), .ref (gB Γ + 177), .ref (gB Γ + 178), .ref (gB Γ + 179), .ref (gB Γ + 180), .ref (gB Γ + 181), .ref (gB Γ + 182), .int 0, .ref (gB Γ + 183), .ref (gB Γ + 184), .ref (gB Γ + 185), .int 0, .ref (gB Γ + 186), .ref (gB Γ + 187), .ref (gB Γ + 188), .null, .null, .null, .null]) := ho
  have h_175 := (hne _ (by omega)).trans h_175
  have h_176 := (hne _ (by omega)).trans h_176
  have h_177 := (hne _ (by omega)).trans h_177
  have h_178 := (hne _ (by omega)).trans h_178
  have h_179 := (hne _ (by omega)).trans h_179
  have h_180 := (hne _ (by omega)).trans h_180
  have h_181 := (hne _ (by omega)).trans h_181
  have h_182 := (hne _ (by omega)).trans h_182
  have h_183 := (hne _ (by omega)).trans h_183
  have h_184 := (hne _ (by omega)).trans h_184
  have h_185 := (hne _ (by omega)).trans h_185
  have h_186 := (hne _ (by omega)).trans h_186
  have h_187 := (hne _ (by omega)).trans h_187
  have h_188 := (hne _ (by omega)).trans h_188
  have hlow := fun j hj => (hne j (by omega)).trans (hlow j hj)
  refine lv_aload_n hx hb dX10_init_121 rfl (lv_at hl 0 rfl) ?_
  refine lv_sipush (v := 512) hx hb dX10_init_122 (by decide) ?_
  refine r_newa (atype := .boolean) (N := 512) (a0 := (512, .inl (fun _ => 0))) hx hb hts warr_boolean 1 rfl hK hR hS (fun _ => rfl) (by decide) (by decide) (Nat.le_of_ble_eq_true rfl) (Nat.le_of_ble_eq_true rfl) (Nat.le_of_ble_eq_true rfl) dX10_init_125 (fun o29 H h_189 hne hR hS => ?_)
  have ho := (hne _ (by omega)).trans ho
  have h_175 := (hne _ (by omega)).trans h_175
  have h_176 := (hne _ (by omega)).trans h_176
  have h_177 := (hne _ (by omega)).trans h_177
  have h_178 := (hne _ (by omega)).trans h_178
  have h_179 := (hne _ (by omega)).trans h_179
  have h_180 := (hne _ (by omega)).trans h_180
  have h_181 := (hne _ (by omega)).trans h_181
  have h_182 := (hne _ (by omega)).trans h_182
  have h_183 := (hne _ (by omega)).trans h_183
  have h_184 := (hne _ (by omega)).trans h_184
  have h_185 := (hne _ (by omega)).trans h_185
  have h_186 := (hne _ (by omega)).trans h_186
  have h_187 := (hne _ (by omega)).trans h_187
  have h_188 := (hne _ (by omega)).trans h_188
  have hlow := fun j hj => (hne j (by omega)).trans (hlow j hj)
  refine r_put (ci := 10) (ty := tyX10 20) (v := .ref (gB Γ + 189)) (C := RX10) (T := TX10) (N := 24) hx hb hts hin_10 tyX10 tyX10_ok nmX10 hown hin hK hR hS ho (by omega) rfl 20 (by decide) rfl rfl wf_X10_53 (tyX10_ok 20 (by decide)) rfl rfl (Nat.le_of_ble_eq_true rfl) dX10_init_127 (fun o30 H locs ho hne hR hS => ?_)
  have ho : o30 174 = .inr (10, [.int 0, .ref (gB Γ + 175), .int 0, .int 0, .int 0, .ref (gB Γ + 176), .ref (gB Γ + 177), .ref (gB Γ + 178), .ref (gB Γ + 179), .ref (gB Γ + 180), .ref (gB Γ + 181), .ref (gB Γ + 182), .int 0, .ref (gB Γ + 183), .ref (gB Γ + 184), .ref (gB Γ + 185), .int 0, .ref (gB Γ + 186), .ref (gB Γ + 187), .ref (gB Γ + 188), .ref (gB Γ + 189), .null, .null, .null]) := ho
  have h_175 := (hne _ (by omega)).trans h_175
  have h_176 := (hne _ (by omega)).trans h_176
  have h_177 := (hne _ (by omega)).trans h_177
  have h_178 := (hne _ (by omega)).trans h_178
  have h_179 := (hne _ (by omega)).trans h_179
  have h_180 := (hne _ (by omega)).trans h_180
  have h_181 := (hne _ (by omega)).trans h_181
  have h_182 := (hne _ (by omega)).trans h_182
  have h_183 := (hne _ (by omega)).trans h_183
  have h_184 := (hne _ (by omega)).trans h_184
  have h_185 := (hne _ (by omega)).trans h_185
  have h_186 := (hne _ (by omega)).trans h_186
  have h_187 := (hne _ (by omega)).trans h_187
  have h_188 := (hne _ (by omega)).trans h_188
  have h_189 := (hne _ (by omega)).trans h_189
  have hlow := fun j hj => (hne j (by omega)).trans (hlow j hj)
  refine lv_aload_n hx hb dX10_init_130 rfl (lv_at hl 0 rfl) ?_
  refine lv_sipush (v := 512) hx hb dX10_init_131 (by decide) ?_
  refine r_newa (atype := .int) (N := 512) (a0 := (512, .inl (fun _ => 0))) hx hb hts warr_int 0 rfl hK hR hS (fun _ => rfl) (by decide) (by decide) (Nat.le_of_ble_eq_true rfl) (Nat.le_of_ble_eq_true rfl) (Nat.le_of_ble_eq_true rfl) dX10_init_134 (fun o31 H h_190 hne hR hS => ?_)
  have ho := (hne _ (by omega)).trans ho
  have h_175 := (hne _ (by omega)).trans h_175
  have h_176 := (hne _ (by omega)).trans h_176
  have h_177 := (hne _ (by omega)).trans h_177
  have h_178 := (hne _ (by omega)).trans h_178
  have h_179 := (hne _ (by omega)).trans h_179
  have h_180 := (hne _ (by omega)).trans h_180
  have h_181 := (hne _ (by omega)).trans h_181
  have h_182 := (hne _ (by omega)).trans h_182
  have h_183 := (hne _ (by omega)).trans h_183
  have h_184 := (hne _ (by omega)).trans h_184
  have h_185 := (hne _ (by omega)).trans h_185
  have h_186 := (hne _ (by omega)).trans h_186
  have h_187 := (hne _ (by omega)).trans h_187
  have h_188 := (hne _ (by omega)).trans h_188
  have h_189 := (hne _ (by omega)).trans h_189
  have hlow := fun j hj => (hne j (by omega)).trans (hlow j hj)
  refine r_put (ci := 10) (ty := tyX10 21) (v := .ref (gB Γ + 190)) (C := RX10) (T := TX10) (N := 24) hx hb hts hin_10 tyX10 tyX10_ok nmX10 hown hin hK hR hS ho (by omega) rfl 21 (by decide) rfl rfl wf_X10_56 (tyX10_ok 21 (by decide)) rfl rfl (Nat.le_of_ble_eq_true rfl) dX10_init_136 (fun o32 H locs ho hne hR hS => ?_)
  have ho : o32 174 = .inr (10, [.int 0, .ref (gB Γ + 175), .int 0, .int 0, .int 0, .ref (gB Γ + 176), .ref (gB Γ + 177), .ref (gB Γ + 178), .ref (gB Γ + 179), .ref (gB Γ + 180), .ref (gB Γ + 181), .ref (gB Γ + 182), .int 0, .ref (gB Γ + 183), .ref (gB Γ + 184), .ref (gB Γ + 185), .int 0, .ref (gB Γ + 186), .ref (gB Γ + 187), .ref (gB Γ + 188), .ref (gB Γ + 189), .ref (gB Γ + 190), .null, .null]) := ho
  have h_175 := (hne _ (by omega)).trans h_175
  have h_176 := (hne _ (by omega)).trans h_176
  have h_177 := (hne _ (by omega)).trans h_177
  have h_178 := (hne _ (by omega)).trans h_178
  have h_179 := (hne _ (by omega)).trans h_179
  have h_180 := (hne _ (by omega)).trans h_180
  have h_181 := (hne _ (by omega)).trans h_181
  have h_182 := (hne _ (by omega)).trans h_182
  have h_183 := (hne _ (by omega)).trans h_183
  have h_184 := (hne _ (by omega)).trans h_184
  have h_185 := (hne _ (by omega)).trans h_185
  have h_186 := (hne _ (by omega)).trans h_186
  have h_187 := (hne _ (by omega)).trans h_187
  have h_188 := (hne _ (by omega)).trans h_188
  have h_189 := (hne _ (by omega)).trans h_189
  have h_190 := (hne _ (by omega)).trans h_190
  have hlow := fun j hj => (hne j (by omega)).trans (hlow j hj)
  refine lv_aload_n hx hb dX10_init_139 rfl (lv_at hl 0 rfl) ?_
  refine lv_sipush (v := 512) hx hb dX10_init_140 (by decide) ?_
  refine r_newa (atype := .int) (N := 512) (a0 := (512, .inl (fun _ => 0))) hx hb hts warr_int 0 rfl hK hR hS (fun _ => rfl) (by decide) (by decide) (Nat.le_of_ble_eq_true rfl) (Nat.le_of_ble_eq_true rfl) (Nat.le_of_ble_eq_true rfl) dX10_init_143 (fun o33 H h_191 hne hR hS => ?_)
  have ho := (hne _ (by omega)).trans ho
  have h_175 := (hne _ (by omega)).trans h_175
  have h_176 := (hne _ (by omega)).trans h_176
  have h_177 := (hne _ (by omega)).trans h_177
  have h_178 := (hne _ (by omega)).trans h_178
  have h_179 := (hne _ (by omega)).trans h_179
  have h_180 := (hne _ (by omega)).trans h_180
  have h_181 := (hne _ (by omega)).trans h_181
  have h_182 := (hne _ (by omega)).trans h_182
  have h_183 := (hne _ (by omega)).trans h_183
  have h_184 := (hne _ (by omega)).trans h_184
  have h_185 := (hne _ (by omega)).trans h_185
  have h_186 := (hne _ (by omega)).trans h_186
  have h_187 := (hne _ (by omega)).trans h_187
  have h_188 := (hne _ (by omega)).trans h_188
  have h_189 := (hne _ (by omega)).trans h_189
  have h_190 := (hne _ (by omega)).trans h_190
  have hlow := fun j hj => (hne j (by omega)).trans (hlow j hj)
  refine r_put (ci := 10) (ty := tyX10 22) (v := .ref (gB Γ + 191)) (C := RX10) (T := TX10) (N := 24) hx hb hts hin_10 tyX10 tyX10_ok nmX10 hown hin hK hR hS ho (by omega) rfl 22 (by decide) rfl rfl wf_X10_59 (tyX10_ok 22 (by decide)) rfl rfl (Nat.le_of_ble_eq_true rfl) dX10_init_145 (fun o34 H locs ho hne hR hS => ?_)
  have ho : o34 174 = .inr (10, [.int 0, .ref (gB Γ + 175), .int 0, .int 0, .int 0, .ref (gB Γ + 176), .ref (gB Γ + 177), .ref (gB Γ + 178), .ref (gB Γ + 179), .ref (gB Γ + 180), .ref (gB Γ + 181), .ref (gB Γ + 182), .int 0, .ref (gB Γ + 183), .ref (gB Γ + 184), .ref (gB Γ + 185), .int 0, .ref (gB Γ + 186), .ref (gB Γ + 187), .ref (gB Γ + 188), .ref (gB Γ + 189), .ref (gB Γ + 190), .ref (gB Γ + 191), .null]) := ho
  have h_175 := (hne _ (by omega)).trans h_175
  have h_176 := (hne _ (by omega)).trans h_176
  have h_177 := (hne _ (by omega)).trans h_177
  have h_178 := (hne _ (by omega)).trans h_178
  have h_179 := (hne _ (by omega)).trans h_179
  have h_180 := (hne _ (by omega)).trans h_180
  have h_181 := (hne _ (by omega)).trans h_181
  have h_182 := (hne _ (by omega)).trans h_182
  have h_183 := (hne _ (by omega)).trans h_183
  have h_184 := (hne _ (by omega)).trans h_184
  have h_185 := (hne _ (by omega)).trans h_185
  have h_186 := (hne _ (by omega)).trans h_186
  have h_187 := (hne _ (by omega)).trans h_187
  have h_188 := (hne _ (by omega)).trans h_188
  have h_189 := (hne _ (by omega)).trans h_189
  have h_190 := (hne _ (by omega)).trans h_190
  have h_191 := (hne _ (by omega)).trans h_191
  have hlow := fun j hj => (hne j (by omega)).trans (hlow j hj)
  refine lv_aload_n hx hb dX10_init_148 rfl (lv_at hl 0 rfl) ?_
  refine lv_sipush (v := 5632) hx hb dX10_init_149 (by decide) ?_
  refine r_newa (atype := .int) (N := 5632) (a0 := (5632, .inl (fun _ => 0))) hx hb hts warr_int 0 rfl hK hR hS (fun _ => rfl) (by decide) (by decide) (Nat.le_of_ble_eq_true rfl) (Nat.le_of_ble_eq_true rfl) (Nat.le_of_ble_eq_true rfl) dX10_init_152 (fun o35 H h_192 hne hR hS => ?_)
  have ho := (hne _ (by omega)).trans ho
  have h_175 := (hne _ (by omega)).trans h_175
  have h_176 := (hne _ (by omega)).trans h_176
  have h_177 := (hne _ (by omega)).trans h_177
  have h_178 := (hne _ (by omega)).trans h_178
  have h_179 := (hne _ (by omega)).trans h_179
  have h_180 := (hne _ (by omega)).trans h_180
  have h_181 := (hne _ (by omega)).trans h_181
  have h_182 := (hne _ (by omega)).trans h_182
  have h_183 := (hne _ (by omega)).trans h_183
  have h_184 := (hne _ (by omega)).trans h_184
  have h_185 := (hne _ (by omega)).trans h_185
  have h_186 := (hne _ (by omega)).trans h_186
  have h_187 := (hne _ (by omega)).trans h_187
  have h_188 := (hne _ (by omega)).trans h_188
  have h_189 := (hne _ (by omega)).trans h_189
  have h_190 := (hne _ (by omega)).trans h_190
  have h_191 := (hne _ (by omega)).trans h_191
  have hlow := fun j hj => (hne j (by omega)).trans (hlow j hj)
  refine r_put (ci := 10) (ty := tyX10 23) (v := .ref (gB Γ + 192)) (C := RX10) (T := TX10) (N := 24) hx hb hts hin_10 tyX10 tyX10_ok nmX10 hown hin hK hR hS ho (by omega) rfl 23 (by decide) rfl rfl wf_X10_62 (tyX10_ok 23 (by decide)) rfl rfl (Nat.le_of_ble_eq_true rfl) dX10_init_154 (fun o36 H locs ho hne hR hS => ?_)
  have ho : o36 174 = .inr (10, [.int 0, .ref (gB Γ + 175), .int 0, .int 0, .int 0, .ref (gB Γ + 176), .ref (gB Γ + 177), .ref (gB Γ + 178), .ref (gB Γ + 179), .ref (gB Γ + 180), .ref (gB Γ + 181), .ref (gB Γ + 182), .int 0, .ref (gB Γ + 183), .ref (gB Γ + 184), .ref (gB Γ + 185), .int 0, .ref (gB Γ + 186), .ref (gB Γ + 187), .ref (gB Γ + 188), .ref (gB Γ + 189), .ref (gB Γ + 190), .ref (gB Γ + 191), .ref (gB Γ + 192)]) := ho
  have h_175 := (hne _ (by omega)).trans h_175
  have h_176 := (hne _ (by omega)).trans h_176
  have h_177 := (hne _ (by omega)).trans h_177
  have h_178 := (hne _ (by omega)).trans h_178
  have h_179 := (hne _ (by omega)).trans h_179
  have h_180 := (hne _ (by omega)).trans h_180
  have h_181 := (hne _ (by omega)).trans h_181
  have h_182 := (hne _ (by omega)).trans h_182
  have h_183 := (hne _ (by omega)).trans h_183
  have h_184 := (hne _ (by omega)).trans h_184
  have h_185 := (hne _ (by omega)).trans h_185
  have h_186 := (hne _ (by omega)).trans h_186
  have h_187 := (hne _ (by omega)).trans h_187
  have h_188 := (hne _ (by omega)).trans h_188
  have h_189 := (hne _ (by omega)).trans h_189
  have h_190 := (hne _ (by omega)).trans h_190
  have h_191 := (hne _ (by omega)).trans h_191
  have h_192 := (hne _ (by omega)).trans h_192
  have hlow := fun j hj => (hne j (by omega)).trans (hlow j hj)
  have hP : va_P (gD Γ) gcls (lay Γ g00) H := by
    have e1 : lay Γ g00 = rl Γ 193 o36 := by
      apply List.ext_getElem?
      intro i
      by_cases hi : i < 193
      · rw [lay_get (gN_lt hi), rl_get hi]
        show some (gB Γ + i, gFin Γ i) = _
        by_cases e9 : i < 174
        · rw [hlow i e9]
        by_cases e9 : i = 174
        · subst e9; rw [ho]; rfl
        by_cases e9 : i = 175
        · subst e9; rw [h_175]; rfl
        by_cases e9 : i = 176
        · subst e9; rw [h_176]; rfl
        by_cases e9 : i = 177
        · subst e9; rw [h_177]; rfl
        by_cases e9 : i = 178
        · subst e9; rw [h_178]; rfl
        by_cases e9 : i = 179
        · subst e9; rw [h_179]; rfl
        by_cases e9 : i = 180
        · subst e9; rw [h_180]; rfl
        by_cases e9 : i = 181
        · subst e9; rw [h_181]; rfl
        by_cases e9 : i = 182
        · subst e9; rw [h_182]; rfl
        by_cases e9 : i = 183
        · subst e9; rw [h_183]; rfl
        by_cases e9 : i = 184
        · subst e9; rw [h_184]; rfl
        by_cases e9 : i = 185
        · subst e9; rw [h_185]; rfl
        by_cases e9 : i = 186
        · subst e9; rw [h_186]; rfl
        by_cases e9 : i = 187
        · subst e9; rw [h_187]; rfl
        by_cases e9 : i = 188
        · subst e9; rw [h_188]; rfl
        by_cases e9 : i = 189
        · subst e9; rw [h_189]; rfl
        by_cases e9 : i = 190
        · subst e9; rw [h_190]; rfl
        by_cases e9 : i = 191
        · subst e9; rw [h_191]; rfl
        by_cases e9 : i = 192
        · subst e9; rw [h_192]; rfl
        omega
      · rw [List.getElem?_eq_none (by rw [lay_len]; unfold gN gM; omega), List.getElem?_eq_none (by rw [rl_len]; omega)]
    rw [e1]
    exact hR.2
  unfold ft_X10_init at h
  generalize g00 = g at h hP
  refine lv_aload_n hx hb dX10_init_157 rfl (lv_at hl 0 rfl) ?_
  refine gf_10_13 hx hb hown hts hK hP wf_X10_35 dX10_init_158 ?_
  refine lv_iconst (v := 0) hx hb dX10_init_161 (by decide) ?_
  refine lv_iconst (v := 2) hx hb dX10_init_162 (by decide) ?_
  refine gIst hx hb hK hP hS is_183 dX10_init_163 h (fun H locs g1 h hP hS => ?_)
  refine lv_iconst (v := 0) hx hb dX10_init_164 (by decide) ?_
  refine lv_istore_n (lv' := [(1, .int (0 : Int32)), (0, .ref (gB Γ + 174))]) hx hb dX10_init_165 rfl hl (by decide) rfl (fun ls hl => ?_)
  exact bk_X10_init_166 C0  gFuel _ _ _ _ _ h hP hS (lv_sub hl [1, 0] rfl)
