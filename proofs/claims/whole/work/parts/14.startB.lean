theorem sl_c9 : Cond.classLink RL 8 RX9 ∈ lw_good := wm 79 (by decide +kernel) (by decide +kernel)
theorem sl_c10 : Cond.classLink RL 95 RX10 ∈ lw_good := wm 1130 (by decide +kernel) (by decide +kernel)
theorem sl_i9 : Cond.instantiable RX9 10 ∈ lw_good := wm 80 (by decide +kernel) (by decide +kernel)
theorem sl_i10 : Cond.instantiable RX10 24 ∈ lw_good := wm 1131 (by decide +kernel) (by decide +kernel)
theorem sl_n9 : Cond.initialized RX9 ∈ lw_good := wm 59 (by decide +kernel) (by decide +kernel)
theorem sl_n10 : Cond.initialized RX10 ∈ lw_good := wm 69 (by decide +kernel) (by decide +kernel)
theorem sl_m9 : Cond.methodLink RL 94 yX9_init ∈ lw_good := wm 81 (by decide +kernel) (by decide +kernel)
theorem sl_m10 : Cond.methodLink RL 97 yX10_init ∈ lw_good := wm 1132 (by decide +kernel) (by decide +kernel)
theorem sl_t9 : Cond.instanceMethod yX9_init ∈ lw_good := wm 82 (by decide +kernel) (by decide +kernel)
theorem sl_t10 : Cond.instanceMethod yX10_init ∈ lw_good := wm 1133 (by decide +kernel) (by decide +kernel)
theorem sc_X9_init : gCal yX9_init cX9_init 2 none 0 := ⟨wm 83 (by decide +kernel) (by decide +kernel), wm 59 (by decide +kernel) (by decide +kernel), by decide +kernel⟩
theorem sc_X10_init : gCal yX10_init cX10_init 2 none 0 := ⟨wm 1134 (by decide +kernel) (by decide +kernel), wm 69 (by decide +kernel) (by decide +kernel), by decide +kernel⟩
theorem sl_al : Cond.arrayClass (newarray.typeOf .long) ∈ lw_good := wm 120 (by decide +kernel) (by decide +kernel)
theorem W_size {p : Program} {l : Launch} {e : Env} {R : Room} {s : State} {m : MethodId} {args : Array Value} {below : List Frame} {meth : Method} {c : Code} {H : Heap} {locs : List Loc} {cells slots : Nat} {Q : State → Prop} {g : JFrame} (kk : H.size ≤ s.heap.size + cells → W p l e R s m args below meth c H locs cells slots Q g) : W p l e R s m args below meth c H locs cells slots Q g := fun T hT X => kk (by rw [← hT]; exact X.same.2.2.1) T hT X
/-- the pure claim: what is left when the machine is done with -/
def gPure : Prop := ∃ z0 : Unit × gG, ft_X10_init g00 = some z0 ∧ ∀ (L : Nat) (xs : Nat → Int32), L ≤ 2048 → fb_L_law_23 L xs gFuel 0 (z0.2.1, va_up z0.2.2 193 (fun _ => 0)) = some ()
set_option maxHeartbeats 8000000 in
set_option maxRecDepth 100000 in
theorem whole_start_of (hpure : gPure) {p : Program} {e : Env} {s : State} {m : MethodId} {below : List Frame} {meth : Method} {c : Code} (l : Launch) (hflags : l.flags = flags0) {b L : Nat} {xs : Nat → Int32} (hL : L ≤ 2048) (C0 : lw_At p s m meth c b L xs) : W p l e room_1 s m #[Value.ref b] below meth c s.heap [] 0 0 (lw_Z below #[Value.ref b] s) (entryFrame m ([Value.ref b] : List Value).toArray 7) := by
  obtain ⟨dC, dI, cA, tV, hK, hXx, hA⟩ := st_facts C0
  obtain ⟨z0, hz0, hpure⟩ := hpure
  have hst : l.stackTraces = false := by rw [Launch.stackTraces, hflags]; decide
  have C1 : ∀ x : Nat, gCx p s m #[Value.ref b] meth c (dC, dI, cA, tV, s.heap.size, x) RL code 7 ret := fun x => ⟨C0.1, C0.2.1, C0.2.2.2.1, C0.2.2.1, C0.2.2.2.2.1, fun w h => C0.2.2.2.2.2.1 w (lw_good_sub w h), hK, C0.2.2.2.2.2.2.2.2.1, hXx x⟩
  have hXs := C0.2.2.2.2.2.2.1
  have hbl := C0.2.2.2.2.2.2.2.1
  obtain ⟨Γ, hΓ⟩ : ∃ Γ : gE, Γ = (dC, dI, cA, tV, s.heap.size, 0) := ⟨_, rfl⟩
  have hB : gB Γ = s.heap.size := by rw [hΓ]; rfl
  have C2 : gCx p s m #[Value.ref b] meth c Γ RL code 7 ret := by rw [hΓ]; exact C1 0
  obtain ⟨hx, hb, hml, hr, hown, hts, hK, hlk, hX⟩ := id C2
  have hl := lv_entry ([.ref b]) (n := 7) (Nat.le_of_ble_eq_true rfl)
  rw [lg_entry_eq]
  generalize (lg_sl ([.ref b]) ++ List.replicate (7 - (lg_sl ([.ref b])).length) Slot.unset).toArray = ls at hl ⊢
  have hl : lv_has ls 7 [(0, .ref b)] := hl
  have hS : va_S (gA Γ) s.heap s.heap [] := va_S.rf
  obtain ⟨o0, ho0⟩ : ∃ o : Nat → va_E, o = fun _ => .inr (0, []) := ⟨_, rfl⟩
  have hR : rP Γ 0 o0 s.heap := ⟨by rw [hB]; rfl, fun k q h => by obtain ⟨h1, _⟩ := rl_at h; omega⟩
  refine r_new (ci := 9) (fs := [.null, .null, .null, .null, .null, .null, .null, .null, .null, .null]) (C := RX9) (T := TX9) (N := 10) hx hb hts hin_9 tyX9 tyX9_ok hown sl_c9 sl_i9 sl_n9 hK hR hS rfl (fun j hj => by rcases (show j = 0 ∨ j = 1 ∨ j = 2 ∨ j = 3 ∨ j = 4 ∨ j = 5 ∨ j = 6 ∨ j = 7 ∨ j = 8 ∨ j = 9 by omega) with rfl | rfl | rfl | rfl | rfl | rfl | rfl | rfl | rfl | rfl <;> rfl) (Nat.le_of_ble_eq_true rfl) (Nat.le_of_ble_eq_true rfl) dL_law_0 (fun o1 H h0 hne hR hS => ?_)
  clear hne
  refine lv_dup hx hb dL_law_3 rfl ?_
  refine r_call (rest := [.ref (gB Γ + 0)]) C2 hA sc_X9_init rfl sl_t9 sl_m9 ⟨(Nat.le_of_ble_eq_true rfl), (Nat.le_of_ble_eq_true rfl)⟩ ⟨(Nat.le_of_ble_eq_true rfl), (Nat.le_of_ble_eq_true rfl)⟩ [] rfl (Nat.le_of_ble_eq_true rfl) hR hS hl.1 dL_law_4 (k_X9_init l Γ o1 h0) (fun o2 H locs hfin hR hS => ?_) rfl
  refine lv_astore_n (lv' := [(1, .ref (gB Γ + 0)), (0, .ref b)]) hx hb dL_law_7 rfl hl (by decide) rfl (fun ls hl => ?_)
  refine r_new (ci := 10) (fs := [.int 0, .null, .int 0, .int 0, .int 0, .null, .null, .null, .null, .null, .null, .null, .int 0, .null, .null, .null, .int 0, .null, .null, .null, .null, .null, .null, .null]) (C := RX10) (T := TX10) (N := 24) hx hb hts hin_10 tyX10 tyX10_ok hown sl_c10 sl_i10 sl_n10 hK hR hS rfl (fun j hj => by rcases (show j = 0 ∨ j = 1 ∨ j = 2 ∨ j = 3 ∨ j = 4 ∨ j = 5 ∨ j = 6 ∨ j = 7 ∨ j = 8 ∨ j = 9 ∨ j = 10 ∨ j = 11 ∨ j = 12 ∨ j = 13 ∨ j = 14 ∨ j = 15 ∨ j = 16 ∨ j = 17 ∨ j = 18 ∨ j = 19 ∨ j = 20 ∨ j = 21 ∨ j = 22 ∨ j = 23 by omega) with rfl | rfl | rfl | rfl | rfl | rfl | rfl | rfl | rfl | rfl | rfl | rfl | rfl | rfl | rfl | rfl | rfl | rfl | rfl | rfl | rfl | rfl | rfl | rfl <;> rfl) (Nat.le_of_ble_eq_true rfl) (Nat.le_of_ble_eq_true rfl) dL_law_8 (fun o3 H h174 hne hR hS => ?_)
  have hfin := fun j hj => (hne j (by omega)).trans (hfin j hj)
  clear hne
  refine lv_dup hx hb dL_law_11 rfl ?_
  refine va_callv (va_runI (As := []) (rest := [.ref (gB Γ + 174)]) ⟨hx, hb, hml, hown, hts⟩ (k_X10_init l Γ (by rw [hΓ]) o3 h174 hfin z0 hz0) ⟨callB_of (rm := gRx 1 25 18 16020) 0 hts (lw_goodIn sc_X10_init.1 (fun _ h => h)) rfl rfl rfl (hts _ sc_X10_init.2.1) (hts _ sl_m10) sc_X10_init.2.2 ⟨(Nat.le_of_ble_eq_true rfl), (Nat.le_of_ble_eq_true rfl)⟩, rfl, hts _ sl_t10⟩ ⟨fun a U f mk q => ⟨q.1, q.2.1, va_K.moved (u := U) (U := U.calling f mk a) (Vm.Alike.refl U.vm) q.2.2.1, q.2.2.2.1.calling, va_AO.moved (u := U) (U := U.calling f mk a) (Vm.Alike.refl U.vm) q.2.2.2.2⟩, fun U hU hW => ⟨rfl, by rw [hU]; exact hR, va_K.moved hW.alike hK, (hX.kept (H1 := U.heap) (by rw [hU]; exact hS.2.1)).warm hW, va_AO.moved hW.alike hA⟩⟩ rfl rfl hl.1 rfl (lv_room (Nat.le_of_ble_eq_true rfl)) dL_law_12 ⟨(Nat.le_of_ble_eq_true rfl), (Nat.le_of_ble_eq_true rfl)⟩) hS (fun q _ h => h) (fun q h => h) (fun u9 t H1 locs1 ht hvm _ hB9 hz1 hk1 hS1 => ?_)
  have hP : va_P (gD Γ) gcls (lay Γ z0.2) H1 := by rw [← ht]; exact hB9
  clear hB9 hS hR
  have hS := hS1
  refine lv_astore_n (lv' := [(2, .ref (gB Γ + 174)), (1, .ref (gB Γ + 0)), (0, .ref b)]) hx hb dL_law_15 rfl hl (by decide) rfl (fun ls hl => ?_)
  refine W_size (fun hsz => ?_)
  have hR : rP Γ 193 (fun j => gSh Γ j (z0.2.1 j) (z0.2.2 j)) H1 := by
    have e0 : gN Γ = 193 := by rw [hΓ]; rfl
    refine ⟨?_, ?_⟩
    · have h1 := (hP 192 _ (lay_get (by rw [e0]; decide))).lt
      have h1 : gB Γ + 192 < H1.size := h1
      rw [hB] at h1 ⊢
      omega
    · have e1 : lay Γ z0.2 = rl Γ 193 (fun j => gSh Γ j (z0.2.1 j) (z0.2.2 j)) := by unfold lay rl; rw [e0]
      rw [← e1]; exact hP
  refine lv_iconst (v := 1) hx hb dL_law_16 (by decide) ?_
  refine r_newa (atype := .long) (N := 1) (a0 := (1, .inr (.inl (fun _ => 0)))) hx hb hts sl_al 2 rfl hK hR hS (fun _ => rfl) (by decide) (by decide) (Nat.le_of_ble_eq_true rfl) (Nat.le_of_ble_eq_true rfl) (by decide) dL_law_17 (fun o4 H h193 hne hR hS => ?_)
  obtain ⟨Γ1, hΓ1⟩ : ∃ Γ : gE, Γ = (dC, dI, cA, tV, s.heap.size, 1) := ⟨_, rfl⟩
  have eB : gB Γ = gB Γ1 := by rw [hΓ, hΓ1]; rfl
  have hP1 : va_P (gD Γ1) gcls (lay Γ1 (z0.2.1, va_up z0.2.2 193 (fun _ => 0))) H := by
    have e1 : lay Γ1 (z0.2.1, va_up z0.2.2 193 (fun _ => 0)) = rl Γ 194 o4 := by
      have e0 : gN Γ1 = 194 := by rw [hΓ1]; rfl
      apply List.ext_getElem?
      intro i
      by_cases hi : i < 194
      · rw [lay_get (by rw [e0]; exact hi), rl_get hi, ← eB]
        by_cases e9 : i = 193
        · subst e9
          have e3 : va_up z0.2.2 193 (fun _ => (0 : Int64)) 193 = (fun _ => 0) := by unfold va_up; simp
          have e4 : (z0.2.1, va_up z0.2.2 193 (fun _ => (0 : Int64))).2 193 = (fun _ => 0) := e3
          rw [h193, e4, hΓ, hΓ1]
          rfl
        · rw [hne i e9]
          have e2 : (z0.2.1, va_up z0.2.2 193 (fun _ => 0)).2 i = z0.2.2 i := by unfold va_up; simp [e9]
          rw [e2, hΓ, hΓ1]
          rfl
      · rw [List.getElem?_eq_none (by rw [lay_len, e0]; omega), List.getElem?_eq_none (by rw [rl_len]; omega)]
    rw [e1]
    have h9 := hR.2
    have eD : gD Γ1 = gD Γ := by rw [hΓ, hΓ1]; rfl
    rw [eD]
    exact h9
  have hS : va_S (gA Γ1) s.heap H locs1 := by
    have eA : gA Γ1 = gA Γ := by unfold gA; rw [eB]
    rw [eA]; exact hS
  rw [eB] at hl ⊢
  refine lv_astore_n (lv' := [(3, .ref (gB Γ1 + 193)), (2, .ref (gB Γ1 + 174)), (1, .ref (gB Γ1 + 0)), (0, .ref b)]) hx hb dL_law_19 rfl hl (by decide) rfl (fun ls hl => ?_)
  refine lv_iconst (v := 0) hx hb dL_law_20 (by decide) ?_
  refine lv_istore (lv' := [(4, .int 0), (3, .ref (gB Γ1 + 193)), (2, .ref (gB Γ1 + 174)), (1, .ref (gB Γ1 + 0)), (0, .ref b)]) hx hb dL_law_21 hl (by decide) rfl (fun ls hl => ?_)
  exact bk_L_law_23 hst (by rw [hΓ1]; rfl) (by rw [hΓ1]; exact C1 1) hXs hbl (by rw [hΓ1]; rfl) gFuel _ _ (by decide) (by decide) 0 _ H _ ls (hpure L xs hL) hP1 hS (lv_sub hl [4, 3, 2, 1, 0] rfl)
