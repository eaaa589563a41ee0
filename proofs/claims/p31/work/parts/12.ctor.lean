theorem warr_boolean : Cond.arrayClass (newarray.typeOf .boolean) ∈ lw_good := wm 132 (by decide +kernel) (by decide +kernel)
theorem warr_char : Cond.arrayClass (newarray.typeOf .char) ∈ lw_good := wm 73 (by decide +kernel) (by decide +kernel)
theorem warr_int : Cond.arrayClass (newarray.typeOf .int) ∈ lw_good := wm 131 (by decide +kernel) (by decide +kernel)
theorem warr_long : Cond.arrayClass (newarray.typeOf .long) ∈ lw_good := wm 93 (by decide +kernel) (by decide +kernel)
theorem wc_obj : Cond.code Lib.objectInit ⟨#[0xb1]⟩ 1 none ∈ lw_good := wm 59 (by decide +kernel) (by decide +kernel)
theorem wcl_X1_9 : Cond.classLink RX1 9 RX5 ∈ lw_good := wm 189 (by decide +kernel) (by decide +kernel)
theorem wcl_X2_9 : Cond.classLink RX2 9 RX7 ∈ lw_good := wm 80 (by decide +kernel) (by decide +kernel)
theorem wcl_X3_19 : Cond.classLink RX3 19 RX5 ∈ lw_good := wm 239 (by decide +kernel) (by decide +kernel)
theorem wcl_X9_16 : Cond.classLink RX9 16 RX2 ∈ lw_good := wm 74 (by decide +kernel) (by decide +kernel)
theorem wcl_X9_23 : Cond.classLink RX9 23 RX0 ∈ lw_good := wm 133 (by decide +kernel) (by decide +kernel)
theorem wcl_X9_30 : Cond.classLink RX9 30 RX5 ∈ lw_good := wm 146 (by decide +kernel) (by decide +kernel)
theorem wcl_X9_39 : Cond.classLink RX9 39 RX1 ∈ lw_good := wm 183 (by decide +kernel) (by decide +kernel)
theorem wcl_X9_54 : Cond.classLink RX9 54 RX8 ∈ lw_good := wm 202 (by decide +kernel) (by decide +kernel)
theorem wcl_X9_61 : Cond.classLink RX9 61 RX3 ∈ lw_good := wm 233 (by decide +kernel) (by decide +kernel)
theorem wcl_X9_70 : Cond.classLink RX9 70 RX4 ∈ lw_good := wm 251 (by decide +kernel) (by decide +kernel)
theorem wcl_X9_9 : Cond.classLink RX9 9 RX6 ∈ lw_good := wm 60 (by decide +kernel) (by decide +kernel)
theorem wi_X0_init : Cond.instanceMethod yX0_init ∈ lw_good := wm 136 (by decide +kernel) (by decide +kernel)
theorem wi_X1_init : Cond.instanceMethod yX1_init ∈ lw_good := wm 186 (by decide +kernel) (by decide +kernel)
theorem wi_X2_init : Cond.instanceMethod yX2_init ∈ lw_good := wm 77 (by decide +kernel) (by decide +kernel)
theorem wi_X3_init : Cond.instanceMethod yX3_init ∈ lw_good := wm 236 (by decide +kernel) (by decide +kernel)
theorem wi_X4_init : Cond.instanceMethod yX4_init ∈ lw_good := wm 254 (by decide +kernel) (by decide +kernel)
theorem wi_X5_init : Cond.instanceMethod yX5_init ∈ lw_good := wm 149 (by decide +kernel) (by decide +kernel)
theorem wi_X6_init : Cond.instanceMethod yX6_init ∈ lw_good := wm 63 (by decide +kernel) (by decide +kernel)
theorem wi_X7_init : Cond.instanceMethod yX7_init ∈ lw_good := wm 83 (by decide +kernel) (by decide +kernel)
theorem wi_X8_init : Cond.instanceMethod yX8_init ∈ lw_good := wm 205 (by decide +kernel) (by decide +kernel)
theorem wi_obj : Cond.instanceMethod Lib.objectInit ∈ lw_good := wm 58 (by decide +kernel) (by decide +kernel)
theorem win_X0 : Cond.instantiable RX0 2 ∈ lw_good := wm 134 (by decide +kernel) (by decide +kernel)
theorem win_X1 : Cond.instantiable RX1 3 ∈ lw_good := wm 184 (by decide +kernel) (by decide +kernel)
theorem win_X2 : Cond.instantiable RX2 12 ∈ lw_good := wm 75 (by decide +kernel) (by decide +kernel)
theorem win_X3 : Cond.instantiable RX3 3 ∈ lw_good := wm 234 (by decide +kernel) (by decide +kernel)
theorem win_X4 : Cond.instantiable RX4 2 ∈ lw_good := wm 252 (by decide +kernel) (by decide +kernel)
theorem win_X5 : Cond.instantiable RX5 10 ∈ lw_good := wm 147 (by decide +kernel) (by decide +kernel)
theorem win_X6 : Cond.instantiable RX6 2 ∈ lw_good := wm 61 (by decide +kernel) (by decide +kernel)
theorem win_X7 : Cond.instantiable RX7 2 ∈ lw_good := wm 81 (by decide +kernel) (by decide +kernel)
theorem win_X8 : Cond.instantiable RX8 8 ∈ lw_good := wm 203 (by decide +kernel) (by decide +kernel)
theorem wl_X0_3 : Cond.methodLink RX0 3 Lib.objectInit ∈ lw_good := wm 138 (by decide +kernel) (by decide +kernel)
theorem wl_X1_17 : Cond.methodLink RX1 17 yX5_init ∈ lw_good := wm 191 (by decide +kernel) (by decide +kernel)
theorem wl_X1_3 : Cond.methodLink RX1 3 Lib.objectInit ∈ lw_good := wm 188 (by decide +kernel) (by decide +kernel)
theorem wl_X2_3 : Cond.methodLink RX2 3 Lib.objectInit ∈ lw_good := wm 79 (by decide +kernel) (by decide +kernel)
theorem wl_X3_21 : Cond.methodLink RX3 21 yX5_init ∈ lw_good := wm 240 (by decide +kernel) (by decide +kernel)
theorem wl_X3_3 : Cond.methodLink RX3 3 Lib.objectInit ∈ lw_good := wm 238 (by decide +kernel) (by decide +kernel)
theorem wl_X4_3 : Cond.methodLink RX4 3 Lib.objectInit ∈ lw_good := wm 256 (by decide +kernel) (by decide +kernel)
theorem wl_X5_3 : Cond.methodLink RX5 3 Lib.objectInit ∈ lw_good := wm 151 (by decide +kernel) (by decide +kernel)
theorem wl_X6_3 : Cond.methodLink RX6 3 Lib.objectInit ∈ lw_good := wm 65 (by decide +kernel) (by decide +kernel)
theorem wl_X7_3 : Cond.methodLink RX7 3 Lib.objectInit ∈ lw_good := wm 85 (by decide +kernel) (by decide +kernel)
theorem wl_X8_3 : Cond.methodLink RX8 3 Lib.objectInit ∈ lw_good := wm 207 (by decide +kernel) (by decide +kernel)
theorem wl_X9_25 : Cond.methodLink RX9 25 yX0_init ∈ lw_good := wm 135 (by decide +kernel) (by decide +kernel)
theorem wl_X9_3 : Cond.methodLink RX9 3 Lib.objectInit ∈ lw_good := wm 57 (by decide +kernel) (by decide +kernel)
theorem wl_X9_32 : Cond.methodLink RX9 32 yX5_init ∈ lw_good := wm 148 (by decide +kernel) (by decide +kernel)
theorem wl_X9_41 : Cond.methodLink RX9 41 yX1_init ∈ lw_good := wm 185 (by decide +kernel) (by decide +kernel)
theorem wl_X9_56 : Cond.methodLink RX9 56 yX8_init ∈ lw_good := wm 204 (by decide +kernel) (by decide +kernel)
theorem wl_X9_63 : Cond.methodLink RX9 63 yX3_init ∈ lw_good := wm 235 (by decide +kernel) (by decide +kernel)
theorem wl_X9_72 : Cond.methodLink RX9 72 yX4_init ∈ lw_good := wm 253 (by decide +kernel) (by decide +kernel)
theorem wn_X0 : Cond.initialized RX0 ∈ lw_good := wm 37 (by decide +kernel) (by decide +kernel)
theorem wn_X1 : Cond.initialized RX1 ∈ lw_good := wm 39 (by decide +kernel) (by decide +kernel)
theorem wn_X2 : Cond.initialized RX2 ∈ lw_good := wm 35 (by decide +kernel) (by decide +kernel)
theorem wn_X3 : Cond.initialized RX3 ∈ lw_good := wm 41 (by decide +kernel) (by decide +kernel)
theorem wn_X4 : Cond.initialized RX4 ∈ lw_good := wm 42 (by decide +kernel) (by decide +kernel)
theorem wn_X5 : Cond.initialized RX5 ∈ lw_good := wm 38 (by decide +kernel) (by decide +kernel)
theorem wn_X6 : Cond.initialized RX6 ∈ lw_good := wm 34 (by decide +kernel) (by decide +kernel)
theorem wn_X7 : Cond.initialized RX7 ∈ lw_good := wm 36 (by decide +kernel) (by decide +kernel)
theorem wn_X8 : Cond.initialized RX8 ∈ lw_good := wm 40 (by decide +kernel) (by decide +kernel)
theorem wln_X2_11 : (RX2, 11, yX7_init, "ChestLetters") ∈ gNsts := List.mem_of_getElem? (i := 2) rfl
theorem wln_X9_11 : (RX9, 11, yX6_init, "ChestLetters") ∈ gNsts := List.mem_of_getElem? (i := 0) rfl
theorem wln_X9_18 : (RX9, 18, yX2_init, "ChestLetters") ∈ gNsts := List.mem_of_getElem? (i := 1) rfl
theorem cal_X0_init : gCal yX0_init cX0_init 2 none 0 := ⟨wm 137 (by decide +kernel) (by decide +kernel), wm 37 (by decide +kernel) (by decide +kernel), by decide +kernel⟩
theorem cal_X1_init : gCal yX1_init cX1_init 3 none 1 := ⟨wm 187 (by decide +kernel) (by decide +kernel), wm 39 (by decide +kernel) (by decide +kernel), by decide +kernel⟩
theorem cal_X2_init : gCal yX2_init cX2_init 1 none 0 := ⟨wm 78 (by decide +kernel) (by decide +kernel), wm 35 (by decide +kernel) (by decide +kernel), by decide +kernel⟩
theorem cal_X3_init : gCal yX3_init cX3_init 3 none 2 := ⟨wm 237 (by decide +kernel) (by decide +kernel), wm 41 (by decide +kernel) (by decide +kernel), by decide +kernel⟩
theorem cal_X4_init : gCal yX4_init cX4_init 2 none 1 := ⟨wm 255 (by decide +kernel) (by decide +kernel), wm 42 (by decide +kernel) (by decide +kernel), by decide +kernel⟩
theorem cal_X5_init : gCal yX5_init cX5_init 2 none 1 := ⟨wm 150 (by decide +kernel) (by decide +kernel), wm 38 (by decide +kernel) (by decide +kernel), by decide +kernel⟩
theorem cal_X6_init : gCal yX6_init cX6_init 1 none 0 := ⟨wm 64 (by decide +kernel) (by decide +kernel), wm 34 (by decide +kernel) (by decide +kernel), by decide +kernel⟩
theorem cal_X7_init : gCal yX7_init cX7_init 1 none 0 := ⟨wm 84 (by decide +kernel) (by decide +kernel), wm 36 (by decide +kernel) (by decide +kernel), by decide +kernel⟩
theorem cal_X8_init : gCal yX8_init cX8_init 2 none 1 := ⟨wm 206 (by decide +kernel) (by decide +kernel), wm 40 (by decide +kernel) (by decide +kernel), by decide +kernel⟩
def gHeld0 : Nat → Int32 := fun j => if j < 512 then ((1 : Int32) ||| ((nI j &&& (1 : Int32)) <<< ((1 : Int32) &&& 31))) else 0
def g00 : gG := (fun k => if k = 14 then (fun j => if j = 1 then 2 else 0) else if k = 15 then gHeld0 else fun _ => 0, fun _ _ => 0)
def gFin (Γ : gE) (j : Nat) : va_E := gSh Γ j (g00.1 j) (g00.2 j)
theorem isSt_16 {k : Nat} (h : isSt k) : 16 ≤ k := isSt_all (P := fun k => 16 ≤ k) (List.forall_mem_cons.mpr ⟨by decide, List.forall_mem_cons.mpr ⟨by decide, List.forall_mem_cons.mpr ⟨by decide, List.forall_mem_cons.mpr ⟨by decide, List.forall_mem_cons.mpr ⟨by decide, List.forall_mem_cons.mpr ⟨by decide, List.forall_mem_cons.mpr ⟨by decide, List.forall_mem_cons.mpr ⟨by decide, List.forall_mem_cons.mpr ⟨by decide, List.forall_mem_cons.mpr ⟨by decide, List.forall_mem_cons.mpr ⟨by decide, List.forall_mem_cons.mpr ⟨by decide, List.forall_mem_cons.mpr ⟨by decide, List.forall_mem_cons.mpr ⟨by decide, List.forall_mem_cons.mpr ⟨by decide, List.forall_mem_cons.mpr ⟨by decide, List.forall_mem_cons.mpr ⟨by decide, List.forall_mem_cons.mpr ⟨by decide, fun _ h => absurd h List.not_mem_nil⟩⟩⟩⟩⟩⟩⟩⟩⟩⟩⟩⟩⟩⟩⟩⟩⟩⟩) h
theorem gFin_o {Γ : gE} {k : Nat} (h : isSt k) : gFin Γ k = .inr (5, gf5 Γ k (fun _ => 0) (fun _ => 0)) := by
  have h16 := isSt_16 h
  unfold gFin g00
  rw [(isSt_o h).2]
  show Sum.inr (5, gf5 Γ k (if k = 14 then _ else if k = 15 then _ else _) _) = _
  rw [if_neg (by omega), if_neg (by omega)]
theorem gFin_a {Γ : gE} {k i n : Nat} (hI : isI (k + i) n) (h16 : 16 ≤ k) : gFin Γ (k + i) = .inl (Γ.2.2.1 0, n, .inl (fun _ => 0)) := by
  unfold gFin g00
  rw [hI.2]
  show Sum.inl (Γ.2.2.1 0, n, Sum.inl (if k + i = 14 then _ else if k + i = 15 then _ else _)) = _
  rw [if_neg (by omega), if_neg (by omega)]
set_option maxHeartbeats 4000000 in
set_option maxRecDepth 20000 in
theorem k_X6_init (l : Launch) (Γ : gE)  (o : Nat → va_E) (ho : o 1 = .inr (6, [.null, .int 0])) : gK l yX6_init cX6_init 1 1 12 1 120 Γ [.ref (gB Γ + 1)] 2 o 3 (fun o1 => (∀ j, j < 1 → o1 j = o j) ∧ ∀ j, 1 ≤ j → j < 3 → o1 j = gFin Γ j) := by
  refine rStart (own := RX6) (by decide +kernel) rfl rfl (Nat.le_of_ble_eq_true rfl) ?_
  intro p e s m below meth c C0 hin hA ls hl hR
  have hS : va_S (gA0 Γ) s.heap s.heap [] := va_S.rf
  have hl : lv_has ls 1 [(0, .ref (gB Γ + 1))] := hl
  obtain ⟨hx, hb, hml, hr, hown, hts, hK, hlk, hX⟩ := id C0
  have hlow : ∀ j, j < 1 → o j = o j := fun _ _ => rfl
  refine lv_aload_n hx hb dX6_init_0 rfl (lv_at hl 0 rfl) ?_
  refine r_obj C0 wl_X6_3 wi_obj wc_obj hl.1 dX6_init_1 (Nat.le_of_ble_eq_true rfl) (Nat.le_of_ble_eq_true rfl) ?_
  refine lv_aload_n hx hb dX6_init_4 rfl (lv_at hl 0 rfl) ?_
  refine lv_bipush (v := 120) hx hb dX6_init_5 (by decide) ?_
  refine r_newa (atype := .char) (N := 120) (a0 := (120, .inl (fun _ => 0))) hx hb hts warr_char 3 rfl hK hR hS (fun _ => rfl) (by decide) (by decide) (Nat.le_of_ble_eq_true rfl) (Nat.le_of_ble_eq_true rfl) (Nat.le_of_ble_eq_true rfl) dX6_init_7 (fun o1 H h_2 hne hR hS => ?_)
  have ho := (hne _ (by omega)).trans ho
  have hlow := fun j hj => (hne j (by omega)).trans (hlow j hj)
  refine r_put (ci := 6) (ty := tyX6 0) (v := .ref (gB Γ + 2)) (C := RX6) (T := TX6) (N := 2) hx hb hts hin_6 tyX6 tyX6_ok nmX6 hown hin hK hR hS ho (by omega) rfl 0 (by decide) rfl rfl wf_X6_9 (tyX6_ok 0 (by decide)) rfl rfl (Nat.le_of_ble_eq_true rfl) dX6_init_9 (fun o2 H locs ho hne hR hS => ?_)
  have ho : o2 1 = .inr (6, [.ref (gB Γ + 2), .int 0]) := ho
  have h_2 := (hne _ (by omega)).trans h_2
  have hlow := fun j hj => (hne j (by omega)).trans (hlow j hj)
  refine r_vret hx hb hr hlk hR hS (by omega) (by omega) ?_ dX6_init_12
  refine ⟨hlow, fun j h1 h2 => ?_⟩
  by_cases e9 : j = 1
  · subst e9; exact ho.trans rfl
  by_cases e9 : j = 2
  · subst e9; exact h_2.trans rfl
  omega
set_option maxHeartbeats 4000000 in
set_option maxRecDepth 20000 in
theorem k_X7_init (l : Launch) (Γ : gE)  (o : Nat → va_E) (ho : o 4 = .inr (7, [.null, .int 0])) : gK l yX7_init cX7_init 1 1 12 1 960 Γ [.ref (gB Γ + 4)] 5 o 6 (fun o1 => (∀ j, j < 4 → o1 j = o j) ∧ ∀ j, 4 ≤ j → j < 6 → o1 j = gFin Γ j) := by
  refine rStart (own := RX7) (by decide +kernel) rfl rfl (Nat.le_of_ble_eq_true rfl) ?_
  intro p e s m below meth c C0 hin hA ls hl hR
  have hS : va_S (gA0 Γ) s.heap s.heap [] := va_S.rf
  have hl : lv_has ls 1 [(0, .ref (gB Γ + 4))] := hl
  obtain ⟨hx, hb, hml, hr, hown, hts, hK, hlk, hX⟩ := id C0
  have hlow : ∀ j, j < 4 → o j = o j := fun _ _ => rfl
  refine lv_aload_n hx hb dX7_init_0 rfl (lv_at hl 0 rfl) ?_
  refine r_obj C0 wl_X7_3 wi_obj wc_obj hl.1 dX7_init_1 (Nat.le_of_ble_eq_true rfl) (Nat.le_of_ble_eq_true rfl) ?_
  refine lv_aload_n hx hb dX7_init_4 rfl (lv_at hl 0 rfl) ?_
  refine lv_sipush (v := 960) hx hb dX7_init_5 (by decide) ?_
  refine r_newa (atype := .long) (N := 960) (a0 := (960, .inr (.inl (fun _ => 0)))) hx hb hts warr_long 2 rfl hK hR hS (fun _ => rfl) (by decide) (by decide) (Nat.le_of_ble_eq_true rfl) (Nat.le_of_ble_eq_true rfl) (Nat.le_of_ble_eq_true rfl) dX7_init_8 (fun o1 H h_5 hne hR hS => ?_)
  have ho := (hne _ (by omega)).trans ho
  have hlow := fun j hj => (hne j (by omega)).trans (hlow j hj)
  refine r_put (ci := 7) (ty := tyX7 0) (v := .ref (gB Γ + 5)) (C := RX7) (T := TX7) (N := 2) hx hb hts hin_7 tyX7 tyX7_ok nmX7 hown hin hK hR hS ho (by omega) rfl 0 (by decide) rfl rfl wf_X7_9 (tyX7_ok 0 (by decide)) rfl rfl (Nat.le_of_ble_eq_true rfl) dX7_init_10 (fun o2 H locs ho hne hR hS => ?_)
  have ho : o2 4 = .inr (7, [.ref (gB Γ + 5), .int 0]) := ho
  have h_5 := (hne _ (by omega)).trans h_5
  have hlow := fun j hj => (hne j (by omega)).trans (hlow j hj)
  refine r_vret hx hb hr hlk hR hS (by omega) (by omega) ?_ dX7_init_13
  refine ⟨hlow, fun j h1 h2 => ?_⟩
  by_cases e9 : j = 4
  · subst e9; exact ho.trans rfl
  by_cases e9 : j = 5
  · subst e9; exact h_5.trans rfl
  omega
set_option maxHeartbeats 4000000 in
set_option maxRecDepth 20000 in
theorem k_X2_init (l : Launch) (Γ : gE)  (o : Nat → va_E) (ho : o 3 = .inr (2, [.null, .null, .null, .null, .null, .null, .null, .null, .null, .int 0, .int 0, .int 0])) : gK l yX2_init cX2_init 1 2 32 10 1667 Γ [.ref (gB Γ + 3)] 4 o 14 (fun o1 => (∀ j, j < 3 → o1 j = o j) ∧ ∀ j, 3 ≤ j → j < 14 → o1 j = gFin Γ j) := by
  refine rStart (own := RX2) (by decide +kernel) rfl rfl (Nat.le_of_ble_eq_true rfl) ?_
  intro p e s m below meth c C0 hin hA ls hl hR
  have hS : va_S (gA0 Γ) s.heap s.heap [] := va_S.rf
  have hl : lv_has ls 1 [(0, .ref (gB Γ + 3))] := hl
  obtain ⟨hx, hb, hml, hr, hown, hts, hK, hlk, hX⟩ := id C0
  have hlow : ∀ j, j < 3 → o j = o j := fun _ _ => rfl
  refine lv_aload_n hx hb dX2_init_0 rfl (lv_at hl 0 rfl) ?_
  refine r_obj C0 wl_X2_3 wi_obj wc_obj hl.1 dX2_init_1 (Nat.le_of_ble_eq_true rfl) (Nat.le_of_ble_eq_true rfl) ?_
  refine lv_aload_n hx hb dX2_init_4 rfl (lv_at hl 0 rfl) ?_
  refine r_new (ci := 7) (fs := [.null, .int 0]) (C := RX7) (T := TX7) (N := 2) hx hb hts hin_7 tyX7 tyX7_ok hown wcl_X2_9 win_X7 wn_X7 hK hR hS rfl (fun j hj => by rcases (show j = 0 ∨ j = 1 by omega) with rfl | rfl <;> rfl) (Nat.le_of_ble_eq_true rfl) (Nat.le_of_ble_eq_true rfl) dX2_init_5 (fun o1 H h_4 hne hR hS => ?_)
  have ho := (hne _ (by omega)).trans ho
  have hlow := fun j hj => (hne j (by omega)).trans (hlow j hj)
  refine lv_dup hx hb dX2_init_8 rfl ?_
  refine r_callN (rest := [.ref (gB Γ + 4), .ref (gB Γ + 3)]) C0 hA cal_X7_init rfl wi_X7_init wln_X2_11 ⟨(Nat.le_of_ble_eq_true rfl), (Nat.le_of_ble_eq_true rfl)⟩ ⟨(Nat.le_of_ble_eq_true rfl), (Nat.le_of_ble_eq_true rfl)⟩ [] rfl (Nat.le_of_ble_eq_true rfl) hR hS hl.1 dX2_init_9 (k_X7_init l Γ o1 h_4) (fun o2 H locs hpo hR hS => ?_) rfl
  obtain ⟨hkeep, hfin9⟩ := hpo
  have ho := (hkeep _ (by omega)).trans ho
  have hlow := fun j hj => (hkeep j (by omega)).trans (hlow j hj)
  have hr1 := hfin9
  clear hkeep hfin9
  refine r_put (ci := 2) (ty := tyX2 0) (v := .ref (gB Γ + 4)) (C := RX2) (T := TX2) (N := 12) hx hb hts hin_2 tyX2 tyX2_ok nmX2 hown hin hK hR hS ho (by omega) rfl 0 (by decide) rfl rfl wf_X2_12 (tyX2_ok 0 (by decide)) rfl rfl (Nat.le_of_ble_eq_true rfl) dX2_init_12 (fun o3 H locs ho hne hR hS => ?_)
  have ho : o3 3 = .inr (2, [.ref (gB Γ + 4), .null, .null, .null, .null, .null, .null, .null, .null, .int 0, .int 0, .int 0]) := ho
  have hr1 := fun j h1 h2 => (hne j (by omega)).trans (hr1 j h1 h2)
  have hlow := fun j hj => (hne j (by omega)).trans (hlow j hj)
  refine lv_aload_n hx hb dX2_init_15 rfl (lv_at hl 0 rfl) ?_
  refine lv_bipush (v := 10) hx hb dX2_init_16 (by decide) ?_
  refine r_newa (atype := .int) (N := 10) (a0 := (10, .inl (fun _ => 0))) hx hb hts warr_int 0 rfl hK hR hS (fun _ => rfl) (by decide) (by decide) (Nat.le_of_ble_eq_true rfl) (Nat.le_of_ble_eq_true rfl) (Nat.le_of_ble_eq_true rfl) dX2_init_18 (fun o4 H h_6 hne hR hS => ?_)
  have ho := (hne _ (by omega)).trans ho
  have hr1 := fun j h1 h2 => (hne j (by omega)).trans (hr1 j h1 h2)
  have hlow := fun j hj => (hne j (by omega)).trans (hlow j hj)
  refine r_put (ci := 2) (ty := tyX2 1) (v := .ref (gB Γ + 6)) (C := RX2) (T := TX2) (N := 12) hx hb hts hin_2 tyX2 tyX2_ok nmX2 hown hin hK hR hS ho (by omega) rfl 1 (by decide) rfl rfl wf_X2_18 (tyX2_ok 1 (by decide)) rfl rfl (Nat.le_of_ble_eq_true rfl) dX2_init_20 (fun o5 H locs ho hne hR hS => ?_)
  have ho : o5 3 = .inr (2, [.ref (gB Γ + 4), .ref (gB Γ + 6), .null, .null, .null, .null, .null, .null, .null, .int 0, .int 0, .int 0]) := ho
  have h_6 := (hne _ (by omega)).trans h_6
  have hr1 := fun j h1 h2 => (hne j (by omega)).trans (hr1 j h1 h2)
  have hlow := fun j hj => (hne j (by omega)).trans (hlow j hj)
  refine lv_aload_n hx hb dX2_init_23 rfl (lv_at hl 0 rfl) ?_
  refine lv_bipush (v := 10) hx hb dX2_init_24 (by decide) ?_
  refine r_newa (atype := .int) (N := 10) (a0 := (10, .inl (fun _ => 0))) hx hb hts warr_int 0 rfl hK hR hS (fun _ => rfl) (by decide) (by decide) (Nat.le_of_ble_eq_true rfl) (Nat.le_of_ble_eq_true rfl) (Nat.le_of_ble_eq_true rfl) dX2_init_26 (fun o6 H h_7 hne hR hS => ?_)
  have ho := (hne _ (by omega)).trans ho
  have h_6 := (hne _ (by omega)).trans h_6
  have hr1 := fun j h1 h2 => (hne j (by omega)).trans (hr1 j h1 h2)
  have hlow := fun j hj => (hne j (by omega)).trans (hlow j hj)
  refine r_put (ci := 2) (ty := tyX2 2) (v := .ref (gB Γ + 7)) (C := RX2) (T := TX2) (N := 12) hx hb hts hin_2 tyX2 tyX2_ok nmX2 hown hin hK hR hS ho (by omega) rfl 2 (by decide) rfl rfl wf_X2_22 (tyX2_ok 2 (by decide)) rfl rfl (Nat.le_of_ble_eq_true rfl) dX2_init_28 (fun o7 H locs ho hne hR hS => ?_)
  have ho : o7 3 = .inr (2, [.ref (gB Γ + 4), .ref (gB Γ + 6), .ref (gB Γ + 7), .null, .null, .null, .null, .null, .null, .int 0, .int 0, .int 0]) := ho
  have h_6 := (hne _ (by omega)).trans h_6
  have h_7 := (hne _ (by omega)).trans h_7
  have hr1 := fun j h1 h2 => (hne j (by omega)).trans (hr1 j h1 h2)
  have hlow := fun j hj => (hne j (by omega)).trans (hlow j hj)
  refine lv_aload_n hx hb dX2_init_31 rfl (lv_at hl 0 rfl) ?_
  refine lv_bipush (v := 80) hx hb dX2_init_32 (by decide) ?_
  refine r_newa (atype := .long) (N := 80) (a0 := (80, .inr (.inl (fun _ => 0)))) hx hb hts warr_long 2 rfl hK hR hS (fun _ => rfl) (by decide) (by decide) (Nat.le_of_ble_eq_true rfl) (Nat.le_of_ble_eq_true rfl) (Nat.le_of_ble_eq_true rfl) dX2_init_34 (fun o8 H h_8 hne hR hS => ?_)
  have ho := (hne _ (by omega)).trans ho
  have h_6 := (hne _ (by omega)).trans h_6
  have h_7 := (hne _ (by omega)).trans h_7
  have hr1 := fun j h1 h2 => (hne j (by omega)).trans (hr1 j h1 h2)
  have hlow := fun j hj => (hne j (by omega)).trans (hlow j hj)
  refine r_put (ci := 2) (ty := tyX2 3) (v := .ref (gB Γ + 8)) (C := RX2) (T := TX2) (N := 12) hx hb hts hin_2 tyX2 tyX2_ok nmX2 hown hin hK hR hS ho (by omega) rfl 3 (by decide) rfl rfl wf_X2_25 (tyX2_ok 3 (by decide)) rfl rfl (Nat.le_of_ble_eq_true rfl) dX2_init_36 (fun o9 H locs ho hne hR hS => ?_)
  have ho : o9 3 = .inr (2, [.ref (gB Γ + 4), .ref (gB Γ + 6), .ref (gB Γ + 7), .ref (gB Γ + 8), .null, .null, .null, .null, .null, .int 0, .int 0, .int 0]) := ho
  have h_6 := (hne _ (by omega)).trans h_6
  have h_7 := (hne _ (by omega)).trans h_7
  have h_8 := (hne _ (by omega)).trans h_8
  have hr1 := fun j h1 h2 => (hne j (by omega)).trans (hr1 j h1 h2)
  have hlow := fun j hj => (hne j (by omega)).trans (hlow j hj)
  refine lv_aload_n hx hb dX2_init_39 rfl (lv_at hl 0 rfl) ?_
  refine lv_bipush (v := 121) hx hb dX2_init_40 (by decide) ?_
  refine r_newa (atype := .int) (N := 121) (a0 := (121, .inl (fun _ => 0))) hx hb hts warr_int 0 rfl hK hR hS (fun _ => rfl) (by decide) (by decide) (Nat.le_of_ble_eq_true rfl) (Nat.le_of_ble_eq_true rfl) (Nat.le_of_ble_eq_true rfl) dX2_init_42 (fun o10 H h_9 hne hR hS => ?_)
  have ho := (hne _ (by omega)).trans ho
  have h_6 := (hne _ (by omega)).trans h_6
  have h_7 := (hne _ (by omega)).trans h_7
  have h_8 := (hne _ (by omega)).trans h_8
  have hr1 := fun j h1 h2 => (hne j (by omega)).trans (hr1 j h1 h2)
  have hlow := fun j hj => (hne j (by omega)).trans (hlow j hj)
  refine r_put (ci := 2) (ty := tyX2 4) (v := .ref (gB Γ + 9)) (C := RX2) (T := TX2) (N := 12) hx hb hts hin_2 tyX2 tyX2_ok nmX2 hown hin hK hR hS ho (by omega) rfl 4 (by decide) rfl rfl wf_X2_29 (tyX2_ok 4 (by decide)) rfl rfl (Nat.le_of_ble_eq_true rfl) dX2_init_44 (fun o11 H locs ho hne hR hS => ?_)
  have ho : o11 3 = .inr (2, [.ref (gB Γ + 4), .ref (gB Γ + 6), .ref (gB Γ + 7), .ref (gB Γ + 8), .ref (gB Γ + 9), .null, .null, .null, .null, .int 0, .int 0, .int 0]) := ho
  have h_6 := (hne _ (by omega)).trans h_6
  have h_7 := (hne _ (by omega)).trans h_7
  have h_8 := (hne _ (by omega)).trans h_8
  have h_9 := (hne _ (by omega)).trans h_9
  have hr1 := fun j h1 h2 => (hne j (by omega)).trans (hr1 j h1 h2)
  have hlow := fun j hj => (hne j (by omega)).trans (hlow j hj)
  refine lv_aload_n hx hb dX2_init_47 rfl (lv_at hl 0 rfl) ?_
  refine lv_bipush (v := 121) hx hb dX2_init_48 (by decide) ?_
  refine r_newa (atype := .int) (N := 121) (a0 := (121, .inl (fun _ => 0))) hx hb hts warr_int 0 rfl hK hR hS (fun _ => rfl) (by decide) (by decide) (Nat.le_of_ble_eq_true rfl) (Nat.le_of_ble_eq_true rfl) (Nat.le_of_ble_eq_true rfl) dX2_init_50 (fun o12 H h_10 hne hR hS => ?_)
  have ho := (hne _ (by omega)).trans ho
  have h_6 := (hne _ (by omega)).trans h_6
  have h_7 := (hne _ (by omega)).trans h_7
  have h_8 := (hne _ (by omega)).trans h_8
  have h_9 := (hne _ (by omega)).trans h_9
  have hr1 := fun j h1 h2 => (hne j (by omega)).trans (hr1 j h1 h2)
  have hlow := fun j hj => (hne j (by omega)).trans (hlow j hj)
  refine r_put (ci := 2) (ty := tyX2 5) (v := .ref (gB Γ + 10)) (C := RX2) (T := TX2) (N := 12) hx hb hts hin_2 tyX2 tyX2_ok nmX2 hown hin hK hR hS ho (by omega) rfl 5 (by decide) rfl rfl wf_X2_32 (tyX2_ok 5 (by decide)) rfl rfl (Nat.le_of_ble_eq_true rfl) dX2_init_52 (fun o13 H locs ho hne hR hS => ?_)
  have ho : o13 3 = .inr (2, [.ref (gB Γ + 4), .ref (gB Γ + 6), .ref (gB Γ + 7), .ref (gB Γ + 8), .ref (gB Γ + 9), .ref (gB Γ + 10), .null, .null, .null, .int 0, .int 0, .int 0]) := ho
  have h_6 := (hne _ (by omega)).trans h_6
  have h_7 := (hne _ (by omega)).trans h_7
  have h_8 := (hne _ (by omega)).trans h_8
  have h_9 := (hne _ (by omega)).trans h_9
  have h_10 := (hne _ (by omega)).trans h_10
  have hr1 := fun j h1 h2 => (hne j (by omega)).trans (hr1 j h1 h2)
  have hlow := fun j hj => (hne j (by omega)).trans (hlow j hj)
  refine lv_aload_n hx hb dX2_init_55 rfl (lv_at hl 0 rfl) ?_
  refine lv_bipush (v := 121) hx hb dX2_init_56 (by decide) ?_
  refine r_newa (atype := .boolean) (N := 121) (a0 := (121, .inl (fun _ => 0))) hx hb hts warr_boolean 1 rfl hK hR hS (fun _ => rfl) (by decide) (by decide) (Nat.le_of_ble_eq_true rfl) (Nat.le_of_ble_eq_true rfl) (Nat.le_of_ble_eq_true rfl) dX2_init_58 (fun o14 H h_11 hne hR hS => ?_)
  have ho := (hne _ (by omega)).trans ho
  have h_6 := (hne _ (by omega)).trans h_6
  have h_7 := (hne _ (by omega)).trans h_7
  have h_8 := (hne _ (by omega)).trans h_8
  have h_9 := (hne _ (by omega)).trans h_9
  have h_10 := (hne _ (by omega)).trans h_10
  have hr1 := fun j h1 h2 => (hne j (by omega)).trans (hr1 j h1 h2)
  have hlow := fun j hj => (hne j (by omega)).trans (hlow j hj)
  refine r_put (ci := 2) (ty := tyX2 6) (v := .ref (gB Γ + 11)) (C := RX2) (T := TX2) (N := 12) hx hb hts hin_2 tyX2 tyX2_ok nmX2 hown hin hK hR hS ho (by omega) rfl 6 (by decide) rfl rfl wf_X2_35 (tyX2_ok 6 (by decide)) rfl rfl (Nat.le_of_ble_eq_true rfl) dX2_init_60 (fun o15 H locs ho hne hR hS => ?_)
  have ho : o15 3 = .inr (2, [.ref (gB Γ + 4), .ref (gB Γ + 6), .ref (gB Γ + 7), .ref (gB Γ + 8), .ref (gB Γ + 9), .ref (gB Γ + 10), .ref (gB Γ + 11), .null, .null, .int 0, .int 0, .int 0]) := ho
  have h_6 := (hne _ (by omega)).trans h_6
  have h_7 := (hne _ (by omega)).trans h_7
  have h_8 := (hne _ (by omega)).trans h_8
  have h_9 := (hne _ (by omega)).trans h_9
  have h_10 := (hne _ (by omega)).trans h_10
  have h_11 := (hne _ (by omega)).trans h_11
  have hr1 := fun j h1 h2 => (hne j (by omega)).trans (hr1 j h1 h2)
  have hlow := fun j hj => (hne j (by omega)).trans (hlow j hj)
  refine lv_aload_n hx hb dX2_init_63 rfl (lv_at hl 0 rfl) ?_
  refine lv_bipush (v := 121) hx hb dX2_init_64 (by decide) ?_
  refine r_newa (atype := .boolean) (N := 121) (a0 := (121, .inl (fun _ => 0))) hx hb hts warr_boolean 1 rfl hK hR hS (fun _ => rfl) (by decide) (by decide) (Nat.le_of_ble_eq_true rfl) (Nat.le_of_ble_eq_true rfl) (Nat.le_of_ble_eq_true rfl) dX2_init_66 (fun o16 H h_12 hne hR hS => ?_)
  have ho := (hne _ (by omega)).trans ho
  have h_6 := (hne _ (by omega)).trans h_6
  have h_7 := (hne _ (by omega)).trans h_7
  have h_8 := (hne _ (by omega)).trans h_8
  have h_9 := (hne _ (by omega)).trans h_9
  have h_10 := (hne _ (by omega)).trans h_10
  have h_11 := (hne _ (by omega)).trans h_11
  have hr1 := fun j h1 h2 => (hne j (by omega)).trans (hr1 j h1 h2)
  have hlow := fun j hj => (hne j (by omega)).trans (hlow j hj)
  refine r_put (ci := 2) (ty := tyX2 7) (v := .ref (gB Γ + 12)) (C := RX2) (T := TX2) (N := 12) hx hb hts hin_2 tyX2 tyX2_ok nmX2 hown hin hK hR hS ho (by omega) rfl 7 (by decide) rfl rfl wf_X2_39 (tyX2_ok 7 (by decide)) rfl rfl (Nat.le_of_ble_eq_true rfl) dX2_init_68 (fun o17 H locs ho hne hR hS => ?_)
  have ho : o17 3 = .inr (2, [.ref (gB Γ + 4), .ref (gB Γ + 6), .ref (gB Γ + 7), .ref (gB Γ + 8), .ref (gB Γ + 9), .ref (gB Γ + 10), .ref (gB Γ + 11), .ref (gB Γ + 12), .null, .int 0, .int 0, .int 0]) := ho
  have h_6 := (hne _ (by omega)).trans h_6
  have h_7 := (hne _ (by omega)).trans h_7
  have h_8 := (hne _ (by omega)).trans h_8
  have h_9 := (hne _ (by omega)).trans h_9
  have h_10 := (hne _ (by omega)).trans h_10
  have h_11 := (hne _ (by omega)).trans h_11
  have h_12 := (hne _ (by omega)).trans h_12
  have hr1 := fun j h1 h2 => (hne j (by omega)).trans (hr1 j h1 h2)
  have hlow := fun j hj => (hne j (by omega)).trans (hlow j hj)
  refine lv_aload_n hx hb dX2_init_71 rfl (lv_at hl 0 rfl) ?_
  refine lv_bipush (v := 121) hx hb dX2_init_72 (by decide) ?_
  refine r_newa (atype := .boolean) (N := 121) (a0 := (121, .inl (fun _ => 0))) hx hb hts warr_boolean 1 rfl hK hR hS (fun _ => rfl) (by decide) (by decide) (Nat.le_of_ble_eq_true rfl) (Nat.le_of_ble_eq_true rfl) (Nat.le_of_ble_eq_true rfl) dX2_init_74 (fun o18 H h_13 hne hR hS => ?_)
  have ho := (hne _ (by omega)).trans ho
  have h_6 := (hne _ (by omega)).trans h_6
  have h_7 := (hne _ (by omega)).trans h_7
  have h_8 := (hne _ (by omega)).trans h_8
  have h_9 := (hne _ (by omega)).trans h_9
  have h_10 := (hne _ (by omega)).trans h_10
  have h_11 := (hne _ (by omega)).trans h_11
  have h_12 := (hne _ (by omega)).trans h_12
  have hr1 := fun j h1 h2 => (hne j (by omega)).trans (hr1 j h1 h2)
  have hlow := fun j hj => (hne j (by omega)).trans (hlow j hj)
  refine r_put (ci := 2) (ty := tyX2 8) (v := .ref (gB Γ + 13)) (C := RX2) (T := TX2) (N := 12) hx hb hts hin_2 tyX2 tyX2_ok nmX2 hown hin hK hR hS ho (by omega) rfl 8 (by decide) rfl rfl wf_X2_42 (tyX2_ok 8 (by decide)) rfl rfl (Nat.le_of_ble_eq_true rfl) dX2_init_76 (fun o19 H locs ho hne hR hS => ?_)
  have ho : o19 3 = .inr (2, [.ref (gB Γ + 4), .ref (gB Γ + 6), .ref (gB Γ + 7), .ref (gB Γ + 8), .ref (gB Γ + 9), .ref (gB Γ + 10), .ref (gB Γ + 11), .ref (gB Γ + 12), .ref (gB Γ + 13), .int 0, .int 0, .int 0]) := ho
  have h_6 := (hne _ (by omega)).trans h_6
  have h_7 := (hne _ (by omega)).trans h_7
  have h_8 := (hne _ (by omega)).trans h_8
  have h_9 := (hne _ (by omega)).trans h_9
  have h_10 := (hne _ (by omega)).trans h_10
  have h_11 := (hne _ (by omega)).trans h_11
  have h_12 := (hne _ (by omega)).trans h_12
  have h_13 := (hne _ (by omega)).trans h_13
  have hr1 := fun j h1 h2 => (hne j (by omega)).trans (hr1 j h1 h2)
  have hlow := fun j hj => (hne j (by omega)).trans (hlow j hj)
  refine r_vret hx hb hr hlk hR hS (by omega) (by omega) ?_ dX2_init_79
  refine ⟨hlow, fun j h1 h2 => ?_⟩
  by_cases e9 : j = 3
  · subst e9; exact ho.trans rfl
  by_cases e9 : j < 6
  · exact hr1 j (by omega) e9
  by_cases e9 : j = 6
  · subst e9; exact h_6.trans rfl
  by_cases e9 : j = 7
  · subst e9; exact h_7.trans rfl
  by_cases e9 : j = 8
  · subst e9; exact h_8.trans rfl
  by_cases e9 : j = 9
  · subst e9; exact h_9.trans rfl
  by_cases e9 : j = 10
  · subst e9; exact h_10.trans rfl
  by_cases e9 : j = 11
  · subst e9; exact h_11.trans rfl
  by_cases e9 : j = 12
  · subst e9; exact h_12.trans rfl
  by_cases e9 : j = 13
  · subst e9; exact h_13.trans rfl
  omega
set_option maxHeartbeats 4000000 in
set_option maxRecDepth 20000 in
theorem k_X5_init (l : Launch) (Γ : gE) (k : Nat) (hk : isSt k) (o : Nat → va_E) (ho : o k = .inr (5, [.null, .null, .null, .null, .null, .null, .null, .null, .int 0, .int 0])) : gK l yX5_init cX5_init 2 1 12 7 76 Γ [.ref (gB Γ + k), .ref (gB Γ + 14)] (k + 1) o (k + 8) (fun o1 => (∀ j, j < k → o1 j = o j) ∧ ∀ j, k ≤ j → j < (k + 8) → o1 j = gFin Γ j) := by
  refine rStart (own := RX5) (by decide +kernel) rfl rfl (Nat.le_of_ble_eq_true rfl) ?_
  intro p e s m below meth c C0 hin hA ls hl hR
  have hS : va_S (gA0 Γ) s.heap s.heap [] := va_S.rf
  have hl : lv_has ls 2 [(0, .ref (gB Γ + k)), (1, .ref (gB Γ + 14))] := hl
  obtain ⟨hx, hb, hml, hr, hown, hts, hK, hlk, hX⟩ := id C0
  have hlow : ∀ j, j < k → o j = o j := fun _ _ => rfl
  refine lv_aload_n hx hb dX5_init_0 rfl (lv_at hl 0 rfl) ?_
  refine r_obj C0 wl_X5_3 wi_obj wc_obj hl.1 dX5_init_1 (Nat.le_of_ble_eq_true rfl) (Nat.le_of_ble_eq_true rfl) ?_
  refine lv_aload_n hx hb dX5_init_4 rfl (lv_at hl 0 rfl) ?_
  refine lv_bipush (v := 10) hx hb dX5_init_5 (by decide) ?_
  refine r_newa (atype := .int) (N := 10) (a0 := (10, .inl (fun _ => 0))) hx hb hts warr_int 0 rfl hK hR hS (fun _ => rfl) (by decide) (by decide) (Nat.le_of_ble_eq_true rfl) (Nat.le_of_ble_eq_true rfl) (Nat.le_of_ble_eq_true rfl) dX5_init_7 (fun o1 H h__k_1_ hne hR hS => ?_)
  have ho := (hne _ (by omega)).trans ho
  have hlow := fun j hj => (hne j (by omega)).trans (hlow j hj)
  refine r_put (ci := 5) (ty := tyX5 1) (v := .ref (gB Γ + (k + 1))) (C := RX5) (T := TX5) (N := 10) hx hb hts hin_5 tyX5 tyX5_ok nmX5 hown hin hK hR hS ho (by omega) rfl 1 (by decide) rfl rfl wf_X5_9 (tyX5_ok 1 (by decide)) rfl rfl (Nat.le_of_ble_eq_true rfl) dX5_init_9 (fun o2 H locs ho hne hR hS => ?_)
  have ho : o2 k = .inr (5, [.null, .ref (gB Γ + (k + 1)), .null, .null, .null, .null, .null, .null, .int 0, .int 0]) := ho
  have h__k_1_ := (hne _ (by omega)).trans h__k_1_
  have hlow := fun j hj => (hne j (by omega)).trans (hlow j hj)
  refine lv_aload_n hx hb dX5_init_12 rfl (lv_at hl 0 rfl) ?_
  refine lv_bipush (v := 10) hx hb dX5_init_13 (by decide) ?_
  refine r_newa (atype := .int) (N := 10) (a0 := (10, .inl (fun _ => 0))) hx hb hts warr_int 0 rfl hK hR hS (fun _ => rfl) (by decide) (by decide) (Nat.le_of_ble_eq_true rfl) (Nat.le_of_ble_eq_true rfl) (Nat.le_of_ble_eq_true rfl) dX5_init_15 (fun o3 H h__k_2_ hne hR hS => ?_)
  have ho := (hne _ (by omega)).trans ho
  have h__k_1_ := (hne _ (by omega)).trans h__k_1_
  have hlow := fun j hj => (hne j (by omega)).trans (hlow j hj)
  refine r_put (ci := 5) (ty := tyX5 2) (v := .ref (gB Γ + (k + 2))) (C := RX5) (T := TX5) (N := 10) hx hb hts hin_5 tyX5 tyX5_ok nmX5 hown hin hK hR hS ho (by omega) rfl 2 (by decide) rfl rfl wf_X5_15 (tyX5_ok 2 (by decide)) rfl rfl (Nat.le_of_ble_eq_true rfl) dX5_init_17 (fun o4 H locs ho hne hR hS => ?_)
  have ho : o4 k = .inr (5, [.null, .ref (gB Γ + (k + 1)), .ref (gB Γ + (k + 2)), .null, .null, .null, .null, .null, .int 0, .int 0]) := ho
  have h__k_1_ := (hne _ (by omega)).trans h__k_1_
  have h__k_2_ := (hne _ (by omega)).trans h__k_2_
  have hlow := fun j hj => (hne j (by omega)).trans (hlow j hj)
  refine lv_aload_n hx hb dX5_init_20 rfl (lv_at hl 0 rfl) ?_
  refine lv_iconst (v := 4) hx hb dX5_init_21 (by decide) ?_
  refine r_newa (atype := .int) (N := 4) (a0 := (4, .inl (fun _ => 0))) hx hb hts warr_int 0 rfl hK hR hS (fun _ => rfl) (by decide) (by decide) (Nat.le_of_ble_eq_true rfl) (Nat.le_of_ble_eq_true rfl) (Nat.le_of_ble_eq_true rfl) dX5_init_22 (fun o5 H h__k_3_ hne hR hS => ?_)
  have ho := (hne _ (by omega)).trans ho
  have h__k_1_ := (hne _ (by omega)).trans h__k_1_
  have h__k_2_ := (hne _ (by omega)).trans h__k_2_
  have hlow := fun j hj => (hne j (by omega)).trans (hlow j hj)
  refine r_put (ci := 5) (ty := tyX5 3) (v := .ref (gB Γ + (k + 3))) (C := RX5) (T := TX5) (N := 10) hx hb hts hin_5 tyX5 tyX5_ok nmX5 hown hin hK hR hS ho (by omega) rfl 3 (by decide) rfl rfl wf_X5_18 (tyX5_ok 3 (by decide)) rfl rfl (Nat.le_of_ble_eq_true rfl) dX5_init_24 (fun o6 H locs ho hne hR hS => ?_)
  have ho : o6 k = .inr (5, [.null, .ref (gB Γ + (k + 1)), .ref (gB Γ + (k + 2)), .ref (gB Γ + (k + 3)), .null, .null, .null, .null, .int 0, .int 0]) := ho
  have h__k_1_ := (hne _ (by omega)).trans h__k_1_
  have h__k_2_ := (hne _ (by omega)).trans h__k_2_
  have h__k_3_ := (hne _ (by omega)).trans h__k_3_
  have hlow := fun j hj => (hne j (by omega)).trans (hlow j hj)
  refine lv_aload_n hx hb dX5_init_27 rfl (lv_at hl 0 rfl) ?_
  refine lv_iconst (v := 4) hx hb dX5_init_28 (by decide) ?_
  refine r_newa (atype := .int) (N := 4) (a0 := (4, .inl (fun _ => 0))) hx hb hts warr_int 0 rfl hK hR hS (fun _ => rfl) (by decide) (by decide) (Nat.le_of_ble_eq_true rfl) (Nat.le_of_ble_eq_true rfl) (Nat.le_of_ble_eq_true rfl) dX5_init_29 (fun o7 H h__k_4_ hne hR hS => ?_)
  have ho := (hne _ (by omega)).trans ho
  have h__k_1_ := (hne _ (by omega)).trans h__k_1_
  have h__k_2_ := (hne _ (by omega)).trans h__k_2_
  have h__k_3_ := (hne _ (by omega)).trans h__k_3_
  have hlow := fun j hj => (hne j (by omega)).trans (hlow j hj)
  refine r_put (ci := 5) (ty := tyX5 4) (v := .ref (gB Γ + (k + 4))) (C := RX5) (T := TX5) (N := 10) hx hb hts hin_5 tyX5 tyX5_ok nmX5 hown hin hK hR hS ho (by omega) rfl 4 (by decide) rfl rfl wf_X5_21 (tyX5_ok 4 (by decide)) rfl rfl (Nat.le_of_ble_eq_true rfl) dX5_init_31 (fun o8 H locs ho hne hR hS => ?_)
  have ho : o8 k = .inr (5, [.null, .ref (gB Γ + (k + 1)), .ref (gB Γ + (k + 2)), .ref (gB Γ + (k + 3)), .ref (gB Γ + (k + 4)), .null, .null, .null, .int 0, .int 0]) := ho
  have h__k_1_ := (hne _ (by omega)).trans h__k_1_
  have h__k_2_ := (hne _ (by omega)).trans h__k_2_
  have h__k_3_ := (hne _ (by omega)).trans h__k_3_
  have h__k_4_ := (hne _ (by omega)).trans h__k_4_
  have hlow := fun j hj => (hne j (by omega)).trans (hlow j hj)
  refine lv_aload_n hx hb dX5_init_34 rfl (lv_at hl 0 rfl) ?_
  refine lv_iconst (v := 4) hx hb dX5_init_35 (by decide) ?_
  refine r_newa (atype := .int) (N := 4) (a0 := (4, .inl (fun _ => 0))) hx hb hts warr_int 0 rfl hK hR hS (fun _ => rfl) (by decide) (by decide) (Nat.le_of_ble_eq_true rfl) (Nat.le_of_ble_eq_true rfl) (Nat.le_of_ble_eq_true rfl) dX5_init_36 (fun o9 H h__k_5_ hne hR hS => ?_)
  have ho := (hne _ (by omega)).trans ho
  have h__k_1_ := (hne _ (by omega)).trans h__k_1_
  have h__k_2_ := (hne _ (by omega)).trans h__k_2_
  have h__k_3_ := (hne _ (by omega)).trans h__k_3_
  have h__k_4_ := (hne _ (by omega)).trans h__k_4_
  have hlow := fun j hj => (hne j (by omega)).trans (hlow j hj)
  refine r_put (ci := 5) (ty := tyX5 5) (v := .ref (gB Γ + (k + 5))) (C := RX5) (T := TX5) (N := 10) hx hb hts hin_5 tyX5 tyX5_ok nmX5 hown hin hK hR hS ho (by omega) rfl 5 (by decide) rfl rfl wf_X5_24 (tyX5_ok 5 (by decide)) rfl rfl (Nat.le_of_ble_eq_true rfl) dX5_init_38 (fun o10 H locs ho hne hR hS => ?_)
  have ho : o10 k = .inr (5, [.null, .ref (gB Γ + (k + 1)), .ref (gB Γ + (k + 2)), .ref (gB Γ + (k + 3)), .ref (gB Γ + (k + 4)), .ref (gB Γ + (k + 5)), .null, .null, .int 0, .int 0]) := ho
  have h__k_1_ := (hne _ (by omega)).trans h__k_1_
  have h__k_2_ := (hne _ (by omega)).trans h__k_2_
  have h__k_3_ := (hne _ (by omega)).trans h__k_3_
  have h__k_4_ := (hne _ (by omega)).trans h__k_4_
  have h__k_5_ := (hne _ (by omega)).trans h__k_5_
  have hlow := fun j hj => (hne j (by omega)).trans (hlow j hj)
  refine lv_aload_n hx hb dX5_init_41 rfl (lv_at hl 0 rfl) ?_
  refine lv_iconst (v := 4) hx hb dX5_init_42 (by decide) ?_
  refine r_newa (atype := .int) (N := 4) (a0 := (4, .inl (fun _ => 0))) hx hb hts warr_int 0 rfl hK hR hS (fun _ => rfl) (by decide) (by decide) (Nat.le_of_ble_eq_true rfl) (Nat.le_of_ble_eq_true rfl) (Nat.le_of_ble_eq_true rfl) dX5_init_43 (fun o11 H h__k_6_ hne hR hS => ?_)
  have ho := (hne _ (by omega)).trans ho
  have h__k_1_ := (hne _ (by omega)).trans h__k_1_
  have h__k_2_ := (hne _ (by omega)).trans h__k_2_
  have h__k_3_ := (hne _ (by omega)).trans h__k_3_
  have h__k_4_ := (hne _ (by omega)).trans h__k_4_
  have h__k_5_ := (hne _ (by omega)).trans h__k_5_
  have hlow := fun j hj => (hne j (by omega)).trans (hlow j hj)
  refine r_put (ci := 5) (ty := tyX5 6) (v := .ref (gB Γ + (k + 6))) (C := RX5) (T := TX5) (N := 10) hx hb hts hin_5 tyX5 tyX5_ok nmX5 hown hin hK hR hS ho (by omega) rfl 6 (by decide) rfl rfl wf_X5_27 (tyX5_ok 6 (by decide)) rfl rfl (Nat.le_of_ble_eq_true rfl) dX5_init_45 (fun o12 H locs ho hne hR hS => ?_)
  have ho : o12 k = .inr (5, [.null, .ref (gB Γ + (k + 1)), .ref (gB Γ + (k + 2)), .ref (gB Γ + (k + 3)), .ref (gB Γ + (k + 4)), .ref (gB Γ + (k + 5)), .ref (gB Γ + (k + 6)), .null, .int 0, .int 0]) := ho
  have h__k_1_ := (hne _ (by omega)).trans h__k_1_
  have h__k_2_ := (hne _ (by omega)).trans h__k_2_
  have h__k_3_ := (hne _ (by omega)).trans h__k_3_
  have h__k_4_ := (hne _ (by omega)).trans h__k_4_
  have h__k_5_ := (hne _ (by omega)).trans h__k_5_
  have h__k_6_ := (hne _ (by omega)).trans h__k_6_
  have hlow := fun j hj => (hne j (by omega)).trans (hlow j hj)
  refine lv_aload_n hx hb dX5_init_48 rfl (lv_at hl 0 rfl) ?_
  refine lv_bipush (v := 40) hx hb dX5_init_49 (by decide) ?_
  refine r_newa (atype := .int) (N := 40) (a0 := (40, .inl (fun _ => 0))) hx hb hts warr_int 0 rfl hK hR hS (fun _ => rfl) (by decide) (by decide) (Nat.le_of_ble_eq_true rfl) (Nat.le_of_ble_eq_true rfl) (Nat.le_of_ble_eq_true rfl) dX5_init_51 (fun o13 H h__k_7_ hne hR hS => ?_)
  have ho := (hne _ (by omega)).trans ho
  have h__k_1_ := (hne _ (by omega)).trans h__k_1_
  have h__k_2_ := (hne _ (by omega)).trans h__k_2_
  have h__k_3_ := (hne _ (by omega)).trans h__k_3_
  have h__k_4_ := (hne _ (by omega)).trans h__k_4_
  have h__k_5_ := (hne _ (by omega)).trans h__k_5_
  have h__k_6_ := (hne _ (by omega)).trans h__k_6_
  have hlow := fun j hj => (hne j (by omega)).trans (hlow j hj)
  refine r_put (ci := 5) (ty := tyX5 7) (v := .ref (gB Γ + (k + 7))) (C := RX5) (T := TX5) (N := 10) hx hb hts hin_5 tyX5 tyX5_ok nmX5 hown hin hK hR hS ho (by omega) rfl 7 (by decide) rfl rfl wf_X5_30 (tyX5_ok 7 (by decide)) rfl rfl (Nat.le_of_ble_eq_true rfl) dX5_init_53 (fun o14 H locs ho hne hR hS => ?_)
  have ho : o14 k = .inr (5, [.null, .ref (gB Γ + (k + 1)), .ref (gB Γ + (k + 2)), .ref (gB Γ + (k + 3)), .ref (gB Γ + (k + 4)), .ref (gB Γ + (k + 5)), .ref (gB Γ + (k + 6)), .ref (gB Γ + (k + 7)), .int 0, .int 0]) := ho
  have h__k_1_ := (hne _ (by omega)).trans h__k_1_
  have h__k_2_ := (hne _ (by omega)).trans h__k_2_
  have h__k_3_ := (hne _ (by omega)).trans h__k_3_
  have h__k_4_ := (hne _ (by omega)).trans h__k_4_
  have h__k_5_ := (hne _ (by omega)).trans h__k_5_
  have h__k_6_ := (hne _ (by omega)).trans h__k_6_
  have h__k_7_ := (hne _ (by omega)).trans h__k_7_
  have hlow := fun j hj => (hne j (by omega)).trans (hlow j hj)
  refine lv_aload_n hx hb dX5_init_56 rfl (lv_at hl 0 rfl) ?_
  refine lv_aload_n hx hb dX5_init_57 rfl (lv_at hl 1 rfl) ?_
  refine r_put (ci := 5) (ty := tyX5 0) (v := .ref (gB Γ + 14)) (C := RX5) (T := TX5) (N := 10) hx hb hts hin_5 tyX5 tyX5_ok nmX5 hown hin hK hR hS ho (by omega) rfl 0 (by decide) rfl rfl wf_X5_33 (tyX5_ok 0 (by decide)) rfl rfl (Nat.le_of_ble_eq_true rfl) dX5_init_58 (fun o15 H locs ho hne hR hS => ?_)
  have ho : o15 k = .inr (5, [.ref (gB Γ + 14), .ref (gB Γ + (k + 1)), .ref (gB Γ + (k + 2)), .ref (gB Γ + (k + 3)), .ref (gB Γ + (k + 4)), .ref (gB Γ + (k + 5)), .ref (gB Γ + (k + 6)), .ref (gB Γ + (k + 7)), .int 0, .int 0]) := ho
  have h__k_1_ := (hne _ (by omega)).trans h__k_1_
  have h__k_2_ := (hne _ (by omega)).trans h__k_2_
  have h__k_3_ := (hne _ (by omega)).trans h__k_3_
  have h__k_4_ := (hne _ (by omega)).trans h__k_4_
  have h__k_5_ := (hne _ (by omega)).trans h__k_5_
  have h__k_6_ := (hne _ (by omega)).trans h__k_6_
  have h__k_7_ := (hne _ (by omega)).trans h__k_7_
  have hlow := fun j hj => (hne j (by omega)).trans (hlow j hj)
  refine r_vret hx hb hr hlk hR hS (by omega) (by omega) ?_ dX5_init_61
  refine ⟨hlow, fun j h1 h2 => ?_⟩
  by_cases e9 : j = k
  · subst e9; exact ho.trans (gFin_o hk).symm
  by_cases e9 : j = (k + 1)
  · subst e9; exact h__k_1_.trans (gFin_a (isSt_1 hk) (isSt_16 hk)).symm
  by_cases e9 : j = (k + 2)
  · subst e9; exact h__k_2_.trans (gFin_a (isSt_2 hk) (isSt_16 hk)).symm
  by_cases e9 : j = (k + 3)
  · subst e9; exact h__k_3_.trans (gFin_a (isSt_3 hk) (isSt_16 hk)).symm
  by_cases e9 : j = (k + 4)
  · subst e9; exact h__k_4_.trans (gFin_a (isSt_4 hk) (isSt_16 hk)).symm
  by_cases e9 : j = (k + 5)
  · subst e9; exact h__k_5_.trans (gFin_a (isSt_5 hk) (isSt_16 hk)).symm
  by_cases e9 : j = (k + 6)
  · subst e9; exact h__k_6_.trans (gFin_a (isSt_6 hk) (isSt_16 hk)).symm
  by_cases e9 : j = (k + 7)
  · subst e9; exact h__k_7_.trans (gFin_a (isSt_7 hk) (isSt_16 hk)).symm
  omega
set_option maxHeartbeats 4000000 in
set_option maxRecDepth 20000 in
theorem k_X8_init (l : Launch) (Γ : gE)  (o : Nat → va_E) (ho : o 156 = .inr (8, [.null, .null, .null, .null, .null, .null, .null, .null])) : gK l yX8_init cX8_init 2 1 12 7 10350 Γ [.ref (gB Γ + 156), .ref (gB Γ + 14)] 157 o 164 (fun o1 => (∀ j, j < 156 → o1 j = o j) ∧ ∀ j, 156 ≤ j → j < 164 → o1 j = gFin Γ j) := by
  refine rStart (own := RX8) (by decide +kernel) rfl rfl (Nat.le_of_ble_eq_true rfl) ?_
  intro p e s m below meth c C0 hin hA ls hl hR
  have hS : va_S (gA0 Γ) s.heap s.heap [] := va_S.rf
  have hl : lv_has ls 2 [(0, .ref (gB Γ + 156)), (1, .ref (gB Γ + 14))] := hl
  obtain ⟨hx, hb, hml, hr, hown, hts, hK, hlk, hX⟩ := id C0
  have hlow : ∀ j, j < 156 → o j = o j := fun _ _ => rfl
  refine lv_aload_n hx hb dX8_init_0 rfl (lv_at hl 0 rfl) ?_
  refine r_obj C0 wl_X8_3 wi_obj wc_obj hl.1 dX8_init_1 (Nat.le_of_ble_eq_true rfl) (Nat.le_of_ble_eq_true rfl) ?_
  refine lv_aload_n hx hb dX8_init_4 rfl (lv_at hl 0 rfl) ?_
  refine lv_sipush (v := 1024) hx hb dX8_init_5 (by decide) ?_
  refine r_newa (atype := .int) (N := 1024) (a0 := (1024, .inl (fun _ => 0))) hx hb hts warr_int 0 rfl hK hR hS (fun _ => rfl) (by decide) (by decide) (Nat.le_of_ble_eq_true rfl) (Nat.le_of_ble_eq_true rfl) (Nat.le_of_ble_eq_true rfl) dX8_init_8 (fun o1 H h_157 hne hR hS => ?_)
  have ho := (hne _ (by omega)).trans ho
  have hlow := fun j hj => (hne j (by omega)).trans (hlow j hj)
  refine r_put (ci := 8) (ty := tyX8 1) (v := .ref (gB Γ + 157)) (C := RX8) (T := TX8) (N := 8) hx hb hts hin_8 tyX8 tyX8_ok nmX8 hown hin hK hR hS ho (by omega) rfl 1 (by decide) rfl rfl wf_X8_9 (tyX8_ok 1 (by decide)) rfl rfl (Nat.le_of_ble_eq_true rfl) dX8_init_10 (fun o2 H locs ho hne hR hS => ?_)
  have ho : o2 156 = .inr (8, [.null, .ref (gB Γ + 157), .null, .null, .null, .null, .null, .null]) := ho
  have h_157 := (hne _ (by omega)).trans h_157
  have hlow := fun j hj => (hne j (by omega)).trans (hlow j hj)
  refine lv_aload_n hx hb dX8_init_13 rfl (lv_at hl 0 rfl) ?_
  refine lv_sipush (v := 1024) hx hb dX8_init_14 (by decide) ?_
  refine r_newa (atype := .int) (N := 1024) (a0 := (1024, .inl (fun _ => 0))) hx hb hts warr_int 0 rfl hK hR hS (fun _ => rfl) (by decide) (by decide) (Nat.le_of_ble_eq_true rfl) (Nat.le_of_ble_eq_true rfl) (Nat.le_of_ble_eq_true rfl) dX8_init_17 (fun o3 H h_158 hne hR hS => ?_)
  have ho := (hne _ (by omega)).trans ho
  have h_157 := (hne _ (by omega)).trans h_157
  have hlow := fun j hj => (hne j (by omega)).trans (hlow j hj)
  refine r_put (ci := 8) (ty := tyX8 2) (v := .ref (gB Γ + 158)) (C := RX8) (T := TX8) (N := 8) hx hb hts hin_8 tyX8 tyX8_ok nmX8 hown hin hK hR hS ho (by omega) rfl 2 (by decide) rfl rfl wf_X8_15 (tyX8_ok 2 (by decide)) rfl rfl (Nat.le_of_ble_eq_true rfl) dX8_init_19 (fun o4 H locs ho hne hR hS => ?_)
  have ho : o4 156 = .inr (8, [.null, .ref (gB Γ + 157), .ref (gB Γ + 158), .null, .null, .null, .null, .null]) := ho
  have h_157 := (hne _ (by omega)).trans h_157
  have h_158 := (hne _ (by omega)).trans h_158
  have hlow := fun j hj => (hne j (by omega)).trans (hlow j hj)
  refine lv_aload_n hx hb dX8_init_22 rfl (lv_at hl 0 rfl) ?_
  refine lv_sipush (v := 1024) hx hb dX8_init_23 (by decide) ?_
  refine r_newa (atype := .int) (N := 1024) (a0 := (1024, .inl (fun _ => 0))) hx hb hts warr_int 0 rfl hK hR hS (fun _ => rfl) (by decide) (by decide) (Nat.le_of_ble_eq_true rfl) (Nat.le_of_ble_eq_true rfl) (Nat.le_of_ble_eq_true rfl) dX8_init_26 (fun o5 H h_159 hne hR hS => ?_)
  have ho := (hne _ (by omega)).trans ho
  have h_157 := (hne _ (by omega)).trans h_157
  have h_158 := (hne _ (by omega)).trans h_158
  have hlow := fun j hj => (hne j (by omega)).trans (hlow j hj)
  refine r_put (ci := 8) (ty := tyX8 3) (v := .ref (gB Γ + 159)) (C := RX8) (T := TX8) (N := 8) hx hb hts hin_8 tyX8 tyX8_ok nmX8 hown hin hK hR hS ho (by omega) rfl 3 (by decide) rfl rfl wf_X8_18 (tyX8_ok 3 (by decide)) rfl rfl (Nat.le_of_ble_eq_true rfl) dX8_init_28 (fun o6 H locs ho hne hR hS => ?_)
  have ho : o6 156 = .inr (8, [.null, .ref (gB Γ + 157), .ref (gB Γ + 158), .ref (gB Γ + 159), .null, .null, .null, .null]) := ho
  have h_157 := (hne _ (by omega)).trans h_157
  have h_158 := (hne _ (by omega)).trans h_158
  have h_159 := (hne _ (by omega)).trans h_159
  have hlow := fun j hj => (hne j (by omega)).trans (hlow j hj)
  refine lv_aload_n hx hb dX8_init_31 rfl (lv_at hl 0 rfl) ?_
  refine lv_sipush (v := 1024) hx hb dX8_init_32 (by decide) ?_
  refine r_newa (atype := .int) (N := 1024) (a0 := (1024, .inl (fun _ => 0))) hx hb hts warr_int 0 rfl hK hR hS (fun _ => rfl) (by decide) (by decide) (Nat.le_of_ble_eq_true rfl) (Nat.le_of_ble_eq_true rfl) (Nat.le_of_ble_eq_true rfl) dX8_init_35 (fun o7 H h_160 hne hR hS => ?_)
  have ho := (hne _ (by omega)).trans ho
  have h_157 := (hne _ (by omega)).trans h_157
  have h_158 := (hne _ (by omega)).trans h_158
  have h_159 := (hne _ (by omega)).trans h_159
  have hlow := fun j hj => (hne j (by omega)).trans (hlow j hj)
  refine r_put (ci := 8) (ty := tyX8 4) (v := .ref (gB Γ + 160)) (C := RX8) (T := TX8) (N := 8) hx hb hts hin_8 tyX8 tyX8_ok nmX8 hown hin hK hR hS ho (by omega) rfl 4 (by decide) rfl rfl wf_X8_21 (tyX8_ok 4 (by decide)) rfl rfl (Nat.le_of_ble_eq_true rfl) dX8_init_37 (fun o8 H locs ho hne hR hS => ?_)
  have ho : o8 156 = .inr (8, [.null, .ref (gB Γ + 157), .ref (gB Γ + 158), .ref (gB Γ + 159), .ref (gB Γ + 160), .null, .null, .null]) := ho
  have h_157 := (hne _ (by omega)).trans h_157
  have h_158 := (hne _ (by omega)).trans h_158
  have h_159 := (hne _ (by omega)).trans h_159
  have h_160 := (hne _ (by omega)).trans h_160
  have hlow := fun j hj => (hne j (by omega)).trans (hlow j hj)
  refine lv_aload_n hx hb dX8_init_40 rfl (lv_at hl 0 rfl) ?_
  refine lv_sipush (v := 1024) hx hb dX8_init_41 (by decide) ?_
  refine r_newa (atype := .int) (N := 1024) (a0 := (1024, .inl (fun _ => 0))) hx hb hts warr_int 0 rfl hK hR hS (fun _ => rfl) (by decide) (by decide) (Nat.le_of_ble_eq_true rfl) (Nat.le_of_ble_eq_true rfl) (Nat.le_of_ble_eq_true rfl) dX8_init_44 (fun o9 H h_161 hne hR hS => ?_)
  have ho := (hne _ (by omega)).trans ho
  have h_157 := (hne _ (by omega)).trans h_157
  have h_158 := (hne _ (by omega)).trans h_158
  have h_159 := (hne _ (by omega)).trans h_159
  have h_160 := (hne _ (by omega)).trans h_160
  have hlow := fun j hj => (hne j (by omega)).trans (hlow j hj)
  refine r_put (ci := 8) (ty := tyX8 5) (v := .ref (gB Γ + 161)) (C := RX8) (T := TX8) (N := 8) hx hb hts hin_8 tyX8 tyX8_ok nmX8 hown hin hK hR hS ho (by omega) rfl 5 (by decide) rfl rfl wf_X8_24 (tyX8_ok 5 (by decide)) rfl rfl (Nat.le_of_ble_eq_true rfl) dX8_init_46 (fun o10 H locs ho hne hR hS => ?_)
  have ho : o10 156 = .inr (8, [.null, .ref (gB Γ + 157), .ref (gB Γ + 158), .ref (gB Γ + 159), .ref (gB Γ + 160), .ref (gB Γ + 161), .null, .null]) := ho
  have h_157 := (hne _ (by omega)).trans h_157
  have h_158 := (hne _ (by omega)).trans h_158
  have h_159 := (hne _ (by omega)).trans h_159
  have h_160 := (hne _ (by omega)).trans h_160
  have h_161 := (hne _ (by omega)).trans h_161
  have hlow := fun j hj => (hne j (by omega)).trans (hlow j hj)
  refine lv_aload_n hx hb dX8_init_49 rfl (lv_at hl 0 rfl) ?_
  refine lv_sipush (v := 5120) hx hb dX8_init_50 (by decide) ?_
  refine r_newa (atype := .int) (N := 5120) (a0 := (5120, .inl (fun _ => 0))) hx hb hts warr_int 0 rfl hK hR hS (fun _ => rfl) (by decide) (by decide) (Nat.le_of_ble_eq_true rfl) (Nat.le_of_ble_eq_true rfl) (Nat.le_of_ble_eq_true rfl) dX8_init_53 (fun o11 H h_162 hne hR hS => ?_)
  have ho := (hne _ (by omega)).trans ho
  have h_157 := (hne _ (by omega)).trans h_157
  have h_158 := (hne _ (by omega)).trans h_158
  have h_159 := (hne _ (by omega)).trans h_159
  have h_160 := (hne _ (by omega)).trans h_160
  have h_161 := (hne _ (by omega)).trans h_161
  have hlow := fun j hj => (hne j (by omega)).trans (hlow j hj)
  refine r_put (ci := 8) (ty := tyX8 6) (v := .ref (gB Γ + 162)) (C := RX8) (T := TX8) (N := 8) hx hb hts hin_8 tyX8 tyX8_ok nmX8 hown hin hK hR hS ho (by omega) rfl 6 (by decide) rfl rfl wf_X8_27 (tyX8_ok 6 (by decide)) rfl rfl (Nat.le_of_ble_eq_true rfl) dX8_init_55 (fun o12 H locs ho hne hR hS => ?_)
  have ho : o12 156 = .inr (8, [.null, .ref (gB Γ + 157), .ref (gB Γ + 158), .ref (gB Γ + 159), .ref (gB Γ + 160), .ref (gB Γ + 161), .ref (gB Γ + 162), .null]) := ho
  have h_157 := (hne _ (by omega)).trans h_157
  have h_158 := (hne _ (by omega)).trans h_158
  have h_159 := (hne _ (by omega)).trans h_159
  have h_160 := (hne _ (by omega)).trans h_160
  have h_161 := (hne _ (by omega)).trans h_161
  have h_162 := (hne _ (by omega)).trans h_162
  have hlow := fun j hj => (hne j (by omega)).trans (hlow j hj)
  refine lv_aload_n hx hb dX8_init_58 rfl (lv_at hl 0 rfl) ?_
  refine lv_bipush (v := 110) hx hb dX8_init_59 (by decide) ?_
  refine r_newa (atype := .int) (N := 110) (a0 := (110, .inl (fun _ => 0))) hx hb hts warr_int 0 rfl hK hR hS (fun _ => rfl) (by decide) (by decide) (Nat.le_of_ble_eq_true rfl) (Nat.le_of_ble_eq_true rfl) (Nat.le_of_ble_eq_true rfl) dX8_init_61 (fun o13 H h_163 hne hR hS => ?_)
  have ho := (hne _ (by omega)).trans ho
  have h_157 := (hne _ (by omega)).trans h_157
  have h_158 := (hne _ (by omega)).trans h_158
  have h_159 := (hne _ (by omega)).trans h_159
  have h_160 := (hne _ (by omega)).trans h_160
  have h_161 := (hne _ (by omega)).trans h_161
  have h_162 := (hne _ (by omega)).trans h_162
  have hlow := fun j hj => (hne j (by omega)).trans (hlow j hj)
  refine r_put (ci := 8) (ty := tyX8 7) (v := .ref (gB Γ + 163)) (C := RX8) (T := TX8) (N := 8) hx hb hts hin_8 tyX8 tyX8_ok nmX8 hown hin hK hR hS ho (by omega) rfl 7 (by decide) rfl rfl wf_X8_30 (tyX8_ok 7 (by decide)) rfl rfl (Nat.le_of_ble_eq_true rfl) dX8_init_63 (fun o14 H locs ho hne hR hS => ?_)
  have ho : o14 156 = .inr (8, [.null, .ref (gB Γ + 157), .ref (gB Γ + 158), .ref (gB Γ + 159), .ref (gB Γ + 160), .ref (gB Γ + 161), .ref (gB Γ + 162), .ref (gB Γ + 163)]) := ho
  have h_157 := (hne _ (by omega)).trans h_157
  have h_158 := (hne _ (by omega)).trans h_158
  have h_159 := (hne _ (by omega)).trans h_159
  have h_160 := (hne _ (by omega)).trans h_160
  have h_161 := (hne _ (by omega)).trans h_161
  have h_162 := (hne _ (by omega)).trans h_162
  have h_163 := (hne _ (by omega)).trans h_163
  have hlow := fun j hj => (hne j (by omega)).trans (hlow j hj)
  refine lv_aload_n hx hb dX8_init_66 rfl (lv_at hl 0 rfl) ?_
  refine lv_aload_n hx hb dX8_init_67 rfl (lv_at hl 1 rfl) ?_
  refine r_put (ci := 8) (ty := tyX8 0) (v := .ref (gB Γ + 14)) (C := RX8) (T := TX8) (N := 8) hx hb hts hin_8 tyX8 tyX8_ok nmX8 hown hin hK hR hS ho (by omega) rfl 0 (by decide) rfl rfl wf_X8_33 (tyX8_ok 0 (by decide)) rfl rfl (Nat.le_of_ble_eq_true rfl) dX8_init_68 (fun o15 H locs ho hne hR hS => ?_)
  have ho : o15 156 = .inr (8, [.ref (gB Γ + 14), .ref (gB Γ + 157), .ref (gB Γ + 158), .ref (gB Γ + 159), .ref (gB Γ + 160), .ref (gB Γ + 161), .ref (gB Γ + 162), .ref (gB Γ + 163)]) := ho
  have h_157 := (hne _ (by omega)).trans h_157
  have h_158 := (hne _ (by omega)).trans h_158
  have h_159 := (hne _ (by omega)).trans h_159
  have h_160 := (hne _ (by omega)).trans h_160
  have h_161 := (hne _ (by omega)).trans h_161
  have h_162 := (hne _ (by omega)).trans h_162
  have h_163 := (hne _ (by omega)).trans h_163
  have hlow := fun j hj => (hne j (by omega)).trans (hlow j hj)
  refine r_vret hx hb hr hlk hR hS (by omega) (by omega) ?_ dX8_init_71
  refine ⟨hlow, fun j h1 h2 => ?_⟩
  by_cases e9 : j = 156
  · subst e9; exact ho.trans rfl
  by_cases e9 : j = 157
  · subst e9; exact h_157.trans rfl
  by_cases e9 : j = 158
  · subst e9; exact h_158.trans rfl
  by_cases e9 : j = 159
  · subst e9; exact h_159.trans rfl
  by_cases e9 : j = 160
  · subst e9; exact h_160.trans rfl
  by_cases e9 : j = 161
  · subst e9; exact h_161.trans rfl
  by_cases e9 : j = 162
  · subst e9; exact h_162.trans rfl
  by_cases e9 : j = 163
  · subst e9; exact h_163.trans rfl
  omega
set_option maxHeartbeats 4000000 in
set_option maxRecDepth 20000 in
theorem k_X3_init (l : Launch) (Γ : gE)  (o : Nat → va_E) (ho : o 164 = .inr (3, [.null, .null, .null])) : gK l yX3_init cX3_init 3 2 33 8 86 Γ [.ref (gB Γ + 164), .ref (gB Γ + 14), .ref (gB Γ + 156)] 165 o 173 (fun o1 => (∀ j, j < 164 → o1 j = o j) ∧ ∀ j, 164 ≤ j → j < 173 → o1 j = gFin Γ j) := by
  refine rStart (own := RX3) (by decide +kernel) rfl rfl (Nat.le_of_ble_eq_true rfl) ?_
  intro p e s m below meth c C0 hin hA ls hl hR
  have hS : va_S (gA0 Γ) s.heap s.heap [] := va_S.rf
  have hl : lv_has ls 3 [(0, .ref (gB Γ + 164)), (1, .ref (gB Γ + 14)), (2, .ref (gB Γ + 156))] := hl
  obtain ⟨hx, hb, hml, hr, hown, hts, hK, hlk, hX⟩ := id C0
  have hlow : ∀ j, j < 164 → o j = o j := fun _ _ => rfl
  refine lv_aload_n hx hb dX3_init_0 rfl (lv_at hl 0 rfl) ?_
  refine r_obj C0 wl_X3_3 wi_obj wc_obj hl.1 dX3_init_1 (Nat.le_of_ble_eq_true rfl) (Nat.le_of_ble_eq_true rfl) ?_
  refine lv_aload_n hx hb dX3_init_4 rfl (lv_at hl 0 rfl) ?_
  refine lv_aload_n hx hb dX3_init_5 rfl (lv_at hl 1 rfl) ?_
  refine r_put (ci := 3) (ty := tyX3 0) (v := .ref (gB Γ + 14)) (C := RX3) (T := TX3) (N := 3) hx hb hts hin_3 tyX3 tyX3_ok nmX3 hown hin hK hR hS ho (by omega) rfl 0 (by decide) rfl rfl wf_X3_9 (tyX3_ok 0 (by decide)) rfl rfl (Nat.le_of_ble_eq_true rfl) dX3_init_6 (fun o1 H locs ho hne hR hS => ?_)
  have ho : o1 164 = .inr (3, [.ref (gB Γ + 14), .null, .null]) := ho
  have hlow := fun j hj => (hne j (by omega)).trans (hlow j hj)
  refine lv_aload_n hx hb dX3_init_9 rfl (lv_at hl 0 rfl) ?_
  refine lv_aload_n hx hb dX3_init_10 rfl (lv_at hl 2 rfl) ?_
  refine r_put (ci := 3) (ty := tyX3 1) (v := .ref (gB Γ + 156)) (C := RX3) (T := TX3) (N := 3) hx hb hts hin_3 tyX3 tyX3_ok nmX3 hown hin hK hR hS ho (by omega) rfl 1 (by decide) rfl rfl wf_X3_15 (tyX3_ok 1 (by decide)) rfl rfl (Nat.le_of_ble_eq_true rfl) dX3_init_11 (fun o2 H locs ho hne hR hS => ?_)
  have ho : o2 164 = .inr (3, [.ref (gB Γ + 14), .ref (gB Γ + 156), .null]) := ho
  have hlow := fun j hj => (hne j (by omega)).trans (hlow j hj)
  refine lv_aload_n hx hb dX3_init_14 rfl (lv_at hl 0 rfl) ?_
  refine r_new (ci := 5) (fs := [.null, .null, .null, .null, .null, .null, .null, .null, .int 0, .int 0]) (C := RX5) (T := TX5) (N := 10) hx hb hts hin_5 tyX5 tyX5_ok hown wcl_X3_19 win_X5 wn_X5 hK hR hS rfl (fun j hj => by rcases (show j = 0 ∨ j = 1 ∨ j = 2 ∨ j = 3 ∨ j = 4 ∨ j = 5 ∨ j = 6 ∨ j = 7 ∨ j = 8 ∨ j = 9 by omega) with rfl | rfl | rfl | rfl | rfl | rfl | rfl | rfl | rfl | rfl <;> rfl) (Nat.le_of_ble_eq_true rfl) (Nat.le_of_ble_eq_true rfl) dX3_init_15 (fun o3 H h_165 hne hR hS => ?_)
  have ho := (hne _ (by omega)).trans ho
  have hlow := fun j hj => (hne j (by omega)).trans (hlow j hj)
  refine lv_dup hx hb dX3_init_18 rfl ?_
  refine lv_aload_n hx hb dX3_init_19 rfl (lv_at hl 1 rfl) ?_
  refine r_call (rest := [.ref (gB Γ + 165), .ref (gB Γ + 164)]) C0 hA cal_X5_init rfl wi_X5_init wl_X3_21 ⟨(Nat.le_of_ble_eq_true rfl), (Nat.le_of_ble_eq_true rfl)⟩ ⟨(Nat.le_of_ble_eq_true rfl), (Nat.le_of_ble_eq_true rfl)⟩ [.ref (gB Γ + 14)] rfl (Nat.le_of_ble_eq_true rfl) hR hS hl.1 dX3_init_20 (k_X5_init l Γ 165 isSt_c165 o3 h_165) (fun o4 H locs hpo hR hS => ?_) rfl
  obtain ⟨hkeep, hfin9⟩ := hpo
  have ho := (hkeep _ (by omega)).trans ho
  have hlow := fun j hj => (hkeep j (by omega)).trans (hlow j hj)
  have hr1 := hfin9
  clear hkeep hfin9
  refine r_put (ci := 3) (ty := tyX3 2) (v := .ref (gB Γ + 165)) (C := RX3) (T := TX3) (N := 3) hx hb hts hin_3 tyX3 tyX3_ok nmX3 hown hin hK hR hS ho (by omega) rfl 2 (by decide) rfl rfl wf_X3_24 (tyX3_ok 2 (by decide)) rfl rfl (Nat.le_of_ble_eq_true rfl) dX3_init_23 (fun o5 H locs ho hne hR hS => ?_)
  have ho : o5 164 = .inr (3, [.ref (gB Γ + 14), .ref (gB Γ + 156), .ref (gB Γ + 165)]) := ho
  have hr1 := fun j h1 h2 => (hne j (by omega)).trans (hr1 j h1 h2)
  have hlow := fun j hj => (hne j (by omega)).trans (hlow j hj)
  refine r_vret hx hb hr hlk hR hS (by omega) (by omega) ?_ dX3_init_26
  refine ⟨hlow, fun j h1 h2 => ?_⟩
  by_cases e9 : j = 164
  · subst e9; exact ho.trans rfl
  by_cases e9 : j < 173
  · exact hr1 j (by omega) e9
  omega
set_option maxHeartbeats 4000000 in
set_option maxRecDepth 20000 in
theorem k_X4_init (l : Launch) (Γ : gE)  (o : Nat → va_E) (ho : o 173 = .inr (4, [.null, .long 0])) : gK l yX4_init cX4_init 2 1 12 0 0 Γ [.ref (gB Γ + 173), .ref (gB Γ + 14)] 174 o 174 (fun o1 => (∀ j, j < 173 → o1 j = o j) ∧ ∀ j, 173 ≤ j → j < 174 → o1 j = gFin Γ j) := by
  refine rStart (own := RX4) (by decide +kernel) rfl rfl (Nat.le_of_ble_eq_true rfl) ?_
  intro p e s m below meth c C0 hin hA ls hl hR
  have hS : va_S (gA0 Γ) s.heap s.heap [] := va_S.rf
  have hl : lv_has ls 2 [(0, .ref (gB Γ + 173)), (1, .ref (gB Γ + 14))] := hl
  obtain ⟨hx, hb, hml, hr, hown, hts, hK, hlk, hX⟩ := id C0
  have hlow : ∀ j, j < 173 → o j = o j := fun _ _ => rfl
  refine lv_aload_n hx hb dX4_init_0 rfl (lv_at hl 0 rfl) ?_
  refine r_obj C0 wl_X4_3 wi_obj wc_obj hl.1 dX4_init_1 (Nat.le_of_ble_eq_true rfl) (Nat.le_of_ble_eq_true rfl) ?_
  refine lv_aload_n hx hb dX4_init_4 rfl (lv_at hl 0 rfl) ?_
  refine lv_aload_n hx hb dX4_init_5 rfl (lv_at hl 1 rfl) ?_
  refine r_put (ci := 4) (ty := tyX4 0) (v := .ref (gB Γ + 14)) (C := RX4) (T := TX4) (N := 2) hx hb hts hin_4 tyX4 tyX4_ok nmX4 hown hin hK hR hS ho (by omega) rfl 0 (by decide) rfl rfl wf_X4_9 (tyX4_ok 0 (by decide)) rfl rfl (Nat.le_of_ble_eq_true rfl) dX4_init_6 (fun o1 H locs ho hne hR hS => ?_)
  have ho : o1 173 = .inr (4, [.ref (gB Γ + 14), .long 0]) := ho
  have hlow := fun j hj => (hne j (by omega)).trans (hlow j hj)
  refine r_vret hx hb hr hlk hR hS (by omega) (by omega) ?_ dX4_init_9
  refine ⟨hlow, fun j h1 h2 => ?_⟩
  by_cases e9 : j = 173
  · subst e9; exact ho.trans rfl
  omega
set_option maxHeartbeats 4000000 in
set_option maxRecDepth 20000 in
theorem kl_X0 {p : Program} {l : Launch} {e : Env} {s : State} {m : MethodId} {args : Array Value} {below : List Frame} {meth : Method} {c : Code} {Γ : gE} {o0 : Nat → va_E} (C0 : gCy p s m args meth c Γ RX0 cX0_init 2 none) : ∀ (d i : Nat) (hi : i + d = 512) (o : Nat → va_E) (H : Heap) (locs : List Loc) (ls : Array Slot) (hR : rP Γ 16 o H) (hS : va_S (gA0 Γ) s.heap H locs) (h14 : o 14 = .inr (0, [.ref (gB Γ + 15), .int 2])) (h15 : o 15 = .inl (Γ.2.2.1 0, 512, .inl (fun j => if j < i then ((1 : Int32) ||| ((nI j &&& (1 : Int32)) <<< ((1 : Int32) &&& 31))) else 0))) (hlow : ∀ j, j < 14 → o j = o0 j) (hl : lv_has ls 2 [(1, .int (nI i)), (0, .ref (gB Γ + 14))]), W p l e (gRx 1 12 1 512) s m args below meth c H locs 1 512 (MQ below (va_Qv (fun o1 => (∀ j, j < 14 → o1 j = o0 j) ∧ ∀ j, 14 ≤ j → j < 16 → o1 j = gFin Γ j) (fun o1 t => rP Γ 16 o1 t.heap) (gA0 Γ)) args s 1 512 (gA0 Γ)) (F0 m 20 ls []) := by
  intro d
  obtain ⟨hx, hb, hml, hr, hown, hts, hK, hlk, hX⟩ := id C0
  induction d with
  | zero =>
    intro i hi o H locs ls hR hS h14 h15 hlow hl
    have e1 : i = 512 := by omega
    subst e1
    refine lv_iload_n hx hb dX0_init_20 rfl (lv_at hl 0 rfl) ?_
    refine lv_sipush (v := 512) hx hb dX0_init_21 (by decide) ?_
    refine lv_icmp_ge (tgt := 46) hx hb dX0_init_24 (by decide) (fun c1 => ?_) (fun c1 => absurd ((nI_leI (a := 512) (b := 512) (by decide) (by decide)).mpr (Nat.le_refl _)) c1)
    refine r_vret hx hb hr hlk hR hS (by omega) (by omega) ⟨hlow, fun j h1 h2 => ?_⟩ dX0_init_46
    by_cases e9 : j = 14
    · subst e9; exact h14.trans rfl
    have e9 : j = 15 := by omega
    subst e9
    exact h15.trans rfl
  | succ d ih =>
    intro i hi o H locs ls hR hS h14 h15 hlow hl
    refine lv_iload_n hx hb dX0_init_20 rfl (lv_at hl 0 rfl) ?_
    refine lv_sipush (v := 512) hx hb dX0_init_21 (by decide) ?_
    refine lv_icmp_ge (tgt := 46) hx hb dX0_init_24 (by decide) (fun c1 => absurd ((nI_leI (a := 512) (b := i) (by decide) (by omega)).mp c1) (by omega)) (fun c1 => ?_)
    refine lv_aload_n hx hb dX0_init_27 rfl (lv_at hl 1 rfl) ?_
    refine r_get (ci := 0) (C := RX0) (T := TX0) (N := 2) hx hb hts hin_0 hown hK hR h14 (by omega) rfl 0 (by decide) rfl wf_X0_9 rfl dX0_init_28 ?_
    refine lv_iload_n hx hb dX0_init_31 rfl (lv_at hl 0 rfl) ?_
    refine lv_iconst (v := 1) hx hb dX0_init_32 (by decide) ?_
    refine lv_iload_n hx hb dX0_init_33 rfl (lv_at hl 0 rfl) ?_
    refine lv_iconst (v := 1) hx hb dX0_init_34 (by decide) ?_
    refine lv_iand hx hb dX0_init_35 ?_
    refine lv_iconst (v := 1) hx hb dX0_init_36 (by decide) ?_
    refine lv_ishl hx hb dX0_init_37 ?_
    refine lv_ior hx hb dX0_init_38 ?_
    refine r_iast hx hb hK hR hS h15 (by omega) (vp_in_nI (by omega) (by decide)) dX0_init_39 (fun o1 H locs h15 hne hR hS => ?_)
    have h14 := (hne 14 (by omega)).trans h14
    have hlow : ∀ j, j < 14 → o1 j = o0 j := fun j hj => (hne j (by omega)).trans (hlow j hj)
    rw [nI_clamp (by omega)] at h15
    refine lv_iinc (v := nI (i + 1)) (lv' := [(1, .int (nI (i + 1))), (0, .ref (gB Γ + 14))]) hx hb dX0_init_40 hl (k := 0) rfl (nI_1 i) (by decide) rfl (fun ls hl => ?_)
    refine lv_goto (tgt := 20) hx hb dX0_init_43 (by decide) ?_
    refine ih (i + 1) (by omega) o1 H locs ls hR hS h14 (h15.trans ?_) hlow hl
    congr 4
    funext j
    unfold upd
    by_cases e1 : j = i
    · subst e1; simp
    · rw [if_neg e1]
      show (if j < i then _ else _) = _
      by_cases e2 : j < i
      · rw [if_pos e2, if_pos (by omega)]
      · rw [if_neg e2, if_neg (by omega)]
set_option maxHeartbeats 4000000 in
set_option maxRecDepth 20000 in
theorem k_X0_init (l : Launch) (Γ : gE) (o : Nat → va_E) (ho : o 14 = .inr (0, [.null, .int 0])) : gK l yX0_init cX0_init 2 1 12 1 512 Γ [.ref (gB Γ + 14)] 15 o 16 (fun o1 => (∀ j, j < 14 → o1 j = o j) ∧ ∀ j, 14 ≤ j → j < 16 → o1 j = gFin Γ j) := by
  refine rStart (own := RX0) (by decide +kernel) rfl rfl (Nat.le_of_ble_eq_true rfl) ?_
  intro p e s m below meth c C0 hin hA ls hl hR
  have hS : va_S (gA0 Γ) s.heap s.heap [] := va_S.rf
  have hl : lv_has ls 2 [(0, .ref (gB Γ + 14))] := hl
  obtain ⟨hx, hb, hml, hr, hown, hts, hK, hlk, hX⟩ := id C0
  have hlow : ∀ j, j < 14 → o j = o j := fun _ _ => rfl
  refine lv_aload_n hx hb dX0_init_0 rfl (lv_at hl 0 rfl) ?_
  refine r_obj C0 wl_X0_3 wi_obj wc_obj hl.1 dX0_init_1 (Nat.le_of_ble_eq_true rfl) (Nat.le_of_ble_eq_true rfl) ?_
  refine lv_aload_n hx hb dX0_init_4 rfl (lv_at hl 0 rfl) ?_
  refine lv_sipush (v := 512) hx hb dX0_init_5 (by decide) ?_
  refine r_newa (atype := .int) (N := 512) (a0 := (512, .inl (fun _ => 0))) hx hb hts warr_int 0 rfl hK hR hS (fun _ => rfl) (by decide) (by decide) (Nat.le_of_ble_eq_true rfl) (Nat.le_of_ble_eq_true rfl) (Nat.le_of_ble_eq_true rfl) dX0_init_8 (fun o1 H h_15 hne hR hS => ?_)
  have ho := (hne _ (by omega)).trans ho
  have hlow := fun j hj => (hne j (by omega)).trans (hlow j hj)
  refine r_put (ci := 0) (ty := tyX0 0) (v := .ref (gB Γ + 15)) (C := RX0) (T := TX0) (N := 2) hx hb hts hin_0 tyX0 tyX0_ok nmX0 hown hin hK hR hS ho (by omega) rfl 0 (by decide) rfl rfl wf_X0_9 (tyX0_ok 0 (by decide)) rfl rfl (Nat.le_of_ble_eq_true rfl) dX0_init_10 (fun o2 H locs ho hne hR hS => ?_)
  have ho : o2 14 = .inr (0, [.ref (gB Γ + 15), .int 0]) := ho
  have h_15 := (hne _ (by omega)).trans h_15
  have hlow := fun j hj => (hne j (by omega)).trans (hlow j hj)
  refine lv_aload_n hx hb dX0_init_13 rfl (lv_at hl 0 rfl) ?_
  refine lv_iconst (v := 2) hx hb dX0_init_14 (by decide) ?_
  refine r_put (ci := 0) (ty := tyX0 1) (v := .int (2 : Int32)) (C := RX0) (T := TX0) (N := 2) hx hb hts hin_0 tyX0 tyX0_ok nmX0 hown hin hK hR hS ho (by omega) rfl 1 (by decide) rfl rfl wf_X0_15 (tyX0_ok 1 (by decide)) rfl rfl (Nat.le_of_ble_eq_true rfl) dX0_init_15 (fun o3 H locs ho hne hR hS => ?_)
  have ho : o3 14 = .inr (0, [.ref (gB Γ + 15), .int (2 : Int32)]) := ho
  have h_15 := (hne _ (by omega)).trans h_15
  have hlow := fun j hj => (hne j (by omega)).trans (hlow j hj)
  refine lv_iconst (v := 0) hx hb dX0_init_18 (by decide) ?_
  refine lv_istore_n (lv' := [(1, .int (0 : Int32)), (0, .ref (gB Γ + 14))]) hx hb dX0_init_19 rfl hl (by decide) rfl (fun ls hl => ?_)
  exact kl_X0 C0 512 0 rfl _ H locs ls hR hS ho (h_15.trans rfl) hlow hl
set_option maxHeartbeats 4000000 in
set_option maxRecDepth 20000 in
theorem kl_X1 {p : Program} {l : Launch} {e : Env} {s : State} {m : MethodId} {args : Array Value} {below : List Frame} {meth : Method} {c : Code} {Γ : gE} {o0 : Nat → va_E} (C0 : gCy p s m args meth c Γ RX1 cX1_init 3 none) (hA : va_AO RX5 s) : ∀ (d i : Nat) (hi : i + d = 14) (o : Nat → va_E) (H : Heap) (locs : List Loc) (ls : Array Slot) (hR : rP Γ (26 + 8 * i) o H) (hS : va_S (gA0 Γ) s.heap H locs) (h24 : o 24 = .inr (1, [.ref (gB Γ + 25), .int 0, .int 0])) (h25 : o 25 = .inl (Γ.2.2.1 4, 14, .inr (.inr (.inr (.inr (fun j => if j < i then some (gB Γ + (26 + 8 * j)) else none)))))) (hr26 : ∀ j, 26 ≤ j → j < 26 + 8 * i → o j = gFin Γ j) (hlow : ∀ j, j < 24 → o j = o0 j) (hl : lv_has ls 3 [(2, .int (nI i)), (0, .ref (gB Γ + 24)), (1, .ref (gB Γ + 14))]), W p l e (gRx 2 33 113 1218) s m args below meth c H locs (1 + 8 * i) (14 + 86 * i) (MQ below (va_Qv (fun o1 => (∀ j, j < 24 → o1 j = o0 j) ∧ ∀ j, 24 ≤ j → j < 138 → o1 j = gFin Γ j) (fun o1 t => rP Γ 138 o1 t.heap) (gA0 Γ)) args s 113 1218 (gA0 Γ)) (F0 m 15 ls []) := by
  intro d
  obtain ⟨hx, hb, hml, hr, hown, hts, hK, hlk, hX⟩ := id C0
  have hm1 : (gRx 2 33 113 1218).cells = 113 := rfl
  have hm2 : (gRx 2 33 113 1218).slots = 1218 := rfl
  induction d with
  | zero =>
    intro i hi o H locs ls hR hS h24 h25 hr26 hlow hl
    have e1 : i = 14 := by omega
    subst e1
    refine lv_iload_n hx hb dX1_init_15 rfl (lv_at hl 0 rfl) ?_
    refine lv_bipush (v := 14) hx hb dX1_init_16 (by decide) ?_
    refine lv_icmp_ge (tgt := 41) hx hb dX1_init_18 (by decide) (fun c1 => ?_) (fun c1 => absurd ((nI_leI (a := 14) (b := 14) (by decide) (by decide)).mpr (Nat.le_refl _)) c1)
    refine r_vret hx hb hr hlk hR hS (by omega) (by omega) ⟨hlow, fun j h1 h2 => ?_⟩ dX1_init_41
    by_cases e9 : j = 24
    · subst e9; exact h24.trans rfl
    by_cases e9 : j = 25
    · subst e9; exact h25.trans rfl
    exact hr26 j (by omega) (by omega)
  | succ d ih =>
    intro i hi o H locs ls hR hS h24 h25 hr26 hlow hl
    refine lv_iload_n hx hb dX1_init_15 rfl (lv_at hl 0 rfl) ?_
    refine lv_bipush (v := 14) hx hb dX1_init_16 (by decide) ?_
    refine lv_icmp_ge (tgt := 41) hx hb dX1_init_18 (by decide) (fun c1 => absurd ((nI_leI (a := 14) (b := i) (by decide) (by omega)).mp c1) (by omega)) (fun c1 => ?_)
    refine lv_aload_n hx hb dX1_init_21 rfl (lv_at hl 1 rfl) ?_
    refine r_get (ci := 1) (C := RX1) (T := TX1) (N := 3) hx hb hts hin_1 hown hK hR h24 (by omega) rfl 0 (by decide) rfl wf_X1_11 rfl dX1_init_22 ?_
    refine lv_iload_n hx hb dX1_init_25 rfl (lv_at hl 0 rfl) ?_
    refine r_new (ci := 5) (fs := [.null, .null, .null, .null, .null, .null, .null, .null, .int 0, .int 0]) (C := RX5) (T := TX5) (N := 10) hx hb hts hin_5 tyX5 tyX5_ok hown wcl_X1_9 win_X5 wn_X5 hK hR hS rfl (fun j hj => by rcases (show j = 0 ∨ j = 1 ∨ j = 2 ∨ j = 3 ∨ j = 4 ∨ j = 5 ∨ j = 6 ∨ j = 7 ∨ j = 8 ∨ j = 9 by omega) with rfl | rfl | rfl | rfl | rfl | rfl | rfl | rfl | rfl | rfl <;> rfl) (by rw [hm1]; omega) (by rw [hm2]; omega) dX1_init_26 (fun o1 H hnew hne hR hS => ?_)
    have h24 := (hne 24 (by omega)).trans h24
    have h25 := (hne 25 (by omega)).trans h25
    have hr26 := fun j h1 h2 => (hne j (by omega)).trans (hr26 j h1 h2)
    have hlow := fun j hj => (hne j (by omega)).trans (hlow j hj)
    clear hne
    refine lv_dup hx hb dX1_init_29 rfl ?_
    refine lv_aload_n hx hb dX1_init_30 rfl (lv_at hl 2 rfl) ?_
    refine r_call (rest := [.ref (gB Γ + (26 + 8 * i)), .int (nI i), .ref (gB Γ + 25)]) C0 hA cal_X5_init rfl wi_X5_init wl_X1_17 ⟨(Nat.le_of_ble_eq_true rfl), (Nat.le_of_ble_eq_true rfl)⟩ ⟨by rw [hm1]; omega, by rw [hm2]; omega⟩ [.ref (gB Γ + 14)] rfl (Nat.le_of_ble_eq_true rfl) hR hS hl.1 dX1_init_31 (k_X5_init l Γ (26 + 8 * i) (isSt_ring (by omega)) o1 hnew) (fun o2 H locs hpo hR hS => ?_) rfl
    obtain ⟨hkeep, hfin9⟩ := hpo
    have h24 := (hkeep 24 (by omega)).trans h24
    have h25 := (hkeep 25 (by omega)).trans h25
    have hr26 : ∀ j, 26 ≤ j → j < 26 + 8 * (i + 1) → o2 j = gFin Γ j := fun j h1 h2 => by
      by_cases e9 : j < 26 + 8 * i
      · exact (hkeep j e9).trans (hr26 j h1 e9)
      · exact hfin9 j (by omega) (by omega)
    have hlow := fun j hj => (hkeep j (by omega)).trans (hlow j hj)
    have hst : o2 (26 + 8 * i) = .inr (5, gf5 Γ (26 + 8 * i) (fun _ => 0) (fun _ => 0)) := (hfin9 _ (by omega) (by omega)).trans (gFin_o (isSt_ring (by omega)))
    refine r_qast hx hb hK hR hS h25 (by omega) hst (by omega) (vp_in_nI (by omega) (by decide)) dX1_init_34 (fun o3 H locs h25 hne hR hS => ?_)
    have h24 := (hne 24 (by omega)).trans h24
    have hr26 := fun j h1 h2 => (hne j (by omega)).trans (hr26 j h1 h2)
    have hlow := fun j hj => (hne j (by omega)).trans (hlow j hj)
    rw [nI_clamp (by omega)] at h25
    refine lv_iinc (v := nI (i + 1)) (lv' := [(2, .int (nI (i + 1))), (0, .ref (gB Γ + 24)), (1, .ref (gB Γ + 14))]) hx hb dX1_init_35 hl (k := 0) rfl (nI_1 i) (by decide) rfl (fun ls hl => ?_)
    refine lv_goto (tgt := 15) hx hb dX1_init_38 (by decide) ?_
    refine W.widen (k := 1 + 8 * (i + 1)) (n := 14 + 86 * (i + 1)) (by omega) (by omega) ?_
    refine ih (i + 1) (by omega) o3 H locs ls hR hS h24 (h25.trans ?_) hr26 hlow hl
    congr 7
    funext j
    unfold va_up
    by_cases e1 : j = i
    · subst e1; simp
    · rw [if_neg e1]
      show (if j < i then _ else _) = _
      by_cases e2 : j < i
      · rw [if_pos e2, if_pos (by omega)]
      · rw [if_neg e2, if_neg (by omega)]
set_option maxHeartbeats 4000000 in
set_option maxRecDepth 20000 in
theorem k_X1_init (l : Launch) (Γ : gE) (o : Nat → va_E) (ho : o 24 = .inr (1, [.null, .int 0, .int 0])) : gK l yX1_init cX1_init 3 2 33 113 1218 Γ [.ref (gB Γ + 24), .ref (gB Γ + 14)] 25 o 138 (fun o1 => (∀ j, j < 24 → o1 j = o j) ∧ ∀ j, 24 ≤ j → j < 138 → o1 j = gFin Γ j) := by
  refine rStart (own := RX1) (by decide +kernel) rfl rfl (Nat.le_of_ble_eq_true rfl) ?_
  intro p e s m below meth c C0 hin hA ls hl hR
  have hS : va_S (gA0 Γ) s.heap s.heap [] := va_S.rf
  have hl : lv_has ls 3 [(0, .ref (gB Γ + 24)), (1, .ref (gB Γ + 14))] := hl
  obtain ⟨hx, hb, hml, hr, hown, hts, hK, hlk, hX⟩ := id C0
  have hlow : ∀ j, j < 24 → o j = o j := fun _ _ => rfl
  refine lv_aload_n hx hb dX1_init_0 rfl (lv_at hl 0 rfl) ?_
  refine r_obj C0 wl_X1_3 wi_obj wc_obj hl.1 dX1_init_1 (Nat.le_of_ble_eq_true rfl) (Nat.le_of_ble_eq_true rfl) ?_
  refine lv_aload_n hx hb dX1_init_4 rfl (lv_at hl 0 rfl) ?_
  refine lv_bipush (v := 14) hx hb dX1_init_5 (by decide) ?_
  refine r_newq (N := 14) hx hb hts hown wcl_X1_9 hA hK hR hS (by decide) (by decide) (Nat.le_of_ble_eq_true rfl) (Nat.le_of_ble_eq_true rfl) (Nat.le_of_ble_eq_true rfl) dX1_init_7 (fun o1 H h_25 hne hR hS => ?_)
  have ho := (hne _ (by omega)).trans ho
  have hlow := fun j hj => (hne j (by omega)).trans (hlow j hj)
  refine r_put (ci := 1) (ty := tyX1 0) (v := .ref (gB Γ + 25)) (C := RX1) (T := TX1) (N := 3) hx hb hts hin_1 tyX1 tyX1_ok nmX1 hown hin hK hR hS ho (by omega) rfl 0 (by decide) rfl rfl wf_X1_11 (tyX1_ok 0 (by decide)) rfl rfl (Nat.le_of_ble_eq_true rfl) dX1_init_10 (fun o2 H locs ho hne hR hS => ?_)
  have ho : o2 24 = .inr (1, [.ref (gB Γ + 25), .int 0, .int 0]) := ho
  have h_25 := (hne _ (by omega)).trans h_25
  have hlow := fun j hj => (hne j (by omega)).trans (hlow j hj)
  refine lv_iconst (v := 0) hx hb dX1_init_13 (by decide) ?_
  refine lv_istore_n (lv' := [(2, .int (0 : Int32)), (0, .ref (gB Γ + 24)), (1, .ref (gB Γ + 14))]) hx hb dX1_init_14 rfl hl (by decide) rfl (fun ls hl => ?_)
  exact kl_X1 C0 hA 14 0 rfl _ H locs ls hR hS ho (h_25.trans rfl) (fun j h1 h2 => by omega) hlow hl
set_option maxHeartbeats 4000000 in
set_option maxRecDepth 20000 in
theorem kl_X9 {p : Program} {l : Launch} {e : Env} {s : State} {m : MethodId} {args : Array Value} {below : List Frame} {meth : Method} {c : Code} {Γ : gE} {Q : State → Prop} (C0 : gCy p s m args meth c Γ RX9 cX9_init 2 none) (hA : va_AO RX5 s)
    (kk : ∀ (o9 : Nat → va_E) (H : Heap) (locs : List Loc) (ls : Array Slot), rP Γ 155 o9 H → va_S (gA0 Γ) s.heap H locs → o9 0 = .inr (9, [.ref (gB Γ + 1), .ref (gB Γ + 3), .ref (gB Γ + 14), .ref (gB Γ + 16), .ref (gB Γ + 24), .ref (gB Γ + 138), .null, .null, .null, .null]) → (∀ j, 1 ≤ j → j < 155 → o9 j = gFin Γ j) → lv_has ls 2 [(1, .int (nI 2)), (0, .ref (gB Γ + 0))] → W p l e (gRx 3 55 173 14247) s m args below meth c H locs (138 + 8 * 2) (3624 + 86 * 2) Q (F0 m 105 ls [])) : ∀ (d i : Nat) (hi : i + d = 2) (o : Nat → va_E) (H : Heap) (locs : List Loc) (ls : Array Slot) (hR : rP Γ (139 + 8 * i) o H) (hS : va_S (gA0 Γ) s.heap H locs) (h0 : o 0 = .inr (9, [.ref (gB Γ + 1), .ref (gB Γ + 3), .ref (gB Γ + 14), .ref (gB Γ + 16), .ref (gB Γ + 24), .ref (gB Γ + 138), .null, .null, .null, .null])) (h138 : o 138 = .inl (Γ.2.2.1 4, 2, .inr (.inr (.inr (.inr (fun j => if j < i then some (gB Γ + (139 + 8 * j)) else none)))))) (hr1 : ∀ j, 1 ≤ j → j < 138 → o j = gFin Γ j) (hr2 : ∀ j, 139 ≤ j → j < 139 + 8 * i → o j = gFin Γ j) (hl : lv_has ls 2 [(1, .int (nI i)), (0, .ref (gB Γ + 0))]), W p l e (gRx 3 55 173 14247) s m args below meth c H locs (138 + 8 * i) (3624 + 86 * i) Q (F0 m 77 ls []) := by
  intro d
  obtain ⟨hx, hb, hml, hr, hown, hts, hK, hlk, hX⟩ := id C0
  have hm1 : (gRx 3 55 173 14247).cells = 173 := rfl
  have hm2 : (gRx 3 55 173 14247).slots = 14247 := rfl
  induction d with
  | zero =>
    intro i hi o H locs ls hR hS h0 h138 hr1 hr2 hl
    have e1 : i = 2 := by omega
    subst e1
    refine lv_iload_n hx hb dX9_init_77 rfl (lv_at hl 0 rfl) ?_
    refine lv_iconst (v := 2) hx hb dX9_init_78 (by decide) ?_
    refine lv_icmp_ge (tgt := 105) hx hb dX9_init_79 (by decide) (fun c1 => ?_) (fun c1 => absurd ((nI_leI (a := 2) (b := 2) (by decide) (by decide)).mpr (Nat.le_refl _)) c1)
    refine kk o H locs ls hR hS h0 (fun j h1 h2 => ?_) hl
    by_cases e9 : j < 138
    · exact hr1 j h1 e9
    by_cases e9 : j = 138
    · subst e9; exact h138.trans rfl
    exact hr2 j (by omega) (by omega)
  | succ d ih =>
    intro i hi o H locs ls hR hS h0 h138 hr1 hr2 hl
    refine lv_iload_n hx hb dX9_init_77 rfl (lv_at hl 0 rfl) ?_
    refine lv_iconst (v := 2) hx hb dX9_init_78 (by decide) ?_
    refine lv_icmp_ge (tgt := 105) hx hb dX9_init_79 (by decide) (fun c1 => absurd ((nI_leI (a := 2) (b := i) (by decide) (by omega)).mp c1) (by omega)) (fun c1 => ?_)
    refine lv_aload_n hx hb dX9_init_82 rfl (lv_at hl 1 rfl) ?_
    refine r_get (ci := 9) (C := RX9) (T := TX9) (N := 10) hx hb hts hin_9 hown hK hR h0 (by omega) rfl 5 (by decide) rfl wf_X9_46 rfl dX9_init_83 ?_
    refine lv_iload_n hx hb dX9_init_86 rfl (lv_at hl 0 rfl) ?_
    refine r_new (ci := 5) (fs := [.null, .null, .null, .null, .null, .null, .null, .null, .int 0, .int 0]) (C := RX5) (T := TX5) (N := 10) hx hb hts hin_5 tyX5 tyX5_ok hown wcl_X9_30 win_X5 wn_X5 hK hR hS rfl (fun j hj => by rcases (show j = 0 ∨ j = 1 ∨ j = 2 ∨ j = 3 ∨ j = 4 ∨ j = 5 ∨ j = 6 ∨ j = 7 ∨ j = 8 ∨ j = 9 by omega) with rfl | rfl | rfl | rfl | rfl | rfl | rfl | rfl | rfl | rfl <;> rfl) (by rw [hm1]; omega) (by rw [hm2]; omega) dX9_init_87 (fun o1 H hnew hne hR hS => ?_)
    have h0 := (hne 0 (by omega)).trans h0
    have h138 := (hne 138 (by omega)).trans h138
    have hr1 := fun j h1 h2 => (hne j (by omega)).trans (hr1 j h1 h2)
    have hr2 := fun j h1 h2 => (hne j (by omega)).trans (hr2 j h1 h2)
    clear hne
    refine lv_dup hx hb dX9_init_90 rfl ?_
    refine lv_aload_n hx hb dX9_init_91 rfl (lv_at hl 1 rfl) ?_
    refine r_get (ci := 9) (C := RX9) (T := TX9) (N := 10) hx hb hts hin_9 hown hK hR h0 (by omega) rfl 2 (by decide) rfl wf_X9_26 rfl dX9_init_92 ?_
    refine r_call (rest := [.ref (gB Γ + (139 + 8 * i)), .int (nI i), .ref (gB Γ + 138)]) C0 hA cal_X5_init rfl wi_X5_init wl_X9_32 ⟨(Nat.le_of_ble_eq_true rfl), (Nat.le_of_ble_eq_true rfl)⟩ ⟨by rw [hm1]; omega, by rw [hm2]; omega⟩ [.ref (gB Γ + 14)] rfl (Nat.le_of_ble_eq_true rfl) hR hS hl.1 dX9_init_95 (k_X5_init l Γ (139 + 8 * i) (isSt_slot (by omega)) o1 hnew) (fun o2 H locs hpo hR hS => ?_) rfl
    obtain ⟨hkeep, hfin9⟩ := hpo
    have h0 := (hkeep 0 (by omega)).trans h0
    have h138 := (hkeep 138 (by omega)).trans h138
    have hr1 := fun j h1 h2 => (hkeep j (by omega)).trans (hr1 j h1 h2)
    have hr2 : ∀ j, 139 ≤ j → j < 139 + 8 * (i + 1) → o2 j = gFin Γ j := fun j h1 h2 => by
      by_cases e9 : j < 139 + 8 * i
      · exact (hkeep j e9).trans (hr2 j h1 e9)
      · exact hfin9 j (by omega) (by omega)
    have hst : o2 (139 + 8 * i) = .inr (5, gf5 Γ (139 + 8 * i) (fun _ => 0) (fun _ => 0)) := (hfin9 _ (by omega) (by omega)).trans (gFin_o (isSt_slot (by omega)))
    refine r_qast hx hb hK hR hS h138 (by omega) hst (by omega) (vp_in_nI (by omega) (by decide)) dX9_init_98 (fun o3 H locs h138 hne hR hS => ?_)
    have h0 := (hne 0 (by omega)).trans h0
    have hr1 := fun j h1 h2 => (hne j (by omega)).trans (hr1 j h1 h2)
    have hr2 := fun j h1 h2 => (hne j (by omega)).trans (hr2 j h1 h2)
    rw [nI_clamp (by omega)] at h138
    refine lv_iinc (v := nI (i + 1)) (lv' := [(1, .int (nI (i + 1))), (0, .ref (gB Γ + 0))]) hx hb dX9_init_99 hl (k := 0) rfl (nI_1 i) (by decide) rfl (fun ls hl => ?_)
    refine lv_goto (tgt := 77) hx hb dX9_init_102 (by decide) ?_
    refine W.widen (k := 138 + 8 * (i + 1)) (n := 3624 + 86 * (i + 1)) (by omega) (by omega) ?_
    refine ih (i + 1) (by omega) o3 H locs ls hR hS h0 (h138.trans ?_) hr1 hr2 hl
    congr 7
    funext j
    unfold va_up
    by_cases e1 : j = i
    · subst e1; simp
    · rw [if_neg e1]
      show (if j < i then _ else _) = _
      by_cases e2 : j < i
      · rw [if_pos e2, if_pos (by omega)]
      · rw [if_neg e2, if_neg (by omega)]
set_option maxHeartbeats 4000000 in
set_option maxRecDepth 20000 in
theorem k_X9_init (l : Launch) (Γ : gE) (o : Nat → va_E) (ho : o 0 = .inr (9, [.null, .null, .null, .null, .null, .null, .null, .null, .null, .null])) : gK l yX9_init cX9_init 2 3 55 173 14247 Γ [.ref (gB Γ + 0)] 1 o 174 (fun o1 => ∀ j, j < 174 → o1 j = gFin Γ j) := by
  refine rStart (own := RX9) (by decide +kernel) rfl rfl (Nat.le_of_ble_eq_true rfl) ?_
  intro p e s m below meth c C0 hin hA ls hl hR
  have hS : va_S (gA0 Γ) s.heap s.heap [] := va_S.rf
  have hl : lv_has ls 2 [(0, .ref (gB Γ + 0))] := hl
  obtain ⟨hx, hb, hml, hr, hown, hts, hK, hlk, hX⟩ := id C0
  refine lv_aload_n hx hb dX9_init_0 rfl (lv_at hl 0 rfl) ?_
  refine r_obj C0 wl_X9_3 wi_obj wc_obj hl.1 dX9_init_1 (Nat.le_of_ble_eq_true rfl) (Nat.le_of_ble_eq_true rfl) ?_
  refine lv_aload_n hx hb dX9_init_4 rfl (lv_at hl 0 rfl) ?_
  refine r_new (ci := 6) (fs := [.null, .int 0]) (C := RX6) (T := TX6) (N := 2) hx hb hts hin_6 tyX6 tyX6_ok hown wcl_X9_9 win_X6 wn_X6 hK hR hS rfl (fun j hj => by rcases (show j = 0 ∨ j = 1 by omega) with rfl | rfl <;> rfl) (Nat.le_of_ble_eq_true rfl) (Nat.le_of_ble_eq_true rfl) dX9_init_5 (fun o1 H h_1 hne hR hS => ?_)
  have ho := (hne _ (by omega)).trans ho
  refine lv_dup hx hb dX9_init_8 rfl ?_
  refine r_callN (rest := [.ref (gB Γ + 1), .ref (gB Γ + 0)]) C0 hA cal_X6_init rfl wi_X6_init wln_X9_11 ⟨(Nat.le_of_ble_eq_true rfl), (Nat.le_of_ble_eq_true rfl)⟩ ⟨(Nat.le_of_ble_eq_true rfl), (Nat.le_of_ble_eq_true rfl)⟩ [] rfl (Nat.le_of_ble_eq_true rfl) hR hS hl.1 dX9_init_9 (k_X6_init l Γ o1 h_1) (fun o2 H locs hpo hR hS => ?_) rfl
  obtain ⟨hkeep, hfin9⟩ := hpo
  have ho := (hkeep _ (by omega)).trans ho
  have hr1 := hfin9
  clear hkeep hfin9
  refine r_put (ci := 9) (ty := tyX9 0) (v := .ref (gB Γ + 1)) (C := RX9) (T := TX9) (N := 10) hx hb hts hin_9 tyX9 tyX9_ok nmX9 hown hin hK hR hS ho (by omega) rfl 0 (by decide) rfl rfl wf_X9_12 (tyX9_ok 0 (by decide)) rfl rfl (Nat.le_of_ble_eq_true rfl) dX9_init_12 (fun o3 H locs ho hne hR hS => ?_)
  have ho : o3 0 = .inr (9, [.ref (gB Γ + 1), .null, .null, .null, .null, .null, .null, .null, .null, .null]) := ho
  have hr1 := fun j h1 h2 => (hne j (by omega)).trans (hr1 j h1 h2)
  refine lv_aload_n hx hb dX9_init_15 rfl (lv_at hl 0 rfl) ?_
  refine r_new (ci := 2) (fs := [.null, .null, .null, .null, .null, .null, .null, .null, .null, .int 0, .int 0, .int 0]) (C := RX2) (T := TX2) (N := 12) hx hb hts hin_2 tyX2 tyX2_ok hown wcl_X9_16 win_X2 wn_X2 hK hR hS rfl (fun j hj => by rcases (show j = 0 ∨ j = 1 ∨ j = 2 ∨ j = 3 ∨ j = 4 ∨ j = 5 ∨ j = 6 ∨ j = 7 ∨ j = 8 ∨ j = 9 ∨ j = 10 ∨ j = 11 by omega) with rfl | rfl | rfl | rfl | rfl | rfl | rfl | rfl | rfl | rfl | rfl | rfl <;> rfl) (Nat.le_of_ble_eq_true rfl) (Nat.le_of_ble_eq_true rfl) dX9_init_16 (fun o4 H h_3 hne hR hS => ?_)
  have ho := (hne _ (by omega)).trans ho
  have hr1 := fun j h1 h2 => (hne j (by omega)).trans (hr1 j h1 h2)
  refine lv_dup hx hb dX9_init_19 rfl ?_
  refine r_callN (rest := [.ref (gB Γ + 3), .ref (gB Γ + 0)]) C0 hA cal_X2_init rfl wi_X2_init wln_X9_18 ⟨(Nat.le_of_ble_eq_true rfl), (Nat.le_of_ble_eq_true rfl)⟩ ⟨(Nat.le_of_ble_eq_true rfl), (Nat.le_of_ble_eq_true rfl)⟩ [] rfl (Nat.le_of_ble_eq_true rfl) hR hS hl.1 dX9_init_20 (k_X2_init l Γ o4 h_3) (fun o5 H locs hpo hR hS => ?_) rfl
  obtain ⟨hkeep, hfin9⟩ := hpo
  have ho := (hkeep _ (by omega)).trans ho
  have hr1 := fun j h1 h2 => (hkeep j (by omega)).trans (hr1 j h1 h2)
  have hr2 := hfin9
  clear hkeep hfin9
  refine r_put (ci := 9) (ty := tyX9 1) (v := .ref (gB Γ + 3)) (C := RX9) (T := TX9) (N := 10) hx hb hts hin_9 tyX9 tyX9_ok nmX9 hown hin hK hR hS ho (by omega) rfl 1 (by decide) rfl rfl wf_X9_19 (tyX9_ok 1 (by decide)) rfl rfl (Nat.le_of_ble_eq_true rfl) dX9_init_23 (fun o6 H locs ho hne hR hS => ?_)
  have ho : o6 0 = .inr (9, [.ref (gB Γ + 1), .ref (gB Γ + 3), .null, .null, .null, .null, .null, .null, .null, .null]) := ho
  have hr1 := fun j h1 h2 => (hne j (by omega)).trans (hr1 j h1 h2)
  have hr2 := fun j h1 h2 => (hne j (by omega)).trans (hr2 j h1 h2)
  refine lv_aload_n hx hb dX9_init_26 rfl (lv_at hl 0 rfl) ?_
  refine r_new (ci := 0) (fs := [.null, .int 0]) (C := RX0) (T := TX0) (N := 2) hx hb hts hin_0 tyX0 tyX0_ok hown wcl_X9_23 win_X0 wn_X0 hK hR hS rfl (fun j hj => by rcases (show j = 0 ∨ j = 1 by omega) with rfl | rfl <;> rfl) (Nat.le_of_ble_eq_true rfl) (Nat.le_of_ble_eq_true rfl) dX9_init_27 (fun o7 H h_14 hne hR hS => ?_)
  have ho := (hne _ (by omega)).trans ho
  have hr1 := fun j h1 h2 => (hne j (by omega)).trans (hr1 j h1 h2)
  have hr2 := fun j h1 h2 => (hne j (by omega)).trans (hr2 j h1 h2)
  refine lv_dup hx hb dX9_init_30 rfl ?_
  refine r_call (rest := [.ref (gB Γ + 14), .ref (gB Γ + 0)]) C0 hA cal_X0_init rfl wi_X0_init wl_X9_25 ⟨(Nat.le_of_ble_eq_true rfl), (Nat.le_of_ble_eq_true rfl)⟩ ⟨(Nat.le_of_ble_eq_true rfl), (Nat.le_of_ble_eq_true rfl)⟩ [] rfl (Nat.le_of_ble_eq_true rfl) hR hS hl.1 dX9_init_31 (k_X0_init l Γ o7 h_14) (fun o8 H locs hpo hR hS => ?_) rfl
  obtain ⟨hkeep, hfin9⟩ := hpo
  have ho := (hkeep _ (by omega)).trans ho
  have hr1 := fun j h1 h2 => (hkeep j (by omega)).trans (hr1 j h1 h2)
  have hr2 := fun j h1 h2 => (hkeep j (by omega)).trans (hr2 j h1 h2)
  have hr3 := hfin9
  clear hkeep hfin9
  refine r_put (ci := 9) (ty := tyX9 2) (v := .ref (gB Γ + 14)) (C := RX9) (T := TX9) (N := 10) hx hb hts hin_9 tyX9 tyX9_ok nmX9 hown hin hK hR hS ho (by omega) rfl 2 (by decide) rfl rfl wf_X9_26 (tyX9_ok 2 (by decide)) rfl rfl (Nat.le_of_ble_eq_true rfl) dX9_init_34 (fun o9 H locs ho hne hR hS => ?_)
  have ho : o9 0 = .inr (9, [.ref (gB Γ + 1), .ref (gB Γ + 3), .ref (gB Γ + 14), .null, .null, .null, .null, .null, .null, .null]) := ho
  have hr1 := fun j h1 h2 => (hne j (by omega)).trans (hr1 j h1 h2)
  have hr2 := fun j h1 h2 => (hne j (by omega)).trans (hr2 j h1 h2)
  have hr3 := fun j h1 h2 => (hne j (by omega)).trans (hr3 j h1 h2)
  refine lv_aload_n hx hb dX9_init_37 rfl (lv_at hl 0 rfl) ?_
  refine r_new (ci := 5) (fs := [.null, .null, .null, .null, .null, .null, .null, .null, .int 0, .int 0]) (C := RX5) (T := TX5) (N := 10) hx hb hts hin_5 tyX5 tyX5_ok hown wcl_X9_30 win_X5 wn_X5 hK hR hS rfl (fun j hj => by rcases (show j = 0 ∨ j = 1 ∨ j = 2 ∨ j = 3 ∨ j = 4 ∨ j = 5 ∨ j = 6 ∨ j = 7 ∨ j = 8 ∨ j = 9 by omega) with rfl | rfl | rfl | rfl | rfl | rfl | rfl | rfl | rfl | rfl <;> rfl) (Nat.le_of_ble_eq_true rfl) (Nat.le_of_ble_eq_true rfl) dX9_init_38 (fun o10 H h_16 hne hR hS => ?_)
  have ho := (hne _ (by omega)).trans ho
  have hr1 := fun j h1 h2 => (hne j (by omega)).trans (hr1 j h1 h2)
  have hr2 := fun j h1 h2 => (hne j (by omega)).trans (hr2 j h1 h2)
  have hr3 := fun j h1 h2 => (hne j (by omega)).trans (hr3 j h1 h2)
  refine lv_dup hx hb dX9_init_41 rfl ?_
  refine lv_aload_n hx hb dX9_init_42 rfl (lv_at hl 0 rfl) ?_
  refine r_get (ci := 9) (C := RX9) (T := TX9) (N := 10) hx hb hts hin_9 hown hK hR ho (by omega) rfl 2 (by decide) rfl wf_X9_26 rfl dX9_init_43 ?_
  refine r_call (rest := [.ref (gB Γ + 16), .ref (gB Γ + 0)]) C0 hA cal_X5_init rfl wi_X5_init wl_X9_32 ⟨(Nat.le_of_ble_eq_true rfl), (Nat.le_of_ble_eq_true rfl)⟩ ⟨(Nat.le_of_ble_eq_true rfl), (Nat.le_of_ble_eq_true rfl)⟩ [.ref (gB Γ + 14)] rfl (Nat.le_of_ble_eq_true rfl) hR hS hl.1 dX9_init_46 (k_X5_init l Γ 16 isSt_c16 o10 h_16) (fun o11 H locs hpo hR hS => ?_) rfl
  obtain ⟨hkeep, hfin9⟩ := hpo
  have ho := (hkeep _ (by omega)).trans ho
  have hr1 := fun j h1 h2 => (hkeep j (by omega)).trans (hr1 j h1 h2)
  have hr2 := fun j h1 h2 => (hkeep j (by omega)).trans (hr2 j h1 h2)
  have hr3 := fun j h1 h2 => (hkeep j (by omega)).trans (hr3 j h1 h2)
  have hr4 := hfin9
  clear hkeep hfin9
  refine r_put (ci := 9) (ty := tyX9 3) (v := .ref (gB Γ + 16)) (C := RX9) (T := TX9) (N := 10) hx hb hts hin_9 tyX9 tyX9_ok nmX9 hown hin hK hR hS ho (by omega) rfl 3 (by decide) rfl rfl wf_X9_35 (tyX9_ok 3 (by decide)) rfl rfl (Nat.le_of_ble_eq_true rfl) dX9_init_49 (fun o12 H locs ho hne hR hS => ?_)
  have ho : o12 0 = .inr (9, [.ref (gB Γ + 1), .ref (gB Γ + 3), .ref (gB Γ + 14), .ref (gB Γ + 16), .null, .null, .null, .null, .null, .null]) := ho
  have hr1 := fun j h1 h2 => (hne j (by omega)).trans (hr1 j h1 h2)
  have hr2 := fun j h1 h2 => (hne j (by omega)).trans (hr2 j h1 h2)
  have hr3 := fun j h1 h2 => (hne j (by omega)).trans (hr3 j h1 h2)
  have hr4 := fun j h1 h2 => (hne j (by omega)).trans (hr4 j h1 h2)
  refine lv_aload_n hx hb dX9_init_52 rfl (lv_at hl 0 rfl) ?_
  refine r_new (ci := 1) (fs := [.null, .int 0, .int 0]) (C := RX1) (T := TX1) (N := 3) hx hb hts hin_1 tyX1 tyX1_ok hown wcl_X9_39 win_X1 wn_X1 hK hR hS rfl (fun j hj => by rcases (show j = 0 ∨ j = 1 ∨ j = 2 by omega) with rfl | rfl | rfl <;> rfl) (Nat.le_of_ble_eq_true rfl) (Nat.le_of_ble_eq_true rfl) dX9_init_53 (fun o13 H h_24 hne hR hS => ?_)
  have ho := (hne _ (by omega)).trans ho
  have hr1 := fun j h1 h2 => (hne j (by omega)).trans (hr1 j h1 h2)
  have hr2 := fun j h1 h2 => (hne j (by omega)).trans (hr2 j h1 h2)
  have hr3 := fun j h1 h2 => (hne j (by omega)).trans (hr3 j h1 h2)
  have hr4 := fun j h1 h2 => (hne j (by omega)).trans (hr4 j h1 h2)
  refine lv_dup hx hb dX9_init_56 rfl ?_
  refine lv_aload_n hx hb dX9_init_57 rfl (lv_at hl 0 rfl) ?_
  refine r_get (ci := 9) (C := RX9) (T := TX9) (N := 10) hx hb hts hin_9 hown hK hR ho (by omega) rfl 2 (by decide) rfl wf_X9_26 rfl dX9_init_58 ?_
  refine r_call (rest := [.ref (gB Γ + 24), .ref (gB Γ + 0)]) C0 hA cal_X1_init rfl wi_X1_init wl_X9_41 ⟨(Nat.le_of_ble_eq_true rfl), (Nat.le_of_ble_eq_true rfl)⟩ ⟨(Nat.le_of_ble_eq_true rfl), (Nat.le_of_ble_eq_true rfl)⟩ [.ref (gB Γ + 14)] rfl (Nat.le_of_ble_eq_true rfl) hR hS hl.1 dX9_init_61 (k_X1_init l Γ o13 h_24) (fun o14 H locs hpo hR hS => ?_) rfl
  obtain ⟨hkeep, hfin9⟩ := hpo
  have ho := (hkeep _ (by omega)).trans ho
  have hr1 := fun j h1 h2 => (hkeep j (by omega)).trans (hr1 j h1 h2)
  have hr2 := fun j h1 h2 => (hkeep j (by omega)).trans (hr2 j h1 h2)
  have hr3 := fun j h1 h2 => (hkeep j (by omega)).trans (hr3 j h1 h2)
  have hr4 := fun j h1 h2 => (hkeep j (by omega)).trans (hr4 j h1 h2)
  have hr5 := hfin9
  clear hkeep hfin9
  refine r_put (ci := 9) (ty := tyX9 4) (v := .ref (gB Γ + 24)) (C := RX9) (T := TX9) (N := 10) hx hb hts hin_9 tyX9 tyX9_ok nmX9 hown hin hK hR hS ho (by omega) rfl 4 (by decide) rfl rfl wf_X9_42 (tyX9_ok 4 (by decide)) rfl rfl (Nat.le_of_ble_eq_true rfl) dX9_init_64 (fun o15 H locs ho hne hR hS => ?_)
  have ho : o15 0 = .inr (9, [.ref (gB Γ + 1), .ref (gB Γ + 3), .ref (gB Γ + 14), .ref (gB Γ + 16), .ref (gB Γ + 24), .null, .null, .null, .null, .null]) := ho
  have hr1 := fun j h1 h2 => (hne j (by omega)).trans (hr1 j h1 h2)
  have hr2 := fun j h1 h2 => (hne j (by omega)).trans (hr2 j h1 h2)
  have hr3 := fun j h1 h2 => (hne j (by omega)).trans (hr3 j h1 h2)
  have hr4 := fun j h1 h2 => (hne j (by omega)).trans (hr4 j h1 h2)
  have hr5 := fun j h1 h2 => (hne j (by omega)).trans (hr5 j h1 h2)
  refine lv_aload_n hx hb dX9_init_67 rfl (lv_at hl 0 rfl) ?_
  refine lv_iconst (v := 2) hx hb dX9_init_68 (by decide) ?_
  refine r_newq (N := 2) hx hb hts hown wcl_X9_30 hA hK hR hS (by decide) (by decide) (Nat.le_of_ble_eq_true rfl) (Nat.le_of_ble_eq_true rfl) (Nat.le_of_ble_eq_true rfl) dX9_init_69 (fun o16 H h_138 hne hR hS => ?_)
  have ho := (hne _ (by omega)).trans ho
  have hr1 := fun j h1 h2 => (hne j (by omega)).trans (hr1 j h1 h2)
  have hr2 := fun j h1 h2 => (hne j (by omega)).trans (hr2 j h1 h2)
  have hr3 := fun j h1 h2 => (hne j (by omega)).trans (hr3 j h1 h2)
  have hr4 := fun j h1 h2 => (hne j (by omega)).trans (hr4 j h1 h2)
  have hr5 := fun j h1 h2 => (hne j (by omega)).trans (hr5 j h1 h2)
  refine r_put (ci := 9) (ty := tyX9 5) (v := .ref (gB Γ + 138)) (C := RX9) (T := TX9) (N := 10) hx hb hts hin_9 tyX9 tyX9_ok nmX9 hown hin hK hR hS ho (by omega) rfl 5 (by decide) rfl rfl wf_X9_46 (tyX9_ok 5 (by decide)) rfl rfl (Nat.le_of_ble_eq_true rfl) dX9_init_72 (fun o17 H locs ho hne hR hS => ?_)
  have ho : o17 0 = .inr (9, [.ref (gB Γ + 1), .ref (gB Γ + 3), .ref (gB Γ + 14), .ref (gB Γ + 16), .ref (gB Γ + 24), .ref (gB Γ + 138), .null, .null, .null, .null]) := ho
  have h_138 := (hne _ (by omega)).trans h_138
  have hr1 := fun j h1 h2 => (hne j (by omega)).trans (hr1 j h1 h2)
  have hr2 := fun j h1 h2 => (hne j (by omega)).trans (hr2 j h1 h2)
  have hr3 := fun j h1 h2 => (hne j (by omega)).trans (hr3 j h1 h2)
  have hr4 := fun j h1 h2 => (hne j (by omega)).trans (hr4 j h1 h2)
  have hr5 := fun j h1 h2 => (hne j (by omega)).trans (hr5 j h1 h2)
  refine lv_iconst (v := 0) hx hb dX9_init_75 (by decide) ?_
  refine lv_istore_n (lv' := [(1, .int (0 : Int32)), (0, .ref (gB Γ + 0))]) hx hb dX9_init_76 rfl hl (by decide) rfl (fun ls hl => ?_)
  refine kl_X9 C0 hA (fun o9 H locs ls hR hS h0 hr1 hl => ?_) 2 0 rfl _ H locs ls hR hS ho (h_138.trans rfl) (fun j h1 h2 => ?_) (fun j h1 h2 => by omega) hl
  · refine lv_aload_n hx hb dX9_init_105 rfl (lv_at hl 1 rfl) ?_
    refine lv_iconst (v := 2) hx hb dX9_init_106 (by decide) ?_
    refine r_newa (atype := .boolean) (N := 2) (a0 := (2, .inl (fun _ => 0))) hx hb hts warr_boolean 1 rfl hK hR hS (fun _ => rfl) (by decide) (by decide) (Nat.le_of_ble_eq_true rfl) (Nat.le_of_ble_eq_true rfl) (Nat.le_of_ble_eq_true rfl) dX9_init_107 (fun o51 H h_155 hne hR hS => ?_)
    have h0 := (hne _ (by omega)).trans h0
    have hr1 := fun j h1 h2 => (hne j (by omega)).trans (hr1 j h1 h2)
    refine r_put (ci := 9) (ty := tyX9 6) (v := .ref (gB Γ + 155)) (C := RX9) (T := TX9) (N := 10) hx hb hts hin_9 tyX9 tyX9_ok nmX9 hown hin hK hR hS h0 (by omega) rfl 6 (by decide) rfl rfl wf_X9_50 (tyX9_ok 6 (by decide)) rfl rfl (Nat.le_of_ble_eq_true rfl) dX9_init_109 (fun o52 H locs h0 hne hR hS => ?_)
    have h0 : o52 0 = .inr (9, [.ref (gB Γ + 1), .ref (gB Γ + 3), .ref (gB Γ + 14), .ref (gB Γ + 16), .ref (gB Γ + 24), .ref (gB Γ + 138), .ref (gB Γ + 155), .null, .null, .null]) := h0
    have h_155 := (hne _ (by omega)).trans h_155
    have hr1 := fun j h1 h2 => (hne j (by omega)).trans (hr1 j h1 h2)
    refine lv_aload_n hx hb dX9_init_112 rfl (lv_at hl 1 rfl) ?_
    refine r_new (ci := 8) (fs := [.null, .null, .null, .null, .null, .null, .null, .null]) (C := RX8) (T := TX8) (N := 8) hx hb hts hin_8 tyX8 tyX8_ok hown wcl_X9_54 win_X8 wn_X8 hK hR hS rfl (fun j hj => by rcases (show j = 0 ∨ j = 1 ∨ j = 2 ∨ j = 3 ∨ j = 4 ∨ j = 5 ∨ j = 6 ∨ j = 7 by omega) with rfl | rfl | rfl | rfl | rfl | rfl | rfl | rfl <;> rfl) (Nat.le_of_ble_eq_true rfl) (Nat.le_of_ble_eq_true rfl) dX9_init_113 (fun o53 H h_156 hne hR hS => ?_)
    have h0 := (hne _ (by omega)).trans h0
    have h_155 := (hne _ (by omega)).trans h_155
    have hr1 := fun j h1 h2 => (hne j (by omega)).trans (hr1 j h1 h2)
    refine lv_dup hx hb dX9_init_116 rfl ?_
    refine lv_aload_n hx hb dX9_init_117 rfl (lv_at hl 1 rfl) ?_
    refine r_get (ci := 9) (C := RX9) (T := TX9) (N := 10) hx hb hts hin_9 hown hK hR h0 (by omega) rfl 2 (by decide) rfl wf_X9_26 rfl dX9_init_118 ?_
    refine r_call (rest := [.ref (gB Γ + 156), .ref (gB Γ + 0)]) C0 hA cal_X8_init rfl wi_X8_init wl_X9_56 ⟨(Nat.le_of_ble_eq_true rfl), (Nat.le_of_ble_eq_true rfl)⟩ ⟨(Nat.le_of_ble_eq_true rfl), (Nat.le_of_ble_eq_true rfl)⟩ [.ref (gB Γ + 14)] rfl (Nat.le_of_ble_eq_true rfl) hR hS hl.1 dX9_init_121 (k_X8_init l Γ o53 h_156) (fun o54 H locs hpo hR hS => ?_) rfl
    obtain ⟨hkeep, hfin9⟩ := hpo
    have h0 := (hkeep _ (by omega)).trans h0
    have h_155 := (hkeep _ (by omega)).trans h_155
    have hr1 := fun j h1 h2 => (hkeep j (by omega)).trans (hr1 j h1 h2)
    have hr21 := hfin9
    clear hkeep hfin9
    refine r_put (ci := 9) (ty := tyX9 7) (v := .ref (gB Γ + 156)) (C := RX9) (T := TX9) (N := 10) hx hb hts hin_9 tyX9 tyX9_ok nmX9 hown hin hK hR hS h0 (by omega) rfl 7 (by decide) rfl rfl wf_X9_57 (tyX9_ok 7 (by decide)) rfl rfl (Nat.le_of_ble_eq_true rfl) dX9_init_124 (fun o55 H locs h0 hne hR hS => ?_)
    have h0 : o55 0 = .inr (9, [.ref (gB Γ + 1), .ref (gB Γ + 3), .ref (gB Γ + 14), .ref (gB Γ + 16), .ref (gB Γ + 24), .ref (gB Γ + 138), .ref (gB Γ + 155), .ref (gB Γ + 156), .null, .null]) := h0
    have h_155 := (hne _ (by omega)).trans h_155
    have hr1 := fun j h1 h2 => (hne j (by omega)).trans (hr1 j h1 h2)
    have hr21 := fun j h1 h2 => (hne j (by omega)).trans (hr21 j h1 h2)
    refine lv_aload_n hx hb dX9_init_127 rfl (lv_at hl 1 rfl) ?_
    refine r_new (ci := 3) (fs := [.null, .null, .null]) (C := RX3) (T := TX3) (N := 3) hx hb hts hin_3 tyX3 tyX3_ok hown wcl_X9_61 win_X3 wn_X3 hK hR hS rfl (fun j hj => by rcases (show j = 0 ∨ j = 1 ∨ j = 2 by omega) with rfl | rfl | rfl <;> rfl) (Nat.le_of_ble_eq_true rfl) (Nat.le_of_ble_eq_true rfl) dX9_init_128 (fun o56 H h_164 hne hR hS => ?_)
    have h0 := (hne _ (by omega)).trans h0
    have h_155 := (hne _ (by omega)).trans h_155
    have hr1 := fun j h1 h2 => (hne j (by omega)).trans (hr1 j h1 h2)
    have hr21 := fun j h1 h2 => (hne j (by omega)).trans (hr21 j h1 h2)
    refine lv_dup hx hb dX9_init_131 rfl ?_
    refine lv_aload_n hx hb dX9_init_132 rfl (lv_at hl 1 rfl) ?_
    refine r_get (ci := 9) (C := RX9) (T := TX9) (N := 10) hx hb hts hin_9 hown hK hR h0 (by omega) rfl 2 (by decide) rfl wf_X9_26 rfl dX9_init_133 ?_
    refine lv_aload_n hx hb dX9_init_136 rfl (lv_at hl 1 rfl) ?_
    refine r_get (ci := 9) (C := RX9) (T := TX9) (N := 10) hx hb hts hin_9 hown hK hR h0 (by omega) rfl 7 (by decide) rfl wf_X9_57 rfl dX9_init_137 ?_
    refine r_call (rest := [.ref (gB Γ + 164), .ref (gB Γ + 0)]) C0 hA cal_X3_init rfl wi_X3_init wl_X9_63 ⟨(Nat.le_of_ble_eq_true rfl), (Nat.le_of_ble_eq_true rfl)⟩ ⟨(Nat.le_of_ble_eq_true rfl), (Nat.le_of_ble_eq_true rfl)⟩ [.ref (gB Γ + 14), .ref (gB Γ + 156)] rfl (Nat.le_of_ble_eq_true rfl) hR hS hl.1 dX9_init_140 (k_X3_init l Γ o56 h_164) (fun o57 H locs hpo hR hS => ?_) rfl
    obtain ⟨hkeep, hfin9⟩ := hpo
    have h0 := (hkeep _ (by omega)).trans h0
    have h_155 := (hkeep _ (by omega)).trans h_155
    have hr1 := fun j h1 h2 => (hkeep j (by omega)).trans (hr1 j h1 h2)
    have hr21 := fun j h1 h2 => (hkeep j (by omega)).trans (hr21 j h1 h2)
    have hr22 := hfin9
    clear hkeep hfin9
    refine r_put (ci := 9) (ty := tyX9 8) (v := .ref (gB Γ + 164)) (C := RX9) (T := TX9) (N := 10) hx hb hts hin_9 tyX9 tyX9_ok nmX9 hown hin hK hR hS h0 (by omega) rfl 8 (by decide) rfl rfl wf_X9_66 (tyX9_ok 8 (by decide)) rfl rfl (Nat.le_of_ble_eq_true rfl) dX9_init_143 (fun o58 H locs h0 hne hR hS => ?_)
    have h0 : o58 0 = .inr (9, [.ref (gB Γ + 1), .ref (gB Γ + 3), .ref (gB Γ + 14), .ref (gB Γ + 16), .ref (gB Γ + 24), .ref (gB Γ + 138), .ref (gB Γ + 155), .ref (gB Γ + 156), .ref (gB Γ + 164), .null]) := h0
    have h_155 := (hne _ (by omega)).trans h_155
    have hr1 := fun j h1 h2 => (hne j (by omega)).trans (hr1 j h1 h2)
    have hr21 := fun j h1 h2 => (hne j (by omega)).trans (hr21 j h1 h2)
    have hr22 := fun j h1 h2 => (hne j (by omega)).trans (hr22 j h1 h2)
    refine lv_aload_n hx hb dX9_init_146 rfl (lv_at hl 1 rfl) ?_
    refine r_new (ci := 4) (fs := [.null, .long 0]) (C := RX4) (T := TX4) (N := 2) hx hb hts hin_4 tyX4 tyX4_ok hown wcl_X9_70 win_X4 wn_X4 hK hR hS rfl (fun j hj => by rcases (show j = 0 ∨ j = 1 by omega) with rfl | rfl <;> rfl) (Nat.le_of_ble_eq_true rfl) (Nat.le_of_ble_eq_true rfl) dX9_init_147 (fun o59 H h_173 hne hR hS => ?_)
    have h0 := (hne _ (by omega)).trans h0
    have h_155 := (hne _ (by omega)).trans h_155
    have hr1 := fun j h1 h2 => (hne j (by omega)).trans (hr1 j h1 h2)
    have hr21 := fun j h1 h2 => (hne j (by omega)).trans (hr21 j h1 h2)
    have hr22 := fun j h1 h2 => (hne j (by omega)).trans (hr22 j h1 h2)
    refine lv_dup hx hb dX9_init_150 rfl ?_
    refine lv_aload_n hx hb dX9_init_151 rfl (lv_at hl 1 rfl) ?_
    refine r_get (ci := 9) (C := RX9) (T := TX9) (N := 10) hx hb hts hin_9 hown hK hR h0 (by omega) rfl 2 (by decide) rfl wf_X9_26 rfl dX9_init_152 ?_
    refine r_call (rest := [.ref (gB Γ + 173), .ref (gB Γ + 0)]) C0 hA cal_X4_init rfl wi_X4_init wl_X9_72 ⟨(Nat.le_of_ble_eq_true rfl), (Nat.le_of_ble_eq_true rfl)⟩ ⟨(Nat.le_of_ble_eq_true rfl), (Nat.le_of_ble_eq_true rfl)⟩ [.ref (gB Γ + 14)] rfl (Nat.le_of_ble_eq_true rfl) hR hS hl.1 dX9_init_155 (k_X4_init l Γ o59 h_173) (fun o60 H locs hpo hR hS => ?_) rfl
    obtain ⟨hkeep, hfin9⟩ := hpo
    have h0 := (hkeep _ (by omega)).trans h0
    have h_155 := (hkeep _ (by omega)).trans h_155
    have hr1 := fun j h1 h2 => (hkeep j (by omega)).trans (hr1 j h1 h2)
    have hr21 := fun j h1 h2 => (hkeep j (by omega)).trans (hr21 j h1 h2)
    have hr22 := fun j h1 h2 => (hkeep j (by omega)).trans (hr22 j h1 h2)
    have hr23 := hfin9
    clear hkeep hfin9
    refine r_put (ci := 9) (ty := tyX9 9) (v := .ref (gB Γ + 173)) (C := RX9) (T := TX9) (N := 10) hx hb hts hin_9 tyX9 tyX9_ok nmX9 hown hin hK hR hS h0 (by omega) rfl 9 (by decide) rfl rfl wf_X9_73 (tyX9_ok 9 (by decide)) rfl rfl (Nat.le_of_ble_eq_true rfl) dX9_init_158 (fun o61 H locs h0 hne hR hS => ?_)
    have h0 : o61 0 = .inr (9, [.ref (gB Γ + 1), .ref (gB Γ + 3), .ref (gB Γ + 14), .ref (gB Γ + 16), .ref (gB Γ + 24), .ref (gB Γ + 138), .ref (gB Γ + 155), .ref (gB Γ + 156), .ref (gB Γ + 164), .ref (gB Γ + 173)]) := h0
    have h_155 := (hne _ (by omega)).trans h_155
    have hr1 := fun j h1 h2 => (hne j (by omega)).trans (hr1 j h1 h2)
    have hr21 := fun j h1 h2 => (hne j (by omega)).trans (hr21 j h1 h2)
    have hr22 := fun j h1 h2 => (hne j (by omega)).trans (hr22 j h1 h2)
    have hr23 := fun j h1 h2 => (hne j (by omega)).trans (hr23 j h1 h2)
    refine r_vret hx hb hr hlk hR hS (by omega) (by omega) (fun j h2 => ?_) dX9_init_161
    by_cases e9 : j = 0
    · subst e9; exact h0.trans rfl
    by_cases e9 : j < 155
    · exact hr1 j (by omega) e9
    by_cases e9 : j = 155
    · subst e9; exact h_155.trans rfl
    by_cases e9 : j < 164
    · exact hr21 j (by omega) e9
    by_cases e9 : j < 173
    · exact hr22 j (by omega) e9
    by_cases e9 : j < 174
    · exact hr23 j (by omega) e9
    omega
  · by_cases e9 : j < 3
    · exact hr1 j (by omega) e9
    by_cases e9 : j < 14
    · exact hr2 j (by omega) e9
    by_cases e9 : j < 16
    · exact hr3 j (by omega) e9
    by_cases e9 : j < 24
    · exact hr4 j (by omega) e9
    by_cases e9 : j < 138
    · exact hr5 j (by omega) e9
    omega
