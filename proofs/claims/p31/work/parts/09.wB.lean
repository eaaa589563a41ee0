set_option maxHeartbeats 2000000 in
set_option maxRecDepth 20000 in
theorem bs_X5_begin_2 {p : Program} {l : Launch} {e : Env} {s : State} {m : MethodId} {args : Array Value} {below : List Frame} {meth : Method} {c : Code} {Γ : gE} (C0 : gCx p s m args meth c Γ RX5 cX5_begin 3 none) {k : Nat} (hk : isSt k) {z : Unit × gG} {F2 : Int32 → gG → Option (Unit × gG)} {l2 : Int32} {g : gG} {H : Heap} {locs : List Loc} {ls : Array Slot} (hF2 : ∀ (l2 : Int32) (g : gG) (H : Heap) (locs : List Loc) (ls : Array Slot), F2 l2 g = some z → va_P (gD Γ) gcls (lay Γ g) H → va_S (gA Γ) s.heap H locs → lv_has ls 3 [(0, .ref (gB Γ + k)), (1, .ref (gB Γ + 3)), (2, .int l2)] → W p l e (gRm 1 21) s m args below meth c H locs 0 0 (MQ below (gQv Γ z) args s 0 0 (gA Γ)) (F0 m 2 ls [])) (h : fs_X5_begin_2 k F2 l2 g = some z) (hP : va_P (gD Γ) gcls (lay Γ g) H) (hS : va_S (gA Γ) s.heap H locs) (hl : lv_has ls 3 [(0, .ref (gB Γ + k)), (1, .ref (gB Γ + 3)), (2, .int l2)]) : W p l e (gRm 1 21) s m args below meth c H locs 0 0 (MQ below (gQv Γ z) args s 0 0 (gA Γ)) (F0 m 2 ls []) := by
  unfold fs_X5_begin_2 at h
  obtain ⟨hx, hb, hml, hr, hown, hts, hK, hlk, hX⟩ := id C0
  refine lv_iload_n hx hb dX5_begin_2 rfl (lv_at hl 2 rfl) ?_
  refine lv_bipush (v := 10) hx hb dX5_begin_3 (by decide) ?_
  refine lv_icmp_ge (tgt := 36) hx hb dX5_begin_5 (by decide) (fun c1 => ?_) (fun c1 => ?_)
  · replace h := gpos c1 h
    refine lv_aload_n hx hb dX5_begin_36 rfl (lv_at hl 0 rfl) ?_
    refine lv_iconst (v := 0) hx hb dX5_begin_37 (by decide) ?_
    refine gp_5_8 hx hb hown hts hK hP hS hk wf_X5_46 dX5_begin_38 h (fun H locs g2 h hP hS => ?_)
    refine lv_aload_n hx hb dX5_begin_41 rfl (lv_at hl 0 rfl) ?_
    refine lv_iconst (v := 0) hx hb dX5_begin_42 (by decide) ?_
    refine gp_5_9 hx hb hown hts hK hP hS hk wf_X5_50 dX5_begin_43 h (fun H locs g3 h hP hS => ?_)
    exact gvret hx hb hr hlk hP hS dX5_begin_46 h
  · replace h := gneg c1 h
    refine lv_aload_n hx hb dX5_begin_8 rfl (lv_at hl 0 rfl) ?_
    refine gf_5_1 hx hb hown hts hK hP hk wf_X5_9 dX5_begin_9 ?_
    refine lv_iload_n hx hb dX5_begin_12 rfl (lv_at hl 2 rfl) ?_
    refine lv_aload_n hx hb dX5_begin_13 rfl (lv_at hl 1 rfl) ?_
    refine lv_iload_n hx hb dX5_begin_14 rfl (lv_at hl 2 rfl) ?_
    refine gCVi (rest := [.int l2, .ref (gB Γ + (k + 1))]) C0 cal_X2_xOf wl_X5_37 wi_X2_xOf ws_X2_xOf ⟨Nat.le_of_ble_eq_true rfl, Nat.le_of_ble_eq_true rfl⟩ ⟨Nat.le_of_ble_eq_true rfl, Nat.le_of_ble_eq_true rfl⟩ grv_2 [.int l2] rfl (Nat.le_of_ble_eq_true rfl) hP hS hl.1 dX5_begin_15 h (fun u hu => m_X2_xOf l Γ l2 g u hu) (fun u4 H locs h hP hS => ?_) rfl
    refine gIst hx hb hK hP hS (isSt_1 hk) dX5_begin_18 h (fun H locs g5 h hP hS => ?_)
    refine lv_aload_n hx hb dX5_begin_19 rfl (lv_at hl 0 rfl) ?_
    refine gf_5_2 hx hb hown hts hK hP hk wf_X5_15 dX5_begin_20 ?_
    refine lv_iload_n hx hb dX5_begin_23 rfl (lv_at hl 2 rfl) ?_
    refine lv_aload_n hx hb dX5_begin_24 rfl (lv_at hl 1 rfl) ?_
    refine lv_iload_n hx hb dX5_begin_25 rfl (lv_at hl 2 rfl) ?_
    refine gCVi (rest := [.int l2, .ref (gB Γ + (k + 2))]) C0 cal_X2_yOf wl_X5_43 wi_X2_yOf ws_X2_yOf ⟨Nat.le_of_ble_eq_true rfl, Nat.le_of_ble_eq_true rfl⟩ ⟨Nat.le_of_ble_eq_true rfl, Nat.le_of_ble_eq_true rfl⟩ grv_2 [.int l2] rfl (Nat.le_of_ble_eq_true rfl) hP hS hl.1 dX5_begin_26 h (fun u hu => m_X2_yOf l Γ l2 g5 u hu) (fun u6 H locs h hP hS => ?_) rfl
    refine gIst hx hb hK hP hS (isSt_2 hk) dX5_begin_29 h (fun H locs g7 h hP hS => ?_)
    obtain ⟨x8, ex8⟩ : ∃ y : Int32, y = l2 + (1 : Int32) := ⟨_, rfl⟩
    replace h := gLetI ex8 h
    refine lv_iinc (v := x8) (lv' := [(2, .int x8), (0, .ref (gB Γ + k)), (1, .ref (gB Γ + 3))]) hx hb dX5_begin_30 hl (k := 2) rfl (by rw [ex8]; rfl) (by decide) rfl (fun ls hl => ?_)
    refine lv_goto (tgt := 2) hx hb dX5_begin_33 (by decide) ?_
    exact hF2 _ _ _ _ _ h hP hS (lv_sub hl [1, 2, 0] rfl)
set_option maxHeartbeats 2000000 in
set_option maxRecDepth 20000 in
theorem bk_X5_begin_2 {p : Program} {l : Launch} {e : Env} {s : State} {m : MethodId} {args : Array Value} {below : List Frame} {meth : Method} {c : Code} {Γ : gE} (C0 : gCx p s m args meth c Γ RX5 cX5_begin 3 none) {k : Nat} (hk : isSt k) {z : Unit × gG}   : ∀ (n : Nat) (l2 : Int32) (g : gG) (H : Heap) (locs : List Loc) (ls : Array Slot), fb_X5_begin_2 k n l2 g = some z → va_P (gD Γ) gcls (lay Γ g) H → va_S (gA Γ) s.heap H locs → lv_has ls 3 [(0, .ref (gB Γ + k)), (1, .ref (gB Γ + 3)), (2, .int l2)] → W p l e (gRm 1 21) s m args below meth c H locs 0 0 (MQ below (gQv Γ z) args s 0 0 (gA Γ)) (F0 m 2 ls []) := by
  intro n
  induction n with
  | zero => intro l2 g H locs ls h hP hS hl; cases h
  | succ n ih => intro l2 g H locs ls h hP hS hl; exact bs_X5_begin_2 C0 hk ih h hP hS hl
set_option maxHeartbeats 2000000 in
set_option maxRecDepth 20000 in
theorem m_X5_begin (l : Launch) (Γ : gE) {k : Nat} (hk : isSt k)  (g : gG) (z : Unit × gG) (h : f_X5_begin k g = some z) : gMv l yX5_begin cX5_begin 3 none 1 21 Γ [.ref (gB Γ + k), .ref (gB Γ + 3)] g z := by
  unfold f_X5_begin at h
  refine gStart (own := RX5) (by decide +kernel) rfl (Nat.le_of_ble_eq_true rfl) ?_
  intro p e s m below meth c C0 ls hl hP
  have hS : va_S (gA Γ) s.heap s.heap [] := va_S.rf
  have hl : lv_has ls 3 [(0, .ref (gB Γ + k)), (1, .ref (gB Γ + 3))] := hl
  obtain ⟨hx, hb, hml, hr, hown, hts, hK, hlk, hX⟩ := id C0
  refine lv_iconst (v := 0) hx hb dX5_begin_0 (by decide) ?_
  refine lv_istore_n (lv' := [(2, .int (0 : Int32)), (0, .ref (gB Γ + k)), (1, .ref (gB Γ + 3))]) hx hb dX5_begin_1 rfl hl (by decide) rfl (fun ls hl => ?_)
  exact bk_X5_begin_2 C0 hk gFuel _ _ _ _ _ h hP hS (lv_sub hl [1, 2, 0] rfl)
set_option maxHeartbeats 2000000 in
set_option maxRecDepth 20000 in
theorem m_X1_forget (l : Launch) (Γ : gE)    (g : gG) (z : Unit × gG) (h : f_X1_forget g = some z) : gMv l yX1_forget cX1_forget 1 none 0 0 Γ [.ref (gB Γ + 24)] g z := by
  unfold f_X1_forget at h
  refine gStart (own := RX1) (by decide +kernel) rfl (Nat.le_of_ble_eq_true rfl) ?_
  intro p e s m below meth c C0 ls hl hP
  have hS : va_S (gA Γ) s.heap s.heap [] := va_S.rf
  have hl : lv_has ls 1 [(0, .ref (gB Γ + 24))] := hl
  obtain ⟨hx, hb, hml, hr, hown, hts, hK, hlk, hX⟩ := id C0
  refine lv_aload_n hx hb dX1_forget_0 rfl (lv_at hl 0 rfl) ?_
  refine lv_iconst (v := 0) hx hb dX1_forget_1 (by decide) ?_
  refine gp_1_2 hx hb hown hts hK hP hS wf_X1_20 dX1_forget_2 h (fun H locs g1 h hP hS => ?_)
  exact gvret hx hb hr hlk hP hS dX1_forget_5 h
set_option maxHeartbeats 2000000 in
set_option maxRecDepth 20000 in
theorem m_X5_teamCount (l : Launch) (Γ : gE) {k : Nat} (hk : isSt k)  (g : gG) (z : Int32 × gG) (h : f_X5_teamCount k g = some z) : gMi l yX5_teamCount cX5_teamCount 1 (some .int) 0 0 Γ [.ref (gB Γ + k)] g z := by
  unfold f_X5_teamCount at h
  refine gStart (own := RX5) (by decide +kernel) rfl (Nat.le_of_ble_eq_true rfl) ?_
  intro p e s m below meth c C0 ls hl hP
  have hS : va_S (gA Γ) s.heap s.heap [] := va_S.rf
  have hl : lv_has ls 1 [(0, .ref (gB Γ + k))] := hl
  obtain ⟨hx, hb, hml, hr, hown, hts, hK, hlk, hX⟩ := id C0
  refine lv_aload_n hx hb dX5_teamCount_0 rfl (lv_at hl 0 rfl) ?_
  refine gf_5_9 hx hb hown hts hK hP hk wf_X5_50 dX5_teamCount_1 ?_
  exact giret hx hb hr hlk hP hS dX5_teamCount_4 h
set_option maxHeartbeats 2000000 in
set_option maxRecDepth 20000 in
theorem bs_X5_teamsAt_4 {p : Program} {l : Launch} {e : Env} {s : State} {m : MethodId} {args : Array Value} {below : List Frame} {meth : Method} {c : Code} {Γ : gE} (C0 : gCx p s m args meth c Γ RX5 cX5_teamsAt 4 (some .int)) {k : Nat} (hk : isSt k) {z : Int32 × gG} {F4 : Int32 → Int32 → Int32 → gG → Option (Int32 × gG)} {l1 : Int32} {l2 : Int32} {l3 : Int32} {g : gG} {H : Heap} {locs : List Loc} {ls : Array Slot} (hF4 : ∀ (l1 : Int32) (l2 : Int32) (l3 : Int32) (g : gG) (H : Heap) (locs : List Loc) (ls : Array Slot), F4 l1 l2 l3 g = some z → va_P (gD Γ) gcls (lay Γ g) H → va_S (gA Γ) s.heap H locs → lv_has ls 4 [(0, .ref (gB Γ + k)), (1, .int l1), (2, .int l2), (3, .int l3)] → W p l e (gRm 1 21) s m args below meth c H locs 0 0 (MQ below (gQi Γ z) args s 0 0 (gA Γ)) (F0 m 4 ls [])) (h : fs_X5_teamsAt_4 k F4 l1 l2 l3 g = some z) (hP : va_P (gD Γ) gcls (lay Γ g) H) (hS : va_S (gA Γ) s.heap H locs) (hl : lv_has ls 4 [(0, .ref (gB Γ + k)), (1, .int l1), (2, .int l2), (3, .int l3)]) : W p l e (gRm 1 21) s m args below meth c H locs 0 0 (MQ below (gQi Γ z) args s 0 0 (gA Γ)) (F0 m 4 ls []) := by
  unfold fs_X5_teamsAt_4 at h
  obtain ⟨hx, hb, hml, hr, hown, hts, hK, hlk, hX⟩ := id C0
  refine lv_iload_n hx hb dX5_teamsAt_4 rfl (lv_at hl 3 rfl) ?_
  refine lv_aload_n hx hb dX5_teamsAt_5 rfl (lv_at hl 0 rfl) ?_
  refine gf_5_9 hx hb hown hts hK hP hk wf_X5_50 dX5_teamsAt_6 ?_
  refine lv_icmp_ge (tgt := 34) hx hb dX5_teamsAt_9 (by decide) (fun c1 => ?_) (fun c1 => ?_)
  · replace h := gpos c1 h
    refine lv_iload_n hx hb dX5_teamsAt_34 rfl (lv_at hl 2 rfl) ?_
    exact giret hx hb hr hlk hP hS dX5_teamsAt_35 h
  · replace h := gneg c1 h
    refine lv_iload_n hx hb dX5_teamsAt_12 rfl (lv_at hl 1 rfl) ?_
    refine lv_aload_n hx hb dX5_teamsAt_13 rfl (lv_at hl 0 rfl) ?_
    refine gf_5_3 hx hb hown hts hK hP hk wf_X5_18 dX5_teamsAt_14 ?_
    refine lv_iload_n hx hb dX5_teamsAt_17 rfl (lv_at hl 3 rfl) ?_
    refine gIld hx hb hK hP (isSt_3 hk) dX5_teamsAt_18 h (fun h => ?_)
    refine gCNi (rest := []) C0 cal_X9_isIn wln_X5_65 wt_X9_isIn ⟨Nat.le_of_ble_eq_true rfl, Nat.le_of_ble_eq_true rfl⟩ ⟨Nat.le_of_ble_eq_true rfl, Nat.le_of_ble_eq_true rfl⟩ [.int l1, .int (g.1 (k + 3) l3.toNatClampNeg)] rfl (Nat.le_of_ble_eq_true rfl) hP hS hl.1 dX5_teamsAt_19 h (fun u hu => m_X9_isIn l Γ l1 (g.1 (k + 3) l3.toNatClampNeg) g u hu) (fun u2 H locs h hP hS => ?_) rfl
    refine lv_if_eq (tgt := 28) hx hb dX5_teamsAt_22 (by decide) (fun c3 => ?_) (fun c3 => ?_)
    · replace h := gpos c3 h
      obtain ⟨x4, ex4⟩ : ∃ y : Int32, y = l3 + (1 : Int32) := ⟨_, rfl⟩
      replace h := gLetI ex4 h
      refine lv_iinc (v := x4) (lv' := [(3, .int x4), (0, .ref (gB Γ + k)), (1, .int l1), (2, .int l2)]) hx hb dX5_teamsAt_28 hl (k := 3) rfl (by rw [ex4]; rfl) (by decide) rfl (fun ls hl => ?_)
      refine lv_goto (tgt := 4) hx hb dX5_teamsAt_31 (by decide) ?_
      exact hF4 _ _ _ _ _ _ _ h hP hS (lv_sub hl [1, 2, 3, 0] rfl)
    · replace h := gneg c3 h
      obtain ⟨x5, ex5⟩ : ∃ y : Int32, y = l2 + (1 : Int32) := ⟨_, rfl⟩
      replace h := gLetI ex5 h
      refine lv_iinc (v := x5) (lv' := [(2, .int x5), (0, .ref (gB Γ + k)), (1, .int l1), (3, .int l3)]) hx hb dX5_teamsAt_25 hl (k := 2) rfl (by rw [ex5]; rfl) (by decide) rfl (fun ls hl => ?_)
      obtain ⟨x6, ex6⟩ : ∃ y : Int32, y = l3 + (1 : Int32) := ⟨_, rfl⟩
      replace h := gLetI ex6 h
      refine lv_iinc (v := x6) (lv' := [(3, .int x6), (2, .int x5), (0, .ref (gB Γ + k)), (1, .int l1)]) hx hb dX5_teamsAt_28 hl (k := 3) rfl (by rw [ex6]; rfl) (by decide) rfl (fun ls hl => ?_)
      refine lv_goto (tgt := 4) hx hb dX5_teamsAt_31 (by decide) ?_
      exact hF4 _ _ _ _ _ _ _ h hP hS (lv_sub hl [2, 3, 1, 0] rfl)
set_option maxHeartbeats 2000000 in
set_option maxRecDepth 20000 in
theorem bk_X5_teamsAt_4 {p : Program} {l : Launch} {e : Env} {s : State} {m : MethodId} {args : Array Value} {below : List Frame} {meth : Method} {c : Code} {Γ : gE} (C0 : gCx p s m args meth c Γ RX5 cX5_teamsAt 4 (some .int)) {k : Nat} (hk : isSt k) {z : Int32 × gG}   : ∀ (n : Nat) (l1 : Int32) (l2 : Int32) (l3 : Int32) (g : gG) (H : Heap) (locs : List Loc) (ls : Array Slot), fb_X5_teamsAt_4 k n l1 l2 l3 g = some z → va_P (gD Γ) gcls (lay Γ g) H → va_S (gA Γ) s.heap H locs → lv_has ls 4 [(0, .ref (gB Γ + k)), (1, .int l1), (2, .int l2), (3, .int l3)] → W p l e (gRm 1 21) s m args below meth c H locs 0 0 (MQ below (gQi Γ z) args s 0 0 (gA Γ)) (F0 m 4 ls []) := by
  intro n
  induction n with
  | zero => intro l1 l2 l3 g H locs ls h hP hS hl; cases h
  | succ n ih => intro l1 l2 l3 g H locs ls h hP hS hl; exact bs_X5_teamsAt_4 C0 hk ih h hP hS hl
set_option maxHeartbeats 2000000 in
set_option maxRecDepth 20000 in
theorem m_X5_teamsAt (l : Launch) (Γ : gE) {k : Nat} (hk : isSt k) (a1 : Int32) (g : gG) (z : Int32 × gG) (h : f_X5_teamsAt k a1 g = some z) : gMi l yX5_teamsAt cX5_teamsAt 4 (some .int) 1 21 Γ [.ref (gB Γ + k), .int a1] g z := by
  unfold f_X5_teamsAt at h
  refine gStart (own := RX5) (by decide +kernel) rfl (Nat.le_of_ble_eq_true rfl) ?_
  intro p e s m below meth c C0 ls hl hP
  have hS : va_S (gA Γ) s.heap s.heap [] := va_S.rf
  have hl : lv_has ls 4 [(0, .ref (gB Γ + k)), (1, .int a1)] := hl
  obtain ⟨hx, hb, hml, hr, hown, hts, hK, hlk, hX⟩ := id C0
  refine lv_iconst (v := 0) hx hb dX5_teamsAt_0 (by decide) ?_
  refine lv_istore_n (lv' := [(2, .int (0 : Int32)), (0, .ref (gB Γ + k)), (1, .int a1)]) hx hb dX5_teamsAt_1 rfl hl (by decide) rfl (fun ls hl => ?_)
  refine lv_iconst (v := 0) hx hb dX5_teamsAt_2 (by decide) ?_
  refine lv_istore_n (lv' := [(3, .int (0 : Int32)), (2, .int (0 : Int32)), (0, .ref (gB Γ + k)), (1, .int a1)]) hx hb dX5_teamsAt_3 rfl hl (by decide) rfl (fun ls hl => ?_)
  exact bk_X5_teamsAt_4 C0 hk gFuel _ _ _ _ _ _ _ h hP hS (lv_sub hl [2, 3, 1, 0] rfl)
set_option maxHeartbeats 2000000 in
set_option maxRecDepth 20000 in
theorem m_X5_hasTeam (l : Launch) (Γ : gE) {k : Nat} (hk : isSt k) (a1 : Int32) (g : gG) (z : Int32 × gG) (h : f_X5_hasTeam k a1 g = some z) : gMi l yX5_hasTeam cX5_hasTeam 2 (some .boolean) 0 0 Γ [.ref (gB Γ + k), .int a1] g z := by
  unfold f_X5_hasTeam at h
  refine gStart (own := RX5) (by decide +kernel) rfl (Nat.le_of_ble_eq_true rfl) ?_
  intro p e s m below meth c C0 ls hl hP
  have hS : va_S (gA Γ) s.heap s.heap [] := va_S.rf
  have hl : lv_has ls 2 [(0, .ref (gB Γ + k)), (1, .int a1)] := hl
  obtain ⟨hx, hb, hml, hr, hown, hts, hK, hlk, hX⟩ := id C0
  refine lv_iload_n hx hb dX5_hasTeam_0 rfl (lv_at hl 1 rfl) ?_
  refine lv_if_lt (tgt := 16) hx hb dX5_hasTeam_1 (by decide) (fun c1 => ?_) (fun c1 => ?_)
  · replace h := gpos c1 h
    refine lv_iconst (v := 0) hx hb dX5_hasTeam_16 (by decide) ?_
    exact gzret0 hx hb hr hlk hP hS rfl dX5_hasTeam_17 h
  · replace h := gneg c1 h
    refine lv_iload_n hx hb dX5_hasTeam_4 rfl (lv_at hl 1 rfl) ?_
    refine lv_aload_n hx hb dX5_hasTeam_5 rfl (lv_at hl 0 rfl) ?_
    refine gf_5_9 hx hb hown hts hK hP hk wf_X5_50 dX5_hasTeam_6 ?_
    refine lv_icmp_ge (tgt := 16) hx hb dX5_hasTeam_9 (by decide) (fun c2 => ?_) (fun c2 => ?_)
    · replace h := gpos c2 h
      refine lv_iconst (v := 0) hx hb dX5_hasTeam_16 (by decide) ?_
      exact gzret0 hx hb hr hlk hP hS rfl dX5_hasTeam_17 h
    · replace h := gneg c2 h
      refine lv_iconst (v := 1) hx hb dX5_hasTeam_12 (by decide) ?_
      refine lv_goto (tgt := 17) hx hb dX5_hasTeam_13 (by decide) ?_
      exact gzret0 hx hb hr hlk hP hS rfl dX5_hasTeam_17 h
set_option maxHeartbeats 2000000 in
set_option maxRecDepth 20000 in
theorem m_X5_visitedBy (l : Launch) (Γ : gE) {k : Nat} (hk : isSt k) (a1 : Int32) (g : gG) (z : Int32 × gG) (h : f_X5_visitedBy k a1 g = some z) : gMi l yX5_visitedBy cX5_visitedBy 2 (some .int) 1 21 Γ [.ref (gB Γ + k), .int a1] g z := by
  unfold f_X5_visitedBy at h
  refine gStart (own := RX5) (by decide +kernel) rfl (Nat.le_of_ble_eq_true rfl) ?_
  intro p e s m below meth c C0 ls hl hP
  have hS : va_S (gA Γ) s.heap s.heap [] := va_S.rf
  have hl : lv_has ls 2 [(0, .ref (gB Γ + k)), (1, .int a1)] := hl
  obtain ⟨hx, hb, hml, hr, hown, hts, hK, hlk, hX⟩ := id C0
  refine lv_aload_n hx hb dX5_visitedBy_0 rfl (lv_at hl 0 rfl) ?_
  refine lv_iload_n hx hb dX5_visitedBy_1 rfl (lv_at hl 1 rfl) ?_
  refine gCVi (rest := []) C0 cal_X5_hasTeam wl_X5_80 wi_X5_hasTeam ws_X5_hasTeam ⟨Nat.le_of_ble_eq_true rfl, Nat.le_of_ble_eq_true rfl⟩ ⟨Nat.le_of_ble_eq_true rfl, Nat.le_of_ble_eq_true rfl⟩ (grv_5 hk) [.int a1] rfl (Nat.le_of_ble_eq_true rfl) hP hS hl.1 dX5_visitedBy_2 h (fun u hu => m_X5_hasTeam l Γ hk a1 g u hu) (fun u1 H locs h hP hS => ?_) rfl
  refine lv_if_eq (tgt := 17) hx hb dX5_visitedBy_5 (by decide) (fun c2 => ?_) (fun c2 => ?_)
  · replace h := gpos c2 h
    refine lv_iconst (v := 0) hx hb dX5_visitedBy_17 (by decide) ?_
    exact giret hx hb hr hlk hP hS dX5_visitedBy_18 h
  · replace h := gneg c2 h
    refine lv_aload_n hx hb dX5_visitedBy_8 rfl (lv_at hl 0 rfl) ?_
    refine gf_5_3 hx hb hown hts hK hP hk wf_X5_18 dX5_visitedBy_9 ?_
    refine lv_iload_n hx hb dX5_visitedBy_12 rfl (lv_at hl 1 rfl) ?_
    refine gIld hx hb hK hP (isSt_3 hk) dX5_visitedBy_13 h (fun h => ?_)
    refine lv_goto (tgt := 18) hx hb dX5_visitedBy_14 (by decide) ?_
    exact giret hx hb hr hlk hP hS dX5_visitedBy_18 h
set_option maxHeartbeats 2000000 in
set_option maxRecDepth 20000 in
theorem m_X5_minutesOf (l : Launch) (Γ : gE) {k : Nat} (hk : isSt k) (a1 : Int32) (g : gG) (z : Int32 × gG) (h : f_X5_minutesOf k a1 g = some z) : gMi l yX5_minutesOf cX5_minutesOf 2 (some .int) 1 21 Γ [.ref (gB Γ + k), .int a1] g z := by
  unfold f_X5_minutesOf at h
  refine gStart (own := RX5) (by decide +kernel) rfl (Nat.le_of_ble_eq_true rfl) ?_
  intro p e s m below meth c C0 ls hl hP
  have hS : va_S (gA Γ) s.heap s.heap [] := va_S.rf
  have hl : lv_has ls 2 [(0, .ref (gB Γ + k)), (1, .int a1)] := hl
  obtain ⟨hx, hb, hml, hr, hown, hts, hK, hlk, hX⟩ := id C0
  refine lv_aload_n hx hb dX5_minutesOf_0 rfl (lv_at hl 0 rfl) ?_
  refine lv_iload_n hx hb dX5_minutesOf_1 rfl (lv_at hl 1 rfl) ?_
  refine gCVi (rest := []) C0 cal_X5_hasTeam wl_X5_80 wi_X5_hasTeam ws_X5_hasTeam ⟨Nat.le_of_ble_eq_true rfl, Nat.le_of_ble_eq_true rfl⟩ ⟨Nat.le_of_ble_eq_true rfl, Nat.le_of_ble_eq_true rfl⟩ (grv_5 hk) [.int a1] rfl (Nat.le_of_ble_eq_true rfl) hP hS hl.1 dX5_minutesOf_2 h (fun u hu => m_X5_hasTeam l Γ hk a1 g u hu) (fun u1 H locs h hP hS => ?_) rfl
  refine lv_if_eq (tgt := 17) hx hb dX5_minutesOf_5 (by decide) (fun c2 => ?_) (fun c2 => ?_)
  · replace h := gpos c2 h
    refine lv_iconst (v := 0) hx hb dX5_minutesOf_17 (by decide) ?_
    exact giret hx hb hr hlk hP hS dX5_minutesOf_18 h
  · replace h := gneg c2 h
    refine lv_aload_n hx hb dX5_minutesOf_8 rfl (lv_at hl 0 rfl) ?_
    refine gf_5_5 hx hb hown hts hK hP hk wf_X5_24 dX5_minutesOf_9 ?_
    refine lv_iload_n hx hb dX5_minutesOf_12 rfl (lv_at hl 1 rfl) ?_
    refine gIld hx hb hK hP (isSt_5 hk) dX5_minutesOf_13 h (fun h => ?_)
    refine lv_goto (tgt := 18) hx hb dX5_minutesOf_14 (by decide) ?_
    exact giret hx hb hr hlk hP hS dX5_minutesOf_18 h
set_option maxHeartbeats 2000000 in
set_option maxRecDepth 20000 in
theorem m_X5_hintsOf (l : Launch) (Γ : gE) {k : Nat} (hk : isSt k) (a1 : Int32) (g : gG) (z : Int32 × gG) (h : f_X5_hintsOf k a1 g = some z) : gMi l yX5_hintsOf cX5_hintsOf 2 (some .int) 1 21 Γ [.ref (gB Γ + k), .int a1] g z := by
  unfold f_X5_hintsOf at h
  refine gStart (own := RX5) (by decide +kernel) rfl (Nat.le_of_ble_eq_true rfl) ?_
  intro p e s m below meth c C0 ls hl hP
  have hS : va_S (gA Γ) s.heap s.heap [] := va_S.rf
  have hl : lv_has ls 2 [(0, .ref (gB Γ + k)), (1, .int a1)] := hl
  obtain ⟨hx, hb, hml, hr, hown, hts, hK, hlk, hX⟩ := id C0
  refine lv_aload_n hx hb dX5_hintsOf_0 rfl (lv_at hl 0 rfl) ?_
  refine lv_iload_n hx hb dX5_hintsOf_1 rfl (lv_at hl 1 rfl) ?_
  refine gCVi (rest := []) C0 cal_X5_hasTeam wl_X5_80 wi_X5_hasTeam ws_X5_hasTeam ⟨Nat.le_of_ble_eq_true rfl, Nat.le_of_ble_eq_true rfl⟩ ⟨Nat.le_of_ble_eq_true rfl, Nat.le_of_ble_eq_true rfl⟩ (grv_5 hk) [.int a1] rfl (Nat.le_of_ble_eq_true rfl) hP hS hl.1 dX5_hintsOf_2 h (fun u hu => m_X5_hasTeam l Γ hk a1 g u hu) (fun u1 H locs h hP hS => ?_) rfl
  refine lv_if_eq (tgt := 17) hx hb dX5_hintsOf_5 (by decide) (fun c2 => ?_) (fun c2 => ?_)
  · replace h := gpos c2 h
    refine lv_iconst (v := 0) hx hb dX5_hintsOf_17 (by decide) ?_
    exact giret hx hb hr hlk hP hS dX5_hintsOf_18 h
  · replace h := gneg c2 h
    refine lv_aload_n hx hb dX5_hintsOf_8 rfl (lv_at hl 0 rfl) ?_
    refine gf_5_6 hx hb hown hts hK hP hk wf_X5_27 dX5_hintsOf_9 ?_
    refine lv_iload_n hx hb dX5_hintsOf_12 rfl (lv_at hl 1 rfl) ?_
    refine gIld hx hb hK hP (isSt_6 hk) dX5_hintsOf_13 h (fun h => ?_)
    refine lv_goto (tgt := 18) hx hb dX5_hintsOf_14 (by decide) ?_
    exact giret hx hb hr hlk hP hS dX5_hintsOf_18 h
set_option maxHeartbeats 2000000 in
set_option maxRecDepth 20000 in
theorem m_X5_scoreOf (l : Launch) (Γ : gE) {k : Nat} (hk : isSt k) (a1 : Int32) (g : gG) (z : Int32 × gG) (h : f_X5_scoreOf k a1 g = some z) : gMi l yX5_scoreOf cX5_scoreOf 2 (some .int) 2 42 Γ [.ref (gB Γ + k), .int a1] g z := by
  unfold f_X5_scoreOf at h
  refine gStart (own := RX5) (by decide +kernel) rfl (Nat.le_of_ble_eq_true rfl) ?_
  intro p e s m below meth c C0 ls hl hP
  have hS : va_S (gA Γ) s.heap s.heap [] := va_S.rf
  have hl : lv_has ls 2 [(0, .ref (gB Γ + k)), (1, .int a1)] := hl
  obtain ⟨hx, hb, hml, hr, hown, hts, hK, hlk, hX⟩ := id C0
  refine lv_aload_n hx hb dX5_scoreOf_0 rfl (lv_at hl 0 rfl) ?_
  refine gf_5_0 hx hb hown hts hK hP hk wf_X5_33 dX5_scoreOf_1 ?_
  refine lv_aload_n hx hb dX5_scoreOf_4 rfl (lv_at hl 0 rfl) ?_
  refine lv_iload_n hx hb dX5_scoreOf_5 rfl (lv_at hl 1 rfl) ?_
  refine gCVi (rest := [.ref (gB Γ + 14)]) C0 cal_X5_visitedBy wl_X5_84 wi_X5_visitedBy ws_X5_visitedBy ⟨Nat.le_of_ble_eq_true rfl, Nat.le_of_ble_eq_true rfl⟩ ⟨Nat.le_of_ble_eq_true rfl, Nat.le_of_ble_eq_true rfl⟩ (grv_5 hk) [.int a1] rfl (Nat.le_of_ble_eq_true rfl) hP hS hl.1 dX5_scoreOf_6 h (fun u hu => m_X5_visitedBy l Γ hk a1 g u hu) (fun u1 H locs h hP hS => ?_) rfl
  refine gCVi (rest := []) C0 cal_X0_hasChest wl_X5_87 wi_X0_hasChest ws_X0_hasChest ⟨Nat.le_of_ble_eq_true rfl, Nat.le_of_ble_eq_true rfl⟩ ⟨Nat.le_of_ble_eq_true rfl, Nat.le_of_ble_eq_true rfl⟩ grv_0 [.int u1.1] rfl (Nat.le_of_ble_eq_true rfl) hP hS hl.1 dX5_scoreOf_9 h (fun u hu => m_X0_hasChest l Γ u1.1 u1.2 u hu) (fun u2 H locs h hP hS => ?_) rfl
  refine lv_if_ne (tgt := 17) hx hb dX5_scoreOf_12 (by decide) (fun c3 => ?_) (fun c3 => ?_)
  · replace h := gneg c3 h
    refine lv_iconst (v := 0) hx hb dX5_scoreOf_17 (by decide) ?_
    refine lv_sipush (v := 200) hx hb dX5_scoreOf_18 (by decide) ?_
    refine lv_aload_n hx hb dX5_scoreOf_21 rfl (lv_at hl 0 rfl) ?_
    refine lv_iload_n hx hb dX5_scoreOf_22 rfl (lv_at hl 1 rfl) ?_
    refine gCVi (rest := [.int (200 : Int32), .int (0 : Int32)]) C0 cal_X5_minutesOf wl_X5_90 wi_X5_minutesOf ws_X5_minutesOf ⟨Nat.le_of_ble_eq_true rfl, Nat.le_of_ble_eq_true rfl⟩ ⟨Nat.le_of_ble_eq_true rfl, Nat.le_of_ble_eq_true rfl⟩ (grv_5 hk) [.int a1] rfl (Nat.le_of_ble_eq_true rfl) hP hS hl.1 dX5_scoreOf_23 h (fun u hu => m_X5_minutesOf l Γ hk a1 u2.2 u hu) (fun u4 H locs h hP hS => ?_) rfl
    refine lv_isub hx hb dX5_scoreOf_26 ?_
    refine lv_bipush (v := 10) hx hb dX5_scoreOf_27 (by decide) ?_
    refine lv_aload_n hx hb dX5_scoreOf_29 rfl (lv_at hl 0 rfl) ?_
    refine lv_iload_n hx hb dX5_scoreOf_30 rfl (lv_at hl 1 rfl) ?_
    refine gCVi (rest := [.int (10 : Int32), .int ((200 : Int32) - u4.1), .int (0 : Int32)]) C0 cal_X5_hintsOf wl_X5_93 wi_X5_hintsOf ws_X5_hintsOf ⟨Nat.le_of_ble_eq_true rfl, Nat.le_of_ble_eq_true rfl⟩ ⟨Nat.le_of_ble_eq_true rfl, Nat.le_of_ble_eq_true rfl⟩ (grv_5 hk) [.int a1] rfl (Nat.le_of_ble_eq_true rfl) hP hS hl.1 dX5_scoreOf_31 h (fun u hu => m_X5_hintsOf l Γ hk a1 u4.2 u hu) (fun u5 H locs h hP hS => ?_) rfl
    refine lv_imul hx hb dX5_scoreOf_34 ?_
    refine lv_isub hx hb dX5_scoreOf_35 ?_
    refine va_mmax (rest := []) hx hb (hml.trans hl.1.symm) hown (hts _ wl_X5_96) (hts _ wst_max) (hts _ wn_Math) (hts _ wc_max) (Nat.le_of_ble_eq_true rfl) (Nat.le_of_ble_eq_true rfl) (Nat.le_of_ble_eq_true rfl) (Nat.le_of_ble_eq_true rfl) dX5_scoreOf_36 ?_
    exact giret hx hb hr hlk hP hS dX5_scoreOf_39 h
  · replace h := gpos c3 h
    refine lv_iconst (v := 0) hx hb dX5_scoreOf_15 (by decide) ?_
    exact giret hx hb hr hlk hP hS dX5_scoreOf_16 h
set_option maxHeartbeats 2000000 in
set_option maxRecDepth 20000 in
theorem bs_X5_greatestScore_4 {p : Program} {l : Launch} {e : Env} {s : State} {m : MethodId} {args : Array Value} {below : List Frame} {meth : Method} {c : Code} {Γ : gE} (C0 : gCx p s m args meth c Γ RX5 cX5_greatestScore 3 (some .int)) {k : Nat} (hk : isSt k) {z : Int32 × gG} {F4 : Int32 → Int32 → gG → Option (Int32 × gG)} {l1 : Int32} {l2 : Int32} {g : gG} {H : Heap} {locs : List Loc} {ls : Array Slot} (hF4 : ∀ (l1 : Int32) (l2 : Int32) (g : gG) (H : Heap) (locs : List Loc) (ls : Array Slot), F4 l1 l2 g = some z → va_P (gD Γ) gcls (lay Γ g) H → va_S (gA Γ) s.heap H locs → lv_has ls 3 [(0, .ref (gB Γ + k)), (1, .int l1), (2, .int l2)] → W p l e (gRm 3 63) s m args below meth c H locs 0 0 (MQ below (gQi Γ z) args s 0 0 (gA Γ)) (F0 m 4 ls [])) (h : fs_X5_greatestScore_4 k F4 l1 l2 g = some z) (hP : va_P (gD Γ) gcls (lay Γ g) H) (hS : va_S (gA Γ) s.heap H locs) (hl : lv_has ls 3 [(0, .ref (gB Γ + k)), (1, .int l1), (2, .int l2)]) : W p l e (gRm 3 63) s m args below meth c H locs 0 0 (MQ below (gQi Γ z) args s 0 0 (gA Γ)) (F0 m 4 ls []) := by
  unfold fs_X5_greatestScore_4 at h
  obtain ⟨hx, hb, hml, hr, hown, hts, hK, hlk, hX⟩ := id C0
  refine lv_iload_n hx hb dX5_greatestScore_4 rfl (lv_at hl 2 rfl) ?_
  refine lv_aload_n hx hb dX5_greatestScore_5 rfl (lv_at hl 0 rfl) ?_
  refine gf_5_9 hx hb hown hts hK hP hk wf_X5_50 dX5_greatestScore_6 ?_
  refine lv_icmp_ge (tgt := 28) hx hb dX5_greatestScore_9 (by decide) (fun c1 => ?_) (fun c1 => ?_)
  · replace h := gpos c1 h
    refine lv_iload_n hx hb dX5_greatestScore_28 rfl (lv_at hl 1 rfl) ?_
    exact giret hx hb hr hlk hP hS dX5_greatestScore_29 h
  · replace h := gneg c1 h
    refine lv_iload_n hx hb dX5_greatestScore_12 rfl (lv_at hl 1 rfl) ?_
    refine lv_aload_n hx hb dX5_greatestScore_13 rfl (lv_at hl 0 rfl) ?_
    refine lv_iload_n hx hb dX5_greatestScore_14 rfl (lv_at hl 2 rfl) ?_
    refine gCVi (rest := [.int l1]) C0 cal_X5_scoreOf wl_X5_112 wi_X5_scoreOf ws_X5_scoreOf ⟨Nat.le_of_ble_eq_true rfl, Nat.le_of_ble_eq_true rfl⟩ ⟨Nat.le_of_ble_eq_true rfl, Nat.le_of_ble_eq_true rfl⟩ (grv_5 hk) [.int l2] rfl (Nat.le_of_ble_eq_true rfl) hP hS hl.1 dX5_greatestScore_15 h (fun u hu => m_X5_scoreOf l Γ hk l2 g u hu) (fun u2 H locs h hP hS => ?_) rfl
    refine va_mmax (rest := []) hx hb (hml.trans hl.1.symm) hown (hts _ wl_X5_96) (hts _ wst_max) (hts _ wn_Math) (hts _ wc_max) (Nat.le_of_ble_eq_true rfl) (Nat.le_of_ble_eq_true rfl) (Nat.le_of_ble_eq_true rfl) (Nat.le_of_ble_eq_true rfl) dX5_greatestScore_18 ?_
    refine lv_topi (fun x3 ex3 => ?_)
    replace h := gLetI ex3 h
    refine lv_istore_n (lv' := [(1, .int x3), (0, .ref (gB Γ + k)), (2, .int l2)]) hx hb dX5_greatestScore_21 rfl hl (by decide) rfl (fun ls hl => ?_)
    obtain ⟨x4, ex4⟩ : ∃ y : Int32, y = l2 + (1 : Int32) := ⟨_, rfl⟩
    replace h := gLetI ex4 h
    refine lv_iinc (v := x4) (lv' := [(2, .int x4), (1, .int x3), (0, .ref (gB Γ + k))]) hx hb dX5_greatestScore_22 hl (k := 2) rfl (by rw [ex4]; rfl) (by decide) rfl (fun ls hl => ?_)
    refine lv_goto (tgt := 4) hx hb dX5_greatestScore_25 (by decide) ?_
    exact hF4 _ _ _ _ _ _ h hP hS (lv_sub hl [2, 1, 0] rfl)
set_option maxHeartbeats 2000000 in
set_option maxRecDepth 20000 in
theorem bk_X5_greatestScore_4 {p : Program} {l : Launch} {e : Env} {s : State} {m : MethodId} {args : Array Value} {below : List Frame} {meth : Method} {c : Code} {Γ : gE} (C0 : gCx p s m args meth c Γ RX5 cX5_greatestScore 3 (some .int)) {k : Nat} (hk : isSt k) {z : Int32 × gG}   : ∀ (n : Nat) (l1 : Int32) (l2 : Int32) (g : gG) (H : Heap) (locs : List Loc) (ls : Array Slot), fb_X5_greatestScore_4 k n l1 l2 g = some z → va_P (gD Γ) gcls (lay Γ g) H → va_S (gA Γ) s.heap H locs → lv_has ls 3 [(0, .ref (gB Γ + k)), (1, .int l1), (2, .int l2)] → W p l e (gRm 3 63) s m args below meth c H locs 0 0 (MQ below (gQi Γ z) args s 0 0 (gA Γ)) (F0 m 4 ls []) := by
  intro n
  induction n with
  | zero => intro l1 l2 g H locs ls h hP hS hl; cases h
  | succ n ih => intro l1 l2 g H locs ls h hP hS hl; exact bs_X5_greatestScore_4 C0 hk ih h hP hS hl
set_option maxHeartbeats 2000000 in
set_option maxRecDepth 20000 in
theorem m_X5_greatestScore (l : Launch) (Γ : gE) {k : Nat} (hk : isSt k)  (g : gG) (z : Int32 × gG) (h : f_X5_greatestScore k g = some z) : gMi l yX5_greatestScore cX5_greatestScore 3 (some .int) 3 63 Γ [.ref (gB Γ + k)] g z := by
  unfold f_X5_greatestScore at h
  refine gStart (own := RX5) (by decide +kernel) rfl (Nat.le_of_ble_eq_true rfl) ?_
  intro p e s m below meth c C0 ls hl hP
  have hS : va_S (gA Γ) s.heap s.heap [] := va_S.rf
  have hl : lv_has ls 3 [(0, .ref (gB Γ + k))] := hl
  obtain ⟨hx, hb, hml, hr, hown, hts, hK, hlk, hX⟩ := id C0
  refine lv_iconst (v := 0) hx hb dX5_greatestScore_0 (by decide) ?_
  refine lv_istore_n (lv' := [(1, .int (0 : Int32)), (0, .ref (gB Γ + k))]) hx hb dX5_greatestScore_1 rfl hl (by decide) rfl (fun ls hl => ?_)
  refine lv_iconst (v := 0) hx hb dX5_greatestScore_2 (by decide) ?_
  refine lv_istore_n (lv' := [(2, .int (0 : Int32)), (1, .int (0 : Int32)), (0, .ref (gB Γ + k))]) hx hb dX5_greatestScore_3 rfl hl (by decide) rfl (fun ls hl => ?_)
  exact bk_X5_greatestScore_4 C0 hk gFuel _ _ _ _ _ _ h hP hS (lv_sub hl [2, 1, 0] rfl)
set_option maxHeartbeats 2000000 in
set_option maxRecDepth 20000 in
theorem bs_X5_visitedByAny_4 {p : Program} {l : Launch} {e : Env} {s : State} {m : MethodId} {args : Array Value} {below : List Frame} {meth : Method} {c : Code} {Γ : gE} (C0 : gCx p s m args meth c Γ RX5 cX5_visitedByAny 3 (some .int)) {k : Nat} (hk : isSt k) {z : Int32 × gG} {F4 : Int32 → Int32 → gG → Option (Int32 × gG)} {l1 : Int32} {l2 : Int32} {g : gG} {H : Heap} {locs : List Loc} {ls : Array Slot} (hF4 : ∀ (l1 : Int32) (l2 : Int32) (g : gG) (H : Heap) (locs : List Loc) (ls : Array Slot), F4 l1 l2 g = some z → va_P (gD Γ) gcls (lay Γ g) H → va_S (gA Γ) s.heap H locs → lv_has ls 3 [(0, .ref (gB Γ + k)), (1, .int l1), (2, .int l2)] → W p l e (gRm 0 0) s m args below meth c H locs 0 0 (MQ below (gQi Γ z) args s 0 0 (gA Γ)) (F0 m 4 ls [])) (h : fs_X5_visitedByAny_4 k F4 l1 l2 g = some z) (hP : va_P (gD Γ) gcls (lay Γ g) H) (hS : va_S (gA Γ) s.heap H locs) (hl : lv_has ls 3 [(0, .ref (gB Γ + k)), (1, .int l1), (2, .int l2)]) : W p l e (gRm 0 0) s m args below meth c H locs 0 0 (MQ below (gQi Γ z) args s 0 0 (gA Γ)) (F0 m 4 ls []) := by
  unfold fs_X5_visitedByAny_4 at h
  obtain ⟨hx, hb, hml, hr, hown, hts, hK, hlk, hX⟩ := id C0
  refine lv_iload_n hx hb dX5_visitedByAny_4 rfl (lv_at hl 2 rfl) ?_
  refine lv_aload_n hx hb dX5_visitedByAny_5 rfl (lv_at hl 0 rfl) ?_
  refine gf_5_9 hx hb hown hts hK hP hk wf_X5_50 dX5_visitedByAny_6 ?_
  refine lv_icmp_ge (tgt := 27) hx hb dX5_visitedByAny_9 (by decide) (fun c1 => ?_) (fun c1 => ?_)
  · replace h := gpos c1 h
    refine lv_iload_n hx hb dX5_visitedByAny_27 rfl (lv_at hl 1 rfl) ?_
    exact giret hx hb hr hlk hP hS dX5_visitedByAny_28 h
  · replace h := gneg c1 h
    refine lv_iload_n hx hb dX5_visitedByAny_12 rfl (lv_at hl 1 rfl) ?_
    refine lv_aload_n hx hb dX5_visitedByAny_13 rfl (lv_at hl 0 rfl) ?_
    refine gf_5_3 hx hb hown hts hK hP hk wf_X5_18 dX5_visitedByAny_14 ?_
    refine lv_iload_n hx hb dX5_visitedByAny_17 rfl (lv_at hl 2 rfl) ?_
    refine gIld hx hb hK hP (isSt_3 hk) dX5_visitedByAny_18 h (fun h => ?_)
    refine lv_ior hx hb dX5_visitedByAny_19 ?_
    refine lv_topi (fun x2 ex2 => ?_)
    replace h := gLetI ex2 h
    refine lv_istore_n (lv' := [(1, .int x2), (0, .ref (gB Γ + k)), (2, .int l2)]) hx hb dX5_visitedByAny_20 rfl hl (by decide) rfl (fun ls hl => ?_)
    obtain ⟨x3, ex3⟩ : ∃ y : Int32, y = l2 + (1 : Int32) := ⟨_, rfl⟩
    replace h := gLetI ex3 h
    refine lv_iinc (v := x3) (lv' := [(2, .int x3), (1, .int x2), (0, .ref (gB Γ + k))]) hx hb dX5_visitedByAny_21 hl (k := 2) rfl (by rw [ex3]; rfl) (by decide) rfl (fun ls hl => ?_)
    refine lv_goto (tgt := 4) hx hb dX5_visitedByAny_24 (by decide) ?_
    exact hF4 _ _ _ _ _ _ h hP hS (lv_sub hl [2, 1, 0] rfl)
set_option maxHeartbeats 2000000 in
set_option maxRecDepth 20000 in
theorem bk_X5_visitedByAny_4 {p : Program} {l : Launch} {e : Env} {s : State} {m : MethodId} {args : Array Value} {below : List Frame} {meth : Method} {c : Code} {Γ : gE} (C0 : gCx p s m args meth c Γ RX5 cX5_visitedByAny 3 (some .int)) {k : Nat} (hk : isSt k) {z : Int32 × gG}   : ∀ (n : Nat) (l1 : Int32) (l2 : Int32) (g : gG) (H : Heap) (locs : List Loc) (ls : Array Slot), fb_X5_visitedByAny_4 k n l1 l2 g = some z → va_P (gD Γ) gcls (lay Γ g) H → va_S (gA Γ) s.heap H locs → lv_has ls 3 [(0, .ref (gB Γ + k)), (1, .int l1), (2, .int l2)] → W p l e (gRm 0 0) s m args below meth c H locs 0 0 (MQ below (gQi Γ z) args s 0 0 (gA Γ)) (F0 m 4 ls []) := by
  intro n
  induction n with
  | zero => intro l1 l2 g H locs ls h hP hS hl; cases h
  | succ n ih => intro l1 l2 g H locs ls h hP hS hl; exact bs_X5_visitedByAny_4 C0 hk ih h hP hS hl
set_option maxHeartbeats 2000000 in
set_option maxRecDepth 20000 in
theorem m_X5_visitedByAny (l : Launch) (Γ : gE) {k : Nat} (hk : isSt k)  (g : gG) (z : Int32 × gG) (h : f_X5_visitedByAny k g = some z) : gMi l yX5_visitedByAny cX5_visitedByAny 3 (some .int) 0 0 Γ [.ref (gB Γ + k)] g z := by
  unfold f_X5_visitedByAny at h
  refine gStart (own := RX5) (by decide +kernel) rfl (Nat.le_of_ble_eq_true rfl) ?_
  intro p e s m below meth c C0 ls hl hP
  have hS : va_S (gA Γ) s.heap s.heap [] := va_S.rf
  have hl : lv_has ls 3 [(0, .ref (gB Γ + k))] := hl
  obtain ⟨hx, hb, hml, hr, hown, hts, hK, hlk, hX⟩ := id C0
  refine lv_iconst (v := 0) hx hb dX5_visitedByAny_0 (by decide) ?_
  refine lv_istore_n (lv' := [(1, .int (0 : Int32)), (0, .ref (gB Γ + k))]) hx hb dX5_visitedByAny_1 rfl hl (by decide) rfl (fun ls hl => ?_)
  refine lv_iconst (v := 0) hx hb dX5_visitedByAny_2 (by decide) ?_
  refine lv_istore_n (lv' := [(2, .int (0 : Int32)), (1, .int (0 : Int32)), (0, .ref (gB Γ + k))]) hx hb dX5_visitedByAny_3 rfl hl (by decide) rfl (fun ls hl => ?_)
  exact bk_X5_visitedByAny_4 C0 hk gFuel _ _ _ _ _ _ h hP hS (lv_sub hl [2, 1, 0] rfl)
set_option maxHeartbeats 2000000 in
set_option maxRecDepth 20000 in
theorem bs_X5_allHints_4 {p : Program} {l : Launch} {e : Env} {s : State} {m : MethodId} {args : Array Value} {below : List Frame} {meth : Method} {c : Code} {Γ : gE} (C0 : gCx p s m args meth c Γ RX5 cX5_allHints 3 (some .int)) {k : Nat} (hk : isSt k) {z : Int32 × gG} {F4 : Int32 → Int32 → gG → Option (Int32 × gG)} {l1 : Int32} {l2 : Int32} {g : gG} {H : Heap} {locs : List Loc} {ls : Array Slot} (hF4 : ∀ (l1 : Int32) (l2 : Int32) (g : gG) (H : Heap) (locs : List Loc) (ls : Array Slot), F4 l1 l2 g = some z → va_P (gD Γ) gcls (lay Γ g) H → va_S (gA Γ) s.heap H locs → lv_has ls 3 [(0, .ref (gB Γ + k)), (1, .int l1), (2, .int l2)] → W p l e (gRm 0 0) s m args below meth c H locs 0 0 (MQ below (gQi Γ z) args s 0 0 (gA Γ)) (F0 m 4 ls [])) (h : fs_X5_allHints_4 k F4 l1 l2 g = some z) (hP : va_P (gD Γ) gcls (lay Γ g) H) (hS : va_S (gA Γ) s.heap H locs) (hl : lv_has ls 3 [(0, .ref (gB Γ + k)), (1, .int l1), (2, .int l2)]) : W p l e (gRm 0 0) s m args below meth c H locs 0 0 (MQ below (gQi Γ z) args s 0 0 (gA Γ)) (F0 m 4 ls []) := by
  unfold fs_X5_allHints_4 at h
  obtain ⟨hx, hb, hml, hr, hown, hts, hK, hlk, hX⟩ := id C0
  refine lv_iload_n hx hb dX5_allHints_4 rfl (lv_at hl 2 rfl) ?_
  refine lv_aload_n hx hb dX5_allHints_5 rfl (lv_at hl 0 rfl) ?_
  refine gf_5_9 hx hb hown hts hK hP hk wf_X5_50 dX5_allHints_6 ?_
  refine lv_icmp_ge (tgt := 27) hx hb dX5_allHints_9 (by decide) (fun c1 => ?_) (fun c1 => ?_)
  · replace h := gpos c1 h
    refine lv_iload_n hx hb dX5_allHints_27 rfl (lv_at hl 1 rfl) ?_
    exact giret hx hb hr hlk hP hS dX5_allHints_28 h
  · replace h := gneg c1 h
    refine lv_iload_n hx hb dX5_allHints_12 rfl (lv_at hl 1 rfl) ?_
    refine lv_aload_n hx hb dX5_allHints_13 rfl (lv_at hl 0 rfl) ?_
    refine gf_5_6 hx hb hown hts hK hP hk wf_X5_27 dX5_allHints_14 ?_
    refine lv_iload_n hx hb dX5_allHints_17 rfl (lv_at hl 2 rfl) ?_
    refine gIld hx hb hK hP (isSt_6 hk) dX5_allHints_18 h (fun h => ?_)
    refine lv_iadd hx hb dX5_allHints_19 ?_
    refine lv_topi (fun x2 ex2 => ?_)
    replace h := gLetI ex2 h
    refine lv_istore_n (lv' := [(1, .int x2), (0, .ref (gB Γ + k)), (2, .int l2)]) hx hb dX5_allHints_20 rfl hl (by decide) rfl (fun ls hl => ?_)
    obtain ⟨x3, ex3⟩ : ∃ y : Int32, y = l2 + (1 : Int32) := ⟨_, rfl⟩
    replace h := gLetI ex3 h
    refine lv_iinc (v := x3) (lv' := [(2, .int x3), (1, .int x2), (0, .ref (gB Γ + k))]) hx hb dX5_allHints_21 hl (k := 2) rfl (by rw [ex3]; rfl) (by decide) rfl (fun ls hl => ?_)
    refine lv_goto (tgt := 4) hx hb dX5_allHints_24 (by decide) ?_
    exact hF4 _ _ _ _ _ _ h hP hS (lv_sub hl [2, 1, 0] rfl)
set_option maxHeartbeats 2000000 in
set_option maxRecDepth 20000 in
theorem bk_X5_allHints_4 {p : Program} {l : Launch} {e : Env} {s : State} {m : MethodId} {args : Array Value} {below : List Frame} {meth : Method} {c : Code} {Γ : gE} (C0 : gCx p s m args meth c Γ RX5 cX5_allHints 3 (some .int)) {k : Nat} (hk : isSt k) {z : Int32 × gG}   : ∀ (n : Nat) (l1 : Int32) (l2 : Int32) (g : gG) (H : Heap) (locs : List Loc) (ls : Array Slot), fb_X5_allHints_4 k n l1 l2 g = some z → va_P (gD Γ) gcls (lay Γ g) H → va_S (gA Γ) s.heap H locs → lv_has ls 3 [(0, .ref (gB Γ + k)), (1, .int l1), (2, .int l2)] → W p l e (gRm 0 0) s m args below meth c H locs 0 0 (MQ below (gQi Γ z) args s 0 0 (gA Γ)) (F0 m 4 ls []) := by
  intro n
  induction n with
  | zero => intro l1 l2 g H locs ls h hP hS hl; cases h
  | succ n ih => intro l1 l2 g H locs ls h hP hS hl; exact bs_X5_allHints_4 C0 hk ih h hP hS hl
set_option maxHeartbeats 2000000 in
set_option maxRecDepth 20000 in
theorem m_X5_allHints (l : Launch) (Γ : gE) {k : Nat} (hk : isSt k)  (g : gG) (z : Int32 × gG) (h : f_X5_allHints k g = some z) : gMi l yX5_allHints cX5_allHints 3 (some .int) 0 0 Γ [.ref (gB Γ + k)] g z := by
  unfold f_X5_allHints at h
  refine gStart (own := RX5) (by decide +kernel) rfl (Nat.le_of_ble_eq_true rfl) ?_
  intro p e s m below meth c C0 ls hl hP
  have hS : va_S (gA Γ) s.heap s.heap [] := va_S.rf
  have hl : lv_has ls 3 [(0, .ref (gB Γ + k))] := hl
  obtain ⟨hx, hb, hml, hr, hown, hts, hK, hlk, hX⟩ := id C0
  refine lv_iconst (v := 0) hx hb dX5_allHints_0 (by decide) ?_
  refine lv_istore_n (lv' := [(1, .int (0 : Int32)), (0, .ref (gB Γ + k))]) hx hb dX5_allHints_1 rfl hl (by decide) rfl (fun ls hl => ?_)
  refine lv_iconst (v := 0) hx hb dX5_allHints_2 (by decide) ?_
  refine lv_istore_n (lv' := [(2, .int (0 : Int32)), (1, .int (0 : Int32)), (0, .ref (gB Γ + k))]) hx hb dX5_allHints_3 rfl hl (by decide) rfl (fun ls hl => ?_)
  exact bk_X5_allHints_4 C0 hk gFuel _ _ _ _ _ _ h hP hS (lv_sub hl [2, 1, 0] rfl)
set_option maxHeartbeats 2000000 in
set_option maxRecDepth 20000 in
theorem m_X5_xOf (l : Launch) (Γ : gE) {k : Nat} (hk : isSt k) (a1 : Int32) (g : gG) (z : Int32 × gG) (h : f_X5_xOf k a1 g = some z) : gMi l yX5_xOf cX5_xOf 2 (some .int) 0 0 Γ [.ref (gB Γ + k), .int a1] g z := by
  unfold f_X5_xOf at h
  refine gStart (own := RX5) (by decide +kernel) rfl (Nat.le_of_ble_eq_true rfl) ?_
  intro p e s m below meth c C0 ls hl hP
  have hS : va_S (gA Γ) s.heap s.heap [] := va_S.rf
  have hl : lv_has ls 2 [(0, .ref (gB Γ + k)), (1, .int a1)] := hl
  obtain ⟨hx, hb, hml, hr, hown, hts, hK, hlk, hX⟩ := id C0
  refine lv_iload_n hx hb dX5_xOf_0 rfl (lv_at hl 1 rfl) ?_
  refine lv_if_lt (tgt := 19) hx hb dX5_xOf_1 (by decide) (fun c1 => ?_) (fun c1 => ?_)
  · replace h := gpos c1 h
    refine lv_iconst (v := 0) hx hb dX5_xOf_19 (by decide) ?_
    exact giret hx hb hr hlk hP hS dX5_xOf_20 h
  · replace h := gneg c1 h
    refine lv_iload_n hx hb dX5_xOf_4 rfl (lv_at hl 1 rfl) ?_
    refine lv_bipush (v := 10) hx hb dX5_xOf_5 (by decide) ?_
    refine lv_icmp_ge (tgt := 19) hx hb dX5_xOf_7 (by decide) (fun c2 => ?_) (fun c2 => ?_)
    · replace h := gpos c2 h
      refine lv_iconst (v := 0) hx hb dX5_xOf_19 (by decide) ?_
      exact giret hx hb hr hlk hP hS dX5_xOf_20 h
    · replace h := gneg c2 h
      refine lv_aload_n hx hb dX5_xOf_10 rfl (lv_at hl 0 rfl) ?_
      refine gf_5_1 hx hb hown hts hK hP hk wf_X5_9 dX5_xOf_11 ?_
      refine lv_iload_n hx hb dX5_xOf_14 rfl (lv_at hl 1 rfl) ?_
      refine gIld hx hb hK hP (isSt_1 hk) dX5_xOf_15 h (fun h => ?_)
      refine lv_goto (tgt := 20) hx hb dX5_xOf_16 (by decide) ?_
      exact giret hx hb hr hlk hP hS dX5_xOf_20 h
set_option maxHeartbeats 2000000 in
set_option maxRecDepth 20000 in
theorem m_X5_yOf (l : Launch) (Γ : gE) {k : Nat} (hk : isSt k) (a1 : Int32) (g : gG) (z : Int32 × gG) (h : f_X5_yOf k a1 g = some z) : gMi l yX5_yOf cX5_yOf 2 (some .int) 0 0 Γ [.ref (gB Γ + k), .int a1] g z := by
  unfold f_X5_yOf at h
  refine gStart (own := RX5) (by decide +kernel) rfl (Nat.le_of_ble_eq_true rfl) ?_
  intro p e s m below meth c C0 ls hl hP
  have hS : va_S (gA Γ) s.heap s.heap [] := va_S.rf
  have hl : lv_has ls 2 [(0, .ref (gB Γ + k)), (1, .int a1)] := hl
  obtain ⟨hx, hb, hml, hr, hown, hts, hK, hlk, hX⟩ := id C0
  refine lv_iload_n hx hb dX5_yOf_0 rfl (lv_at hl 1 rfl) ?_
  refine lv_if_lt (tgt := 19) hx hb dX5_yOf_1 (by decide) (fun c1 => ?_) (fun c1 => ?_)
  · replace h := gpos c1 h
    refine lv_iconst (v := 0) hx hb dX5_yOf_19 (by decide) ?_
    exact giret hx hb hr hlk hP hS dX5_yOf_20 h
  · replace h := gneg c1 h
    refine lv_iload_n hx hb dX5_yOf_4 rfl (lv_at hl 1 rfl) ?_
    refine lv_bipush (v := 10) hx hb dX5_yOf_5 (by decide) ?_
    refine lv_icmp_ge (tgt := 19) hx hb dX5_yOf_7 (by decide) (fun c2 => ?_) (fun c2 => ?_)
    · replace h := gpos c2 h
      refine lv_iconst (v := 0) hx hb dX5_yOf_19 (by decide) ?_
      exact giret hx hb hr hlk hP hS dX5_yOf_20 h
    · replace h := gneg c2 h
      refine lv_aload_n hx hb dX5_yOf_10 rfl (lv_at hl 0 rfl) ?_
      refine gf_5_2 hx hb hown hts hK hP hk wf_X5_15 dX5_yOf_11 ?_
      refine lv_iload_n hx hb dX5_yOf_14 rfl (lv_at hl 1 rfl) ?_
      refine gIld hx hb hK hP (isSt_2 hk) dX5_yOf_15 h (fun h => ?_)
      refine lv_goto (tgt := 20) hx hb dX5_yOf_16 (by decide) ?_
      exact giret hx hb hr hlk hP hS dX5_yOf_20 h
set_option maxHeartbeats 2000000 in
set_option maxRecDepth 20000 in
theorem bs_X5_setsThatOpen_4 {p : Program} {l : Launch} {e : Env} {s : State} {m : MethodId} {args : Array Value} {below : List Frame} {meth : Method} {c : Code} {Γ : gE} (C0 : gCx p s m args meth c Γ RX5 cX5_setsThatOpen 4 (some .int)) {k : Nat} (hk : isSt k) {z : Int32 × gG} {F4 : Int32 → Int32 → Int32 → gG → Option (Int32 × gG)} {l1 : Int32} {l2 : Int32} {l3 : Int32} {g : gG} {H : Heap} {locs : List Loc} {ls : Array Slot} (hF4 : ∀ (l1 : Int32) (l2 : Int32) (l3 : Int32) (g : gG) (H : Heap) (locs : List Loc) (ls : Array Slot), F4 l1 l2 l3 g = some z → va_P (gD Γ) gcls (lay Γ g) H → va_S (gA Γ) s.heap H locs → lv_has ls 4 [(0, .ref (gB Γ + k)), (1, .int l1), (2, .int l2), (3, .int l3)] → W p l e (gRm 2 44) s m args below meth c H locs 0 0 (MQ below (gQi Γ z) args s 0 0 (gA Γ)) (F0 m 4 ls [])) (h : fs_X5_setsThatOpen_4 k F4 l1 l2 l3 g = some z) (hP : va_P (gD Γ) gcls (lay Γ g) H) (hS : va_S (gA Γ) s.heap H locs) (hl : lv_has ls 4 [(0, .ref (gB Γ + k)), (1, .int l1), (2, .int l2), (3, .int l3)]) : W p l e (gRm 2 44) s m args below meth c H locs 0 0 (MQ below (gQi Γ z) args s 0 0 (gA Γ)) (F0 m 4 ls []) := by
  unfold fs_X5_setsThatOpen_4 at h
  obtain ⟨hx, hb, hml, hr, hown, hts, hK, hlk, hX⟩ := id C0
  refine lv_iload_n hx hb dX5_setsThatOpen_4 rfl (lv_at hl 3 rfl) ?_
  refine lv_aload_n hx hb dX5_setsThatOpen_5 rfl (lv_at hl 0 rfl) ?_
  refine gf_5_0 hx hb hown hts hK hP hk wf_X5_33 dX5_setsThatOpen_6 ?_
  refine gCVi (rest := [.int l3]) C0 cal_X0_allPlaces wl_X5_59 wi_X0_allPlaces ws_X0_allPlaces ⟨Nat.le_of_ble_eq_true rfl, Nat.le_of_ble_eq_true rfl⟩ ⟨Nat.le_of_ble_eq_true rfl, Nat.le_of_ble_eq_true rfl⟩ grv_0 [] rfl (Nat.le_of_ble_eq_true rfl) hP hS hl.1 dX5_setsThatOpen_9 h (fun u hu => m_X0_allPlaces l Γ g u hu) (fun u1 H locs h hP hS => ?_) rfl
  refine lv_icmp_gt (tgt := 48) hx hb dX5_setsThatOpen_12 (by decide) (fun c2 => ?_) (fun c2 => ?_)
  · replace h := gpos c2 h
    refine lv_iload_n hx hb dX5_setsThatOpen_48 rfl (lv_at hl 2 rfl) ?_
    exact giret hx hb hr hlk hP hS dX5_setsThatOpen_49 h
  · replace h := gneg c2 h
    refine lv_iload_n hx hb dX5_setsThatOpen_15 rfl (lv_at hl 1 rfl) ?_
    refine lv_iload_n hx hb dX5_setsThatOpen_16 rfl (lv_at hl 3 rfl) ?_
    refine gCNi (rest := []) C0 cal_X9_isIn wln_X5_65 wt_X9_isIn ⟨Nat.le_of_ble_eq_true rfl, Nat.le_of_ble_eq_true rfl⟩ ⟨Nat.le_of_ble_eq_true rfl, Nat.le_of_ble_eq_true rfl⟩ [.int l1, .int l3] rfl (Nat.le_of_ble_eq_true rfl) hP hS hl.1 dX5_setsThatOpen_17 h (fun u hu => m_X9_isIn l Γ l1 l3 u1.2 u hu) (fun u3 H locs h hP hS => ?_) rfl
    refine lv_if_ne (tgt := 42) hx hb dX5_setsThatOpen_20 (by decide) (fun c4 => ?_) (fun c4 => ?_)
    · replace h := gneg c4 h
      obtain ⟨x5, ex5⟩ : ∃ y : Int32, y = l3 + (1 : Int32) := ⟨_, rfl⟩
      replace h := gLetI ex5 h
      refine lv_iinc (v := x5) (lv' := [(3, .int x5), (0, .ref (gB Γ + k)), (1, .int l1), (2, .int l2)]) hx hb dX5_setsThatOpen_42 hl (k := 3) rfl (by rw [ex5]; rfl) (by decide) rfl (fun ls hl => ?_)
      refine lv_goto (tgt := 4) hx hb dX5_setsThatOpen_45 (by decide) ?_
      exact hF4 _ _ _ _ _ _ _ h hP hS (lv_sub hl [1, 2, 3, 0] rfl)
    · replace h := gpos c4 h
      refine lv_aload_n hx hb dX5_setsThatOpen_23 rfl (lv_at hl 0 rfl) ?_
      refine gf_5_0 hx hb hown hts hK hP hk wf_X5_33 dX5_setsThatOpen_24 ?_
      refine lv_iload_n hx hb dX5_setsThatOpen_27 rfl (lv_at hl 1 rfl) ?_
      refine lv_iload_n hx hb dX5_setsThatOpen_28 rfl (lv_at hl 3 rfl) ?_
      refine lv_aload_n hx hb dX5_setsThatOpen_29 rfl (lv_at hl 0 rfl) ?_
      refine gf_5_8 hx hb hown hts hK hP hk wf_X5_46 dX5_setsThatOpen_30 ?_
      refine gCVi (rest := []) C0 cal_X0_isHeld wl_X5_69 wi_X0_isHeld ws_X0_isHeld ⟨Nat.le_of_ble_eq_true rfl, Nat.le_of_ble_eq_true rfl⟩ ⟨Nat.le_of_ble_eq_true rfl, Nat.le_of_ble_eq_true rfl⟩ grv_0 [.int l1, .int l3, .int (u3.2.1 k 8)] rfl (Nat.le_of_ble_eq_true rfl) hP hS hl.1 dX5_setsThatOpen_33 h (fun u hu => m_X0_isHeld l Γ l1 l3 (u3.2.1 k 8) u3.2 u hu) (fun u6 H locs h hP hS => ?_) rfl
      refine lv_if_eq (tgt := 42) hx hb dX5_setsThatOpen_36 (by decide) (fun c7 => ?_) (fun c7 => ?_)
      · replace h := gpos c7 h
        obtain ⟨x8, ex8⟩ : ∃ y : Int32, y = l3 + (1 : Int32) := ⟨_, rfl⟩
        replace h := gLetI ex8 h
        refine lv_iinc (v := x8) (lv' := [(3, .int x8), (0, .ref (gB Γ + k)), (1, .int l1), (2, .int l2)]) hx hb dX5_setsThatOpen_42 hl (k := 3) rfl (by rw [ex8]; rfl) (by decide) rfl (fun ls hl => ?_)
        refine lv_goto (tgt := 4) hx hb dX5_setsThatOpen_45 (by decide) ?_
        exact hF4 _ _ _ _ _ _ _ h hP hS (lv_sub hl [1, 2, 3, 0] rfl)
      · replace h := gneg c7 h
        obtain ⟨x9, ex9⟩ : ∃ y : Int32, y = l2 + (1 : Int32) := ⟨_, rfl⟩
        replace h := gLetI ex9 h
        refine lv_iinc (v := x9) (lv' := [(2, .int x9), (0, .ref (gB Γ + k)), (1, .int l1), (3, .int l3)]) hx hb dX5_setsThatOpen_39 hl (k := 2) rfl (by rw [ex9]; rfl) (by decide) rfl (fun ls hl => ?_)
        obtain ⟨x10, ex10⟩ : ∃ y : Int32, y = l3 + (1 : Int32) := ⟨_, rfl⟩
        replace h := gLetI ex10 h
        refine lv_iinc (v := x10) (lv' := [(3, .int x10), (2, .int x9), (0, .ref (gB Γ + k)), (1, .int l1)]) hx hb dX5_setsThatOpen_42 hl (k := 3) rfl (by rw [ex10]; rfl) (by decide) rfl (fun ls hl => ?_)
        refine lv_goto (tgt := 4) hx hb dX5_setsThatOpen_45 (by decide) ?_
        exact hF4 _ _ _ _ _ _ _ h hP hS (lv_sub hl [2, 3, 1, 0] rfl)
set_option maxHeartbeats 2000000 in
set_option maxRecDepth 20000 in
theorem bk_X5_setsThatOpen_4 {p : Program} {l : Launch} {e : Env} {s : State} {m : MethodId} {args : Array Value} {below : List Frame} {meth : Method} {c : Code} {Γ : gE} (C0 : gCx p s m args meth c Γ RX5 cX5_setsThatOpen 4 (some .int)) {k : Nat} (hk : isSt k) {z : Int32 × gG}   : ∀ (n : Nat) (l1 : Int32) (l2 : Int32) (l3 : Int32) (g : gG) (H : Heap) (locs : List Loc) (ls : Array Slot), fb_X5_setsThatOpen_4 k n l1 l2 l3 g = some z → va_P (gD Γ) gcls (lay Γ g) H → va_S (gA Γ) s.heap H locs → lv_has ls 4 [(0, .ref (gB Γ + k)), (1, .int l1), (2, .int l2), (3, .int l3)] → W p l e (gRm 2 44) s m args below meth c H locs 0 0 (MQ below (gQi Γ z) args s 0 0 (gA Γ)) (F0 m 4 ls []) := by
  intro n
  induction n with
  | zero => intro l1 l2 l3 g H locs ls h hP hS hl; cases h
  | succ n ih => intro l1 l2 l3 g H locs ls h hP hS hl; exact bs_X5_setsThatOpen_4 C0 hk ih h hP hS hl
set_option maxHeartbeats 2000000 in
set_option maxRecDepth 20000 in
theorem m_X5_setsThatOpen (l : Launch) (Γ : gE) {k : Nat} (hk : isSt k) (a1 : Int32) (g : gG) (z : Int32 × gG) (h : f_X5_setsThatOpen k a1 g = some z) : gMi l yX5_setsThatOpen cX5_setsThatOpen 4 (some .int) 2 44 Γ [.ref (gB Γ + k), .int a1] g z := by
  unfold f_X5_setsThatOpen at h
  refine gStart (own := RX5) (by decide +kernel) rfl (Nat.le_of_ble_eq_true rfl) ?_
  intro p e s m below meth c C0 ls hl hP
  have hS : va_S (gA Γ) s.heap s.heap [] := va_S.rf
  have hl : lv_has ls 4 [(0, .ref (gB Γ + k)), (1, .int a1)] := hl
  obtain ⟨hx, hb, hml, hr, hown, hts, hK, hlk, hX⟩ := id C0
  refine lv_iconst (v := 0) hx hb dX5_setsThatOpen_0 (by decide) ?_
  refine lv_istore_n (lv' := [(2, .int (0 : Int32)), (0, .ref (gB Γ + k)), (1, .int a1)]) hx hb dX5_setsThatOpen_1 rfl hl (by decide) rfl (fun ls hl => ?_)
  refine lv_iconst (v := 0) hx hb dX5_setsThatOpen_2 (by decide) ?_
  refine lv_istore_n (lv' := [(3, .int (0 : Int32)), (2, .int (0 : Int32)), (0, .ref (gB Γ + k)), (1, .int a1)]) hx hb dX5_setsThatOpen_3 rfl hl (by decide) rfl (fun ls hl => ?_)
  exact bk_X5_setsThatOpen_4 C0 hk gFuel _ _ _ _ _ _ _ h hP hS (lv_sub hl [2, 3, 1, 0] rfl)
set_option maxHeartbeats 2000000 in
set_option maxRecDepth 20000 in
theorem m_X5_easedPlaces (l : Launch) (Γ : gE) {k : Nat} (hk : isSt k)  (g : gG) (z : Int32 × gG) (h : f_X5_easedPlaces k g = some z) : gMi l yX5_easedPlaces cX5_easedPlaces 1 (some .int) 0 0 Γ [.ref (gB Γ + k)] g z := by
  unfold f_X5_easedPlaces at h
  refine gStart (own := RX5) (by decide +kernel) rfl (Nat.le_of_ble_eq_true rfl) ?_
  intro p e s m below meth c C0 ls hl hP
  have hS : va_S (gA Γ) s.heap s.heap [] := va_S.rf
  have hl : lv_has ls 1 [(0, .ref (gB Γ + k))] := hl
  obtain ⟨hx, hb, hml, hr, hown, hts, hK, hlk, hX⟩ := id C0
  refine lv_aload_n hx hb dX5_easedPlaces_0 rfl (lv_at hl 0 rfl) ?_
  refine gf_5_8 hx hb hown hts hK hP hk wf_X5_46 dX5_easedPlaces_1 ?_
  exact giret hx hb hr hlk hP hS dX5_easedPlaces_4 h
set_option maxHeartbeats 2000000 in
set_option maxRecDepth 20000 in
theorem m_X5_visitsOf (l : Launch) (Γ : gE) {k : Nat} (hk : isSt k) (a1 : Int32) (g : gG) (z : Int32 × gG) (h : f_X5_visitsOf k a1 g = some z) : gMi l yX5_visitsOf cX5_visitsOf 2 (some .int) 1 21 Γ [.ref (gB Γ + k), .int a1] g z := by
  unfold f_X5_visitsOf at h
  refine gStart (own := RX5) (by decide +kernel) rfl (Nat.le_of_ble_eq_true rfl) ?_
  intro p e s m below meth c C0 ls hl hP
  have hS : va_S (gA Γ) s.heap s.heap [] := va_S.rf
  have hl : lv_has ls 2 [(0, .ref (gB Γ + k)), (1, .int a1)] := hl
  obtain ⟨hx, hb, hml, hr, hown, hts, hK, hlk, hX⟩ := id C0
  refine lv_aload_n hx hb dX5_visitsOf_0 rfl (lv_at hl 0 rfl) ?_
  refine lv_iload_n hx hb dX5_visitsOf_1 rfl (lv_at hl 1 rfl) ?_
  refine gCVi (rest := []) C0 cal_X5_hasTeam wl_X5_80 wi_X5_hasTeam ws_X5_hasTeam ⟨Nat.le_of_ble_eq_true rfl, Nat.le_of_ble_eq_true rfl⟩ ⟨Nat.le_of_ble_eq_true rfl, Nat.le_of_ble_eq_true rfl⟩ (grv_5 hk) [.int a1] rfl (Nat.le_of_ble_eq_true rfl) hP hS hl.1 dX5_visitsOf_2 h (fun u hu => m_X5_hasTeam l Γ hk a1 g u hu) (fun u1 H locs h hP hS => ?_) rfl
  refine lv_if_eq (tgt := 17) hx hb dX5_visitsOf_5 (by decide) (fun c2 => ?_) (fun c2 => ?_)
  · replace h := gpos c2 h
    refine lv_iconst (v := 0) hx hb dX5_visitsOf_17 (by decide) ?_
    exact giret hx hb hr hlk hP hS dX5_visitsOf_18 h
  · replace h := gneg c2 h
    refine lv_aload_n hx hb dX5_visitsOf_8 rfl (lv_at hl 0 rfl) ?_
    refine gf_5_4 hx hb hown hts hK hP hk wf_X5_21 dX5_visitsOf_9 ?_
    refine lv_iload_n hx hb dX5_visitsOf_12 rfl (lv_at hl 1 rfl) ?_
    refine gIld hx hb hK hP (isSt_4 hk) dX5_visitsOf_13 h (fun h => ?_)
    refine lv_goto (tgt := 18) hx hb dX5_visitsOf_14 (by decide) ?_
    exact giret hx hb hr hlk hP hS dX5_visitsOf_18 h
set_option maxHeartbeats 2000000 in
set_option maxRecDepth 20000 in
theorem m_X5_visitOf (l : Launch) (Γ : gE) {k : Nat} (hk : isSt k) (a1 : Int32) (a2 : Int32) (g : gG) (z : Int32 × gG) (h : f_X5_visitOf k a1 a2 g = some z) : gMi l yX5_visitOf cX5_visitOf 3 (some .int) 1 21 Γ [.ref (gB Γ + k), .int a1, .int a2] g z := by
  unfold f_X5_visitOf at h
  refine gStart (own := RX5) (by decide +kernel) rfl (Nat.le_of_ble_eq_true rfl) ?_
  intro p e s m below meth c C0 ls hl hP
  have hS : va_S (gA Γ) s.heap s.heap [] := va_S.rf
  have hl : lv_has ls 3 [(0, .ref (gB Γ + k)), (1, .int a1), (2, .int a2)] := hl
  obtain ⟨hx, hb, hml, hr, hown, hts, hK, hlk, hX⟩ := id C0
  refine lv_aload_n hx hb dX5_visitOf_0 rfl (lv_at hl 0 rfl) ?_
  refine lv_iload_n hx hb dX5_visitOf_1 rfl (lv_at hl 1 rfl) ?_
  refine gCVi (rest := []) C0 cal_X5_hasTeam wl_X5_80 wi_X5_hasTeam ws_X5_hasTeam ⟨Nat.le_of_ble_eq_true rfl, Nat.le_of_ble_eq_true rfl⟩ ⟨Nat.le_of_ble_eq_true rfl, Nat.le_of_ble_eq_true rfl⟩ (grv_5 hk) [.int a1] rfl (Nat.le_of_ble_eq_true rfl) hP hS hl.1 dX5_visitOf_2 h (fun u hu => m_X5_hasTeam l Γ hk a1 g u hu) (fun u1 H locs h hP hS => ?_) rfl
  refine lv_if_eq (tgt := 36) hx hb dX5_visitOf_5 (by decide) (fun c2 => ?_) (fun c2 => ?_)
  · replace h := gpos c2 h
    refine lv_bipush (v := -9) hx hb dX5_visitOf_36 (by decide) ?_
    exact giret hx hb hr hlk hP hS dX5_visitOf_38 h
  · replace h := gneg c2 h
    refine lv_iload_n hx hb dX5_visitOf_8 rfl (lv_at hl 2 rfl) ?_
    refine lv_if_lt (tgt := 36) hx hb dX5_visitOf_9 (by decide) (fun c3 => ?_) (fun c3 => ?_)
    · replace h := gpos c3 h
      refine lv_bipush (v := -9) hx hb dX5_visitOf_36 (by decide) ?_
      exact giret hx hb hr hlk hP hS dX5_visitOf_38 h
    · replace h := gneg c3 h
      refine lv_iload_n hx hb dX5_visitOf_12 rfl (lv_at hl 2 rfl) ?_
      refine lv_aload_n hx hb dX5_visitOf_13 rfl (lv_at hl 0 rfl) ?_
      refine gf_5_4 hx hb hown hts hK hP hk wf_X5_21 dX5_visitOf_14 ?_
      refine lv_iload_n hx hb dX5_visitOf_17 rfl (lv_at hl 1 rfl) ?_
      refine gIld hx hb hK hP (isSt_4 hk) dX5_visitOf_18 h (fun h => ?_)
      refine lv_icmp_ge (tgt := 36) hx hb dX5_visitOf_19 (by decide) (fun c4 => ?_) (fun c4 => ?_)
      · replace h := gpos c4 h
        refine lv_bipush (v := -9) hx hb dX5_visitOf_36 (by decide) ?_
        exact giret hx hb hr hlk hP hS dX5_visitOf_38 h
      · replace h := gneg c4 h
        refine lv_aload_n hx hb dX5_visitOf_22 rfl (lv_at hl 0 rfl) ?_
        refine gf_5_7 hx hb hown hts hK hP hk wf_X5_30 dX5_visitOf_23 ?_
        refine lv_iload_n hx hb dX5_visitOf_26 rfl (lv_at hl 1 rfl) ?_
        refine lv_bipush (v := 10) hx hb dX5_visitOf_27 (by decide) ?_
        refine lv_imul hx hb dX5_visitOf_29 ?_
        refine lv_iload_n hx hb dX5_visitOf_30 rfl (lv_at hl 2 rfl) ?_
        refine lv_iadd hx hb dX5_visitOf_31 ?_
        refine gIld hx hb hK hP (isSt_7 hk) dX5_visitOf_32 h (fun h => ?_)
        refine lv_goto (tgt := 38) hx hb dX5_visitOf_33 (by decide) ?_
        exact giret hx hb hr hlk hP hS dX5_visitOf_38 h
set_option maxHeartbeats 2000000 in
set_option maxRecDepth 20000 in
theorem m_X5_lastOf (l : Launch) (Γ : gE) {k : Nat} (hk : isSt k) (a1 : Int32) (g : gG) (z : Int32 × gG) (h : f_X5_lastOf k a1 g = some z) : gMi l yX5_lastOf cX5_lastOf 2 (some .int) 2 43 Γ [.ref (gB Γ + k), .int a1] g z := by
  unfold f_X5_lastOf at h
  refine gStart (own := RX5) (by decide +kernel) rfl (Nat.le_of_ble_eq_true rfl) ?_
  intro p e s m below meth c C0 ls hl hP
  have hS : va_S (gA Γ) s.heap s.heap [] := va_S.rf
  have hl : lv_has ls 2 [(0, .ref (gB Γ + k)), (1, .int a1)] := hl
  obtain ⟨hx, hb, hml, hr, hown, hts, hK, hlk, hX⟩ := id C0
  refine lv_aload_n hx hb dX5_lastOf_0 rfl (lv_at hl 0 rfl) ?_
  refine lv_iload_n hx hb dX5_lastOf_1 rfl (lv_at hl 1 rfl) ?_
  refine gCVi (rest := []) C0 cal_X5_hasTeam wl_X5_80 wi_X5_hasTeam ws_X5_hasTeam ⟨Nat.le_of_ble_eq_true rfl, Nat.le_of_ble_eq_true rfl⟩ ⟨Nat.le_of_ble_eq_true rfl, Nat.le_of_ble_eq_true rfl⟩ (grv_5 hk) [.int a1] rfl (Nat.le_of_ble_eq_true rfl) hP hS hl.1 dX5_lastOf_2 h (fun u hu => m_X5_hasTeam l Γ hk a1 g u hu) (fun u1 H locs h hP hS => ?_) rfl
  refine lv_if_eq (tgt := 24) hx hb dX5_lastOf_5 (by decide) (fun c2 => ?_) (fun c2 => ?_)
  · replace h := gpos c2 h
    refine lv_bipush (v := -9) hx hb dX5_lastOf_24 (by decide) ?_
    exact giret hx hb hr hlk hP hS dX5_lastOf_26 h
  · replace h := gneg c2 h
    refine lv_aload_n hx hb dX5_lastOf_8 rfl (lv_at hl 0 rfl) ?_
    refine lv_iload_n hx hb dX5_lastOf_9 rfl (lv_at hl 1 rfl) ?_
    refine lv_aload_n hx hb dX5_lastOf_10 rfl (lv_at hl 0 rfl) ?_
    refine gf_5_4 hx hb hown hts hK hP hk wf_X5_21 dX5_lastOf_11 ?_
    refine lv_iload_n hx hb dX5_lastOf_14 rfl (lv_at hl 1 rfl) ?_
    refine gIld hx hb hK hP (isSt_4 hk) dX5_lastOf_15 h (fun h => ?_)
    refine lv_iconst (v := 1) hx hb dX5_lastOf_16 (by decide) ?_
    refine lv_isub hx hb dX5_lastOf_17 ?_
    refine gCVi (rest := []) C0 cal_X5_visitOf wl_X5_100 wi_X5_visitOf ws_X5_visitOf ⟨Nat.le_of_ble_eq_true rfl, Nat.le_of_ble_eq_true rfl⟩ ⟨Nat.le_of_ble_eq_true rfl, Nat.le_of_ble_eq_true rfl⟩ (grv_5 hk) [.int a1, .int ((u1.2.1 (k + 4) a1.toNatClampNeg) - (1 : Int32))] rfl (Nat.le_of_ble_eq_true rfl) hP hS hl.1 dX5_lastOf_18 h (fun u hu => m_X5_visitOf l Γ hk a1 ((u1.2.1 (k + 4) a1.toNatClampNeg) - (1 : Int32)) u1.2 u hu) (fun u3 H locs h hP hS => ?_) rfl
    refine lv_goto (tgt := 26) hx hb dX5_lastOf_21 (by decide) ?_
    exact giret hx hb hr hlk hP hS dX5_lastOf_26 h
set_option maxHeartbeats 2000000 in
set_option maxRecDepth 20000 in
theorem m_X5_openTo (l : Launch) (Γ : gE) {k : Nat} (hk : isSt k) (a1 : Int32) (g : gG) (z : Int32 × gG) (h : f_X5_openTo k a1 g = some z) : gMi l yX5_openTo cX5_openTo 2 (some .int) 1 23 Γ [.ref (gB Γ + k), .int a1] g z := by
  unfold f_X5_openTo at h
  refine gStart (own := RX5) (by decide +kernel) rfl (Nat.le_of_ble_eq_true rfl) ?_
  intro p e s m below meth c C0 ls hl hP
  have hS : va_S (gA Γ) s.heap s.heap [] := va_S.rf
  have hl : lv_has ls 2 [(0, .ref (gB Γ + k)), (1, .int a1)] := hl
  obtain ⟨hx, hb, hml, hr, hown, hts, hK, hlk, hX⟩ := id C0
  refine lv_aload_n hx hb dX5_openTo_0 rfl (lv_at hl 0 rfl) ?_
  refine lv_iload_n hx hb dX5_openTo_1 rfl (lv_at hl 1 rfl) ?_
  refine gCVi (rest := []) C0 cal_X5_hasTeam wl_X5_80 wi_X5_hasTeam ws_X5_hasTeam ⟨Nat.le_of_ble_eq_true rfl, Nat.le_of_ble_eq_true rfl⟩ ⟨Nat.le_of_ble_eq_true rfl, Nat.le_of_ble_eq_true rfl⟩ (grv_5 hk) [.int a1] rfl (Nat.le_of_ble_eq_true rfl) hP hS hl.1 dX5_openTo_2 h (fun u hu => m_X5_hasTeam l Γ hk a1 g u hu) (fun u1 H locs h hP hS => ?_) rfl
  refine lv_if_eq (tgt := 28) hx hb dX5_openTo_5 (by decide) (fun c2 => ?_) (fun c2 => ?_)
  · replace h := gpos c2 h
    refine lv_iconst (v := 0) hx hb dX5_openTo_28 (by decide) ?_
    exact giret hx hb hr hlk hP hS dX5_openTo_29 h
  · replace h := gneg c2 h
    refine lv_aload_n hx hb dX5_openTo_8 rfl (lv_at hl 0 rfl) ?_
    refine gf_5_0 hx hb hown hts hK hP hk wf_X5_33 dX5_openTo_9 ?_
    refine lv_aload_n hx hb dX5_openTo_12 rfl (lv_at hl 0 rfl) ?_
    refine gf_5_3 hx hb hown hts hK hP hk wf_X5_18 dX5_openTo_13 ?_
    refine lv_iload_n hx hb dX5_openTo_16 rfl (lv_at hl 1 rfl) ?_
    refine gIld hx hb hK hP (isSt_3 hk) dX5_openTo_17 h (fun h => ?_)
    refine lv_aload_n hx hb dX5_openTo_18 rfl (lv_at hl 0 rfl) ?_
    refine gf_5_8 hx hb hown hts hK hP hk wf_X5_46 dX5_openTo_19 ?_
    refine gCVi (rest := []) C0 cal_X0_openAfter wl_X5_103 wi_X0_openAfter ws_X0_openAfter ⟨Nat.le_of_ble_eq_true rfl, Nat.le_of_ble_eq_true rfl⟩ ⟨Nat.le_of_ble_eq_true rfl, Nat.le_of_ble_eq_true rfl⟩ grv_0 [.int (u1.2.1 (k + 3) a1.toNatClampNeg), .int (u1.2.1 k 8)] rfl (Nat.le_of_ble_eq_true rfl) hP hS hl.1 dX5_openTo_22 h (fun u hu => m_X0_openAfter l Γ (u1.2.1 (k + 3) a1.toNatClampNeg) (u1.2.1 k 8) u1.2 u hu) (fun u3 H locs h hP hS => ?_) rfl
    refine lv_goto (tgt := 29) hx hb dX5_openTo_25 (by decide) ?_
    exact giret hx hb hr hlk hP hS dX5_openTo_29 h
set_option maxHeartbeats 2000000 in
set_option maxRecDepth 20000 in
theorem m_X5_hasRoom (l : Launch) (Γ : gE) {k : Nat} (hk : isSt k)  (g : gG) (z : Int32 × gG) (h : f_X5_hasRoom k g = some z) : gMi l yX5_hasRoom cX5_hasRoom 1 (some .boolean) 0 0 Γ [.ref (gB Γ + k)] g z := by
  unfold f_X5_hasRoom at h
  refine gStart (own := RX5) (by decide +kernel) rfl (Nat.le_of_ble_eq_true rfl) ?_
  intro p e s m below meth c C0 ls hl hP
  have hS : va_S (gA Γ) s.heap s.heap [] := va_S.rf
  have hl : lv_has ls 1 [(0, .ref (gB Γ + k))] := hl
  obtain ⟨hx, hb, hml, hr, hown, hts, hK, hlk, hX⟩ := id C0
  refine lv_aload_n hx hb dX5_hasRoom_0 rfl (lv_at hl 0 rfl) ?_
  refine gf_5_9 hx hb hown hts hK hP hk wf_X5_50 dX5_hasRoom_1 ?_
  refine lv_iconst (v := 4) hx hb dX5_hasRoom_4 (by decide) ?_
  refine lv_icmp_ge (tgt := 12) hx hb dX5_hasRoom_5 (by decide) (fun c1 => ?_) (fun c1 => ?_)
  · replace h := gpos c1 h
    refine lv_iconst (v := 0) hx hb dX5_hasRoom_12 (by decide) ?_
    exact gzret0 hx hb hr hlk hP hS rfl dX5_hasRoom_13 h
  · replace h := gneg c1 h
    refine lv_iconst (v := 1) hx hb dX5_hasRoom_8 (by decide) ?_
    refine lv_goto (tgt := 13) hx hb dX5_hasRoom_9 (by decide) ?_
    exact gzret0 hx hb hr hlk hP hS rfl dX5_hasRoom_13 h
set_option maxHeartbeats 2000000 in
set_option maxRecDepth 20000 in
theorem m_X5_copyFrom (l : Launch) (Γ : gE) {k : Nat} {r1 : Nat} (hk : isSt k) (hr1 : isSt r1)  (g : gG) (z : Unit × gG) (h : f_X5_copyFrom k r1 g = some z) : gMv l yX5_copyFrom cX5_copyFrom 2 none 1 18 Γ [.ref (gB Γ + k), .ref (gB Γ + r1)] g z := by
  unfold f_X5_copyFrom at h
  refine gStart (own := RX5) (by decide +kernel) rfl (Nat.le_of_ble_eq_true rfl) ?_
  intro p e s m below meth c C0 ls hl hP
  have hS : va_S (gA Γ) s.heap s.heap [] := va_S.rf
  have hl : lv_has ls 2 [(0, .ref (gB Γ + k)), (1, .ref (gB Γ + r1))] := hl
  obtain ⟨hx, hb, hml, hr, hown, hts, hK, hlk, hX⟩ := id C0
  refine lv_aload_n hx hb dX5_copyFrom_0 rfl (lv_at hl 1 rfl) ?_
  refine gf_5_1 hx hb hown hts hK hP hr1 wf_X5_9 dX5_copyFrom_1 ?_
  refine lv_iconst (v := 0) hx hb dX5_copyFrom_4 (by decide) ?_
  refine lv_aload_n hx hb dX5_copyFrom_5 rfl (lv_at hl 0 rfl) ?_
  refine gf_5_1 hx hb hown hts hK hP hk wf_X5_9 dX5_copyFrom_6 ?_
  refine lv_iconst (v := 0) hx hb dX5_copyFrom_9 (by decide) ?_
  refine lv_bipush (v := 10) hx hb dX5_copyFrom_10 (by decide) ?_
  refine gCopy (rest := []) C0 wl_X5_53 wna_cpy wst_cpy wn_Sys hP hS hl.1 (isSt_1 hr1) (isSt_1 hk) (Nat.le_of_ble_eq_true rfl) (Nat.le_of_ble_eq_true rfl) dX5_copyFrom_12 h (fun H locs g1 h hP hS => ?_)
  refine lv_aload_n hx hb dX5_copyFrom_15 rfl (lv_at hl 1 rfl) ?_
  refine gf_5_2 hx hb hown hts hK hP hr1 wf_X5_15 dX5_copyFrom_16 ?_
  refine lv_iconst (v := 0) hx hb dX5_copyFrom_19 (by decide) ?_
  refine lv_aload_n hx hb dX5_copyFrom_20 rfl (lv_at hl 0 rfl) ?_
  refine gf_5_2 hx hb hown hts hK hP hk wf_X5_15 dX5_copyFrom_21 ?_
  refine lv_iconst (v := 0) hx hb dX5_copyFrom_24 (by decide) ?_
  refine lv_bipush (v := 10) hx hb dX5_copyFrom_25 (by decide) ?_
  refine gCopy (rest := []) C0 wl_X5_53 wna_cpy wst_cpy wn_Sys hP hS hl.1 (isSt_2 hr1) (isSt_2 hk) (Nat.le_of_ble_eq_true rfl) (Nat.le_of_ble_eq_true rfl) dX5_copyFrom_27 h (fun H locs g2 h hP hS => ?_)
  refine lv_aload_n hx hb dX5_copyFrom_30 rfl (lv_at hl 1 rfl) ?_
  refine gf_5_3 hx hb hown hts hK hP hr1 wf_X5_18 dX5_copyFrom_31 ?_
  refine lv_iconst (v := 0) hx hb dX5_copyFrom_34 (by decide) ?_
  refine lv_aload_n hx hb dX5_copyFrom_35 rfl (lv_at hl 0 rfl) ?_
  refine gf_5_3 hx hb hown hts hK hP hk wf_X5_18 dX5_copyFrom_36 ?_
  refine lv_iconst (v := 0) hx hb dX5_copyFrom_39 (by decide) ?_
  refine lv_iconst (v := 4) hx hb dX5_copyFrom_40 (by decide) ?_
  refine gCopy (rest := []) C0 wl_X5_53 wna_cpy wst_cpy wn_Sys hP hS hl.1 (isSt_3 hr1) (isSt_3 hk) (Nat.le_of_ble_eq_true rfl) (Nat.le_of_ble_eq_true rfl) dX5_copyFrom_41 h (fun H locs g3 h hP hS => ?_)
  refine lv_aload_n hx hb dX5_copyFrom_44 rfl (lv_at hl 1 rfl) ?_
  refine gf_5_4 hx hb hown hts hK hP hr1 wf_X5_21 dX5_copyFrom_45 ?_
  refine lv_iconst (v := 0) hx hb dX5_copyFrom_48 (by decide) ?_
  refine lv_aload_n hx hb dX5_copyFrom_49 rfl (lv_at hl 0 rfl) ?_
  refine gf_5_4 hx hb hown hts hK hP hk wf_X5_21 dX5_copyFrom_50 ?_
  refine lv_iconst (v := 0) hx hb dX5_copyFrom_53 (by decide) ?_
  refine lv_iconst (v := 4) hx hb dX5_copyFrom_54 (by decide) ?_
  refine gCopy (rest := []) C0 wl_X5_53 wna_cpy wst_cpy wn_Sys hP hS hl.1 (isSt_4 hr1) (isSt_4 hk) (Nat.le_of_ble_eq_true rfl) (Nat.le_of_ble_eq_true rfl) dX5_copyFrom_55 h (fun H locs g4 h hP hS => ?_)
  refine lv_aload_n hx hb dX5_copyFrom_58 rfl (lv_at hl 1 rfl) ?_
  refine gf_5_5 hx hb hown hts hK hP hr1 wf_X5_24 dX5_copyFrom_59 ?_
  refine lv_iconst (v := 0) hx hb dX5_copyFrom_62 (by decide) ?_
  refine lv_aload_n hx hb dX5_copyFrom_63 rfl (lv_at hl 0 rfl) ?_
  refine gf_5_5 hx hb hown hts hK hP hk wf_X5_24 dX5_copyFrom_64 ?_
  refine lv_iconst (v := 0) hx hb dX5_copyFrom_67 (by decide) ?_
  refine lv_iconst (v := 4) hx hb dX5_copyFrom_68 (by decide) ?_
  refine gCopy (rest := []) C0 wl_X5_53 wna_cpy wst_cpy wn_Sys hP hS hl.1 (isSt_5 hr1) (isSt_5 hk) (Nat.le_of_ble_eq_true rfl) (Nat.le_of_ble_eq_true rfl) dX5_copyFrom_69 h (fun H locs g5 h hP hS => ?_)
  refine lv_aload_n hx hb dX5_copyFrom_72 rfl (lv_at hl 1 rfl) ?_
  refine gf_5_6 hx hb hown hts hK hP hr1 wf_X5_27 dX5_copyFrom_73 ?_
  refine lv_iconst (v := 0) hx hb dX5_copyFrom_76 (by decide) ?_
  refine lv_aload_n hx hb dX5_copyFrom_77 rfl (lv_at hl 0 rfl) ?_
  refine gf_5_6 hx hb hown hts hK hP hk wf_X5_27 dX5_copyFrom_78 ?_
  refine lv_iconst (v := 0) hx hb dX5_copyFrom_81 (by decide) ?_
  refine lv_iconst (v := 4) hx hb dX5_copyFrom_82 (by decide) ?_
  refine gCopy (rest := []) C0 wl_X5_53 wna_cpy wst_cpy wn_Sys hP hS hl.1 (isSt_6 hr1) (isSt_6 hk) (Nat.le_of_ble_eq_true rfl) (Nat.le_of_ble_eq_true rfl) dX5_copyFrom_83 h (fun H locs g6 h hP hS => ?_)
  refine lv_aload_n hx hb dX5_copyFrom_86 rfl (lv_at hl 1 rfl) ?_
  refine gf_5_7 hx hb hown hts hK hP hr1 wf_X5_30 dX5_copyFrom_87 ?_
  refine lv_iconst (v := 0) hx hb dX5_copyFrom_90 (by decide) ?_
  refine lv_aload_n hx hb dX5_copyFrom_91 rfl (lv_at hl 0 rfl) ?_
  refine gf_5_7 hx hb hown hts hK hP hk wf_X5_30 dX5_copyFrom_92 ?_
  refine lv_iconst (v := 0) hx hb dX5_copyFrom_95 (by decide) ?_
  refine lv_bipush (v := 40) hx hb dX5_copyFrom_96 (by decide) ?_
  refine gCopy (rest := []) C0 wl_X5_53 wna_cpy wst_cpy wn_Sys hP hS hl.1 (isSt_7 hr1) (isSt_7 hk) (Nat.le_of_ble_eq_true rfl) (Nat.le_of_ble_eq_true rfl) dX5_copyFrom_98 h (fun H locs g7 h hP hS => ?_)
  refine lv_aload_n hx hb dX5_copyFrom_101 rfl (lv_at hl 0 rfl) ?_
  refine lv_aload_n hx hb dX5_copyFrom_102 rfl (lv_at hl 1 rfl) ?_
  refine gf_5_8 hx hb hown hts hK hP hr1 wf_X5_46 dX5_copyFrom_103 ?_
  refine gp_5_8 hx hb hown hts hK hP hS hk wf_X5_46 dX5_copyFrom_106 h (fun H locs g8 h hP hS => ?_)
  refine lv_aload_n hx hb dX5_copyFrom_109 rfl (lv_at hl 0 rfl) ?_
  refine lv_aload_n hx hb dX5_copyFrom_110 rfl (lv_at hl 1 rfl) ?_
  refine gf_5_9 hx hb hown hts hK hP hr1 wf_X5_50 dX5_copyFrom_111 ?_
  refine gp_5_9 hx hb hown hts hK hP hS hk wf_X5_50 dX5_copyFrom_114 h (fun H locs g9 h hP hS => ?_)
  exact gvret hx hb hr hlk hP hS dX5_copyFrom_117 h
set_option maxHeartbeats 2000000 in
set_option maxRecDepth 20000 in
theorem m_X1_keep (l : Launch) (Γ : gE) {r1 : Nat} (hr1 : isSt r1)  (g : gG) (z : Unit × gG) (h : f_X1_keep r1 g = some z) : gMv l yX1_keep cX1_keep 2 none 2 39 Γ [.ref (gB Γ + 24), .ref (gB Γ + r1)] g z := by
  unfold f_X1_keep at h
  refine gStart (own := RX1) (by decide +kernel) rfl (Nat.le_of_ble_eq_true rfl) ?_
  intro p e s m below meth c C0 ls hl hP
  have hS : va_S (gA Γ) s.heap s.heap [] := va_S.rf
  have hl : lv_has ls 2 [(0, .ref (gB Γ + 24)), (1, .ref (gB Γ + r1))] := hl
  obtain ⟨hx, hb, hml, hr, hown, hts, hK, hlk, hX⟩ := id C0
  refine lv_aload_n hx hb dX1_keep_0 rfl (lv_at hl 0 rfl) ?_
  refine gf_1_0 hx hb hown hts hK hP wf_X1_11 dX1_keep_1 ?_
  refine lv_aload_n hx hb dX1_keep_4 rfl (lv_at hl 0 rfl) ?_
  refine gf_1_1 hx hb hown hts hK hP wf_X1_24 dX1_keep_5 ?_
  refine gSld hx hb hK hP is_25 dX1_keep_8 h (fun c1 h => ?_)
  refine lv_aload_n hx hb dX1_keep_9 rfl (lv_at hl 1 rfl) ?_
  refine gCVv (rest := []) C0 cal_X5_copyFrom wl_X1_27 wi_X5_copyFrom ws_X5_copyFrom ⟨Nat.le_of_ble_eq_true rfl, Nat.le_of_ble_eq_true rfl⟩ ⟨Nat.le_of_ble_eq_true rfl, Nat.le_of_ble_eq_true rfl⟩ (grv_5 (isSt_ring (inb_lt c1))) [.ref (gB Γ + r1)] rfl (Nat.le_of_ble_eq_true rfl) hP hS hl.1 dX1_keep_10 h (fun u hu => m_X5_copyFrom l Γ (isSt_ring (inb_lt c1)) hr1 g u hu) (fun u2 H locs h hP hS => ?_) rfl
  refine lv_aload_n hx hb dX1_keep_13 rfl (lv_at hl 0 rfl) ?_
  refine lv_aload_n hx hb dX1_keep_14 rfl (lv_at hl 0 rfl) ?_
  refine gf_1_1 hx hb hown hts hK hP wf_X1_24 dX1_keep_15 ?_
  refine lv_iconst (v := 1) hx hb dX1_keep_18 (by decide) ?_
  refine lv_iadd hx hb dX1_keep_19 ?_
  refine lv_bipush (v := 14) hx hb dX1_keep_20 (by decide) ?_
  refine lv_irem hx hb dX1_keep_22 (by decide) ?_
  refine gp_1_1 hx hb hown hts hK hP hS wf_X1_24 dX1_keep_23 h (fun H locs g3 h hP hS => ?_)
  refine lv_aload_n hx hb dX1_keep_26 rfl (lv_at hl 0 rfl) ?_
  refine lv_aload_n hx hb dX1_keep_27 rfl (lv_at hl 0 rfl) ?_
  refine gf_1_2 hx hb hown hts hK hP wf_X1_20 dX1_keep_28 ?_
  refine lv_iconst (v := 1) hx hb dX1_keep_31 (by decide) ?_
  refine lv_iadd hx hb dX1_keep_32 ?_
  refine lv_bipush (v := 14) hx hb dX1_keep_33 (by decide) ?_
  refine va_mmin (rest := [.ref (gB Γ + 24)]) hx hb (hml.trans hl.1.symm) hown (hts _ wl_X1_31) (hts _ wst_min) (hts _ wn_Math) (hts _ wc_min) (Nat.le_of_ble_eq_true rfl) (Nat.le_of_ble_eq_true rfl) (Nat.le_of_ble_eq_true rfl) (Nat.le_of_ble_eq_true rfl) dX1_keep_35 ?_
  refine gp_1_2 hx hb hown hts hK hP hS wf_X1_20 dX1_keep_38 h (fun H locs g4 h hP hS => ?_)
  exact gvret hx hb hr hlk hP hS dX1_keep_41 h
set_option maxHeartbeats 2000000 in
set_option maxRecDepth 20000 in
theorem m_X5_enrol (l : Launch) (Γ : gE) {k : Nat} (hk : isSt k)  (g : gG) (z : Int32 × gG) (h : f_X5_enrol k g = some z) : gMi l yX5_enrol cX5_enrol 1 (some .int) 1 20 Γ [.ref (gB Γ + k)] g z := by
  unfold f_X5_enrol at h
  refine gStart (own := RX5) (by decide +kernel) rfl (Nat.le_of_ble_eq_true rfl) ?_
  intro p e s m below meth c C0 ls hl hP
  have hS : va_S (gA Γ) s.heap s.heap [] := va_S.rf
  have hl : lv_has ls 1 [(0, .ref (gB Γ + k))] := hl
  obtain ⟨hx, hb, hml, hr, hown, hts, hK, hlk, hX⟩ := id C0
  refine lv_aload_n hx hb dX5_enrol_0 rfl (lv_at hl 0 rfl) ?_
  refine gCVi (rest := []) C0 cal_X5_hasRoom wl_X5_115 wi_X5_hasRoom ws_X5_hasRoom ⟨Nat.le_of_ble_eq_true rfl, Nat.le_of_ble_eq_true rfl⟩ ⟨Nat.le_of_ble_eq_true rfl, Nat.le_of_ble_eq_true rfl⟩ (grv_5 hk) [] rfl (Nat.le_of_ble_eq_true rfl) hP hS hl.1 dX5_enrol_1 h (fun u hu => m_X5_hasRoom l Γ hk g u hu) (fun u1 H locs h hP hS => ?_) rfl
  refine lv_if_ne (tgt := 10) hx hb dX5_enrol_4 (by decide) (fun c2 => ?_) (fun c2 => ?_)
  · replace h := gneg c2 h
    refine lv_aload_n hx hb dX5_enrol_10 rfl (lv_at hl 0 rfl) ?_
    refine gf_5_3 hx hb hown hts hK hP hk wf_X5_18 dX5_enrol_11 ?_
    refine lv_aload_n hx hb dX5_enrol_14 rfl (lv_at hl 0 rfl) ?_
    refine gf_5_9 hx hb hown hts hK hP hk wf_X5_50 dX5_enrol_15 ?_
    refine lv_iconst (v := 0) hx hb dX5_enrol_18 (by decide) ?_
    refine gIst hx hb hK hP hS (isSt_3 hk) dX5_enrol_19 h (fun H locs g3 h hP hS => ?_)
    refine lv_aload_n hx hb dX5_enrol_20 rfl (lv_at hl 0 rfl) ?_
    refine gf_5_4 hx hb hown hts hK hP hk wf_X5_21 dX5_enrol_21 ?_
    refine lv_aload_n hx hb dX5_enrol_24 rfl (lv_at hl 0 rfl) ?_
    refine gf_5_9 hx hb hown hts hK hP hk wf_X5_50 dX5_enrol_25 ?_
    refine lv_iconst (v := 0) hx hb dX5_enrol_28 (by decide) ?_
    refine gIst hx hb hK hP hS (isSt_4 hk) dX5_enrol_29 h (fun H locs g4 h hP hS => ?_)
    refine lv_aload_n hx hb dX5_enrol_30 rfl (lv_at hl 0 rfl) ?_
    refine gf_5_5 hx hb hown hts hK hP hk wf_X5_24 dX5_enrol_31 ?_
    refine lv_aload_n hx hb dX5_enrol_34 rfl (lv_at hl 0 rfl) ?_
    refine gf_5_9 hx hb hown hts hK hP hk wf_X5_50 dX5_enrol_35 ?_
    refine lv_iconst (v := 0) hx hb dX5_enrol_38 (by decide) ?_
    refine gIst hx hb hK hP hS (isSt_5 hk) dX5_enrol_39 h (fun H locs g5 h hP hS => ?_)
    refine lv_aload_n hx hb dX5_enrol_40 rfl (lv_at hl 0 rfl) ?_
    refine gf_5_6 hx hb hown hts hK hP hk wf_X5_27 dX5_enrol_41 ?_
    refine lv_aload_n hx hb dX5_enrol_44 rfl (lv_at hl 0 rfl) ?_
    refine gf_5_9 hx hb hown hts hK hP hk wf_X5_50 dX5_enrol_45 ?_
    refine lv_iconst (v := 0) hx hb dX5_enrol_48 (by decide) ?_
    refine gIst hx hb hK hP hS (isSt_6 hk) dX5_enrol_49 h (fun H locs g6 h hP hS => ?_)
    refine lv_aload_n hx hb dX5_enrol_50 rfl (lv_at hl 0 rfl) ?_
    refine lv_dup hx hb dX5_enrol_51 rfl ?_
    refine gf_5_9 hx hb hown hts hK hP hk wf_X5_50 dX5_enrol_52 ?_
    refine lv_iconst (v := 1) hx hb dX5_enrol_55 (by decide) ?_
    refine lv_iadd hx hb dX5_enrol_56 ?_
    refine gp_5_9 hx hb hown hts hK hP hS hk wf_X5_50 dX5_enrol_57 h (fun H locs g7 h hP hS => ?_)
    refine lv_aload_n hx hb dX5_enrol_60 rfl (lv_at hl 0 rfl) ?_
    refine gf_5_9 hx hb hown hts hK hP hk wf_X5_50 dX5_enrol_61 ?_
    refine lv_iconst (v := 1) hx hb dX5_enrol_64 (by decide) ?_
    refine lv_isub hx hb dX5_enrol_65 ?_
    exact giret hx hb hr hlk hP hS dX5_enrol_66 h
  · replace h := gpos c2 h
    refine lv_bipush (v := -9) hx hb dX5_enrol_7 (by decide) ?_
    exact giret hx hb hr hlk hP hS dX5_enrol_9 h
set_option maxHeartbeats 2000000 in
set_option maxRecDepth 20000 in
theorem m_X5_canVisit (l : Launch) (Γ : gE) {k : Nat} (hk : isSt k) (a1 : Int32) (a2 : Int32) (g : gG) (z : Int32 × gG) (h : f_X5_canVisit k a1 a2 g = some z) : gMi l yX5_canVisit cX5_canVisit 3 (some .boolean) 2 44 Γ [.ref (gB Γ + k), .int a1, .int a2] g z := by
  unfold f_X5_canVisit at h
  refine gStart (own := RX5) (by decide +kernel) rfl (Nat.le_of_ble_eq_true rfl) ?_
  intro p e s m below meth c C0 ls hl hP
  have hS : va_S (gA Γ) s.heap s.heap [] := va_S.rf
  have hl : lv_has ls 3 [(0, .ref (gB Γ + k)), (1, .int a1), (2, .int a2)] := hl
  obtain ⟨hx, hb, hml, hr, hown, hts, hK, hlk, hX⟩ := id C0
  refine lv_aload_n hx hb dX5_canVisit_0 rfl (lv_at hl 0 rfl) ?_
  refine gf_5_0 hx hb hown hts hK hP hk wf_X5_33 dX5_canVisit_1 ?_
  refine lv_iload_n hx hb dX5_canVisit_4 rfl (lv_at hl 2 rfl) ?_
  refine gCVi (rest := []) C0 cal_X0_hasPlace wl_X5_106 wi_X0_hasPlace ws_X0_hasPlace ⟨Nat.le_of_ble_eq_true rfl, Nat.le_of_ble_eq_true rfl⟩ ⟨Nat.le_of_ble_eq_true rfl, Nat.le_of_ble_eq_true rfl⟩ grv_0 [.int a2] rfl (Nat.le_of_ble_eq_true rfl) hP hS hl.1 dX5_canVisit_5 h (fun u hu => m_X0_hasPlace l Γ a2 g u hu) (fun u1 H locs h hP hS => ?_) rfl
  refine lv_if_eq (tgt := 27) hx hb dX5_canVisit_8 (by decide) (fun c2 => ?_) (fun c2 => ?_)
  · replace h := gpos c2 h
    refine lv_iconst (v := 0) hx hb dX5_canVisit_27 (by decide) ?_
    exact gzret0 hx hb hr hlk hP hS rfl dX5_canVisit_28 h
  · replace h := gneg c2 h
    refine lv_iload_n hx hb dX5_canVisit_11 rfl (lv_at hl 2 rfl) ?_
    refine lv_aload_n hx hb dX5_canVisit_12 rfl (lv_at hl 0 rfl) ?_
    refine lv_iload_n hx hb dX5_canVisit_13 rfl (lv_at hl 1 rfl) ?_
    refine gCVi (rest := [.int a2]) C0 cal_X5_openTo wl_X5_109 wi_X5_openTo ws_X5_openTo ⟨Nat.le_of_ble_eq_true rfl, Nat.le_of_ble_eq_true rfl⟩ ⟨Nat.le_of_ble_eq_true rfl, Nat.le_of_ble_eq_true rfl⟩ (grv_5 hk) [.int a1] rfl (Nat.le_of_ble_eq_true rfl) hP hS hl.1 dX5_canVisit_14 h (fun u hu => m_X5_openTo l Γ hk a1 u1.2 u hu) (fun u3 H locs h hP hS => ?_) rfl
    refine gCNi (rest := []) C0 cal_X9_isIn wln_X5_65 wt_X9_isIn ⟨Nat.le_of_ble_eq_true rfl, Nat.le_of_ble_eq_true rfl⟩ ⟨Nat.le_of_ble_eq_true rfl, Nat.le_of_ble_eq_true rfl⟩ [.int a2, .int u3.1] rfl (Nat.le_of_ble_eq_true rfl) hP hS hl.1 dX5_canVisit_17 h (fun u hu => m_X9_isIn l Γ a2 u3.1 u3.2 u hu) (fun u4 H locs h hP hS => ?_) rfl
    refine lv_if_eq (tgt := 27) hx hb dX5_canVisit_20 (by decide) (fun c5 => ?_) (fun c5 => ?_)
    · replace h := gpos c5 h
      refine lv_iconst (v := 0) hx hb dX5_canVisit_27 (by decide) ?_
      exact gzret0 hx hb hr hlk hP hS rfl dX5_canVisit_28 h
    · replace h := gneg c5 h
      refine lv_iconst (v := 1) hx hb dX5_canVisit_23 (by decide) ?_
      refine lv_goto (tgt := 28) hx hb dX5_canVisit_24 (by decide) ?_
      exact gzret0 hx hb hr hlk hP hS rfl dX5_canVisit_28 h
set_option maxHeartbeats 2000000 in
set_option maxRecDepth 20000 in
theorem m_X5_minutesBetween (l : Launch) (Γ : gE) {k : Nat} (hk : isSt k) (a1 : Int32) (a2 : Int32) (g : gG) (z : Int32 × gG) (h : f_X5_minutesBetween k a1 a2 g = some z) : gMi l yX5_minutesBetween cX5_minutesBetween 3 (some .int) 1 21 Γ [.ref (gB Γ + k), .int a1, .int a2] g z := by
  unfold f_X5_minutesBetween at h
  refine gStart (own := RX5) (by decide +kernel) rfl (Nat.le_of_ble_eq_true rfl) ?_
  intro p e s m below meth c C0 ls hl hP
  have hS : va_S (gA Γ) s.heap s.heap [] := va_S.rf
  have hl : lv_has ls 3 [(0, .ref (gB Γ + k)), (1, .int a1), (2, .int a2)] := hl
  obtain ⟨hx, hb, hml, hr, hown, hts, hK, hlk, hX⟩ := id C0
  refine lv_aload_n hx hb dX5_minutesBetween_0 rfl (lv_at hl 0 rfl) ?_
  refine lv_iload_n hx hb dX5_minutesBetween_1 rfl (lv_at hl 1 rfl) ?_
  refine gCVi (rest := []) C0 cal_X5_xOf wl_X5_73 wi_X5_xOf ws_X5_xOf ⟨Nat.le_of_ble_eq_true rfl, Nat.le_of_ble_eq_true rfl⟩ ⟨Nat.le_of_ble_eq_true rfl, Nat.le_of_ble_eq_true rfl⟩ (grv_5 hk) [.int a1] rfl (Nat.le_of_ble_eq_true rfl) hP hS hl.1 dX5_minutesBetween_2 h (fun u hu => m_X5_xOf l Γ hk a1 g u hu) (fun u1 H locs h hP hS => ?_) rfl
  refine lv_aload_n hx hb dX5_minutesBetween_5 rfl (lv_at hl 0 rfl) ?_
  refine lv_iload_n hx hb dX5_minutesBetween_6 rfl (lv_at hl 2 rfl) ?_
  refine gCVi (rest := [.int u1.1]) C0 cal_X5_xOf wl_X5_73 wi_X5_xOf ws_X5_xOf ⟨Nat.le_of_ble_eq_true rfl, Nat.le_of_ble_eq_true rfl⟩ ⟨Nat.le_of_ble_eq_true rfl, Nat.le_of_ble_eq_true rfl⟩ (grv_5 hk) [.int a2] rfl (Nat.le_of_ble_eq_true rfl) hP hS hl.1 dX5_minutesBetween_7 h (fun u hu => m_X5_xOf l Γ hk a2 u1.2 u hu) (fun u2 H locs h hP hS => ?_) rfl
  refine lv_isub hx hb dX5_minutesBetween_10 ?_
  refine va_mabs (rest := []) hx hb (hml.trans hl.1.symm) hown (hts _ wl_X5_74) (hts _ wst_abs) (hts _ wn_Math) (hts _ wc_abs) (Nat.le_of_ble_eq_true rfl) (Nat.le_of_ble_eq_true rfl) (Nat.le_of_ble_eq_true rfl) (Nat.le_of_ble_eq_true rfl) dX5_minutesBetween_11 ?_
  refine lv_aload_n hx hb dX5_minutesBetween_14 rfl (lv_at hl 0 rfl) ?_
  refine lv_iload_n hx hb dX5_minutesBetween_15 rfl (lv_at hl 1 rfl) ?_
  refine gCVi (rest := [.int (if 0 ≤ (u1.1 - u2.1) then (u1.1 - u2.1) else 0 - (u1.1 - u2.1))]) C0 cal_X5_yOf wl_X5_79 wi_X5_yOf ws_X5_yOf ⟨Nat.le_of_ble_eq_true rfl, Nat.le_of_ble_eq_true rfl⟩ ⟨Nat.le_of_ble_eq_true rfl, Nat.le_of_ble_eq_true rfl⟩ (grv_5 hk) [.int a1] rfl (Nat.le_of_ble_eq_true rfl) hP hS hl.1 dX5_minutesBetween_16 h (fun u hu => m_X5_yOf l Γ hk a1 u2.2 u hu) (fun u3 H locs h hP hS => ?_) rfl
  refine lv_aload_n hx hb dX5_minutesBetween_19 rfl (lv_at hl 0 rfl) ?_
  refine lv_iload_n hx hb dX5_minutesBetween_20 rfl (lv_at hl 2 rfl) ?_
  refine gCVi (rest := [.int u3.1, .int (if 0 ≤ (u1.1 - u2.1) then (u1.1 - u2.1) else 0 - (u1.1 - u2.1))]) C0 cal_X5_yOf wl_X5_79 wi_X5_yOf ws_X5_yOf ⟨Nat.le_of_ble_eq_true rfl, Nat.le_of_ble_eq_true rfl⟩ ⟨Nat.le_of_ble_eq_true rfl, Nat.le_of_ble_eq_true rfl⟩ (grv_5 hk) [.int a2] rfl (Nat.le_of_ble_eq_true rfl) hP hS hl.1 dX5_minutesBetween_21 h (fun u hu => m_X5_yOf l Γ hk a2 u3.2 u hu) (fun u4 H locs h hP hS => ?_) rfl
  refine lv_isub hx hb dX5_minutesBetween_24 ?_
  refine va_mabs (rest := [.int (if 0 ≤ (u1.1 - u2.1) then (u1.1 - u2.1) else 0 - (u1.1 - u2.1))]) hx hb (hml.trans hl.1.symm) hown (hts _ wl_X5_74) (hts _ wst_abs) (hts _ wn_Math) (hts _ wc_abs) (Nat.le_of_ble_eq_true rfl) (Nat.le_of_ble_eq_true rfl) (Nat.le_of_ble_eq_true rfl) (Nat.le_of_ble_eq_true rfl) dX5_minutesBetween_25 ?_
  refine lv_iadd hx hb dX5_minutesBetween_28 ?_
  refine lv_iconst (v := 1) hx hb dX5_minutesBetween_29 (by decide) ?_
  refine lv_iadd hx hb dX5_minutesBetween_30 ?_
  exact giret hx hb hr hlk hP hS dX5_minutesBetween_31 h
set_option maxHeartbeats 2000000 in
set_option maxRecDepth 20000 in
theorem m_X5_visit (l : Launch) (Γ : gE) {k : Nat} (hk : isSt k) (a1 : Int32) (a2 : Int32) (g : gG) (z : Int32 × gG) (h : f_X5_visit k a1 a2 g = some z) : gMi l yX5_visit cX5_visit 3 (some .int) 3 66 Γ [.ref (gB Γ + k), .int a1, .int a2] g z := by
  unfold f_X5_visit at h
  refine gStart (own := RX5) (by decide +kernel) rfl (Nat.le_of_ble_eq_true rfl) ?_
  intro p e s m below meth c C0 ls hl hP
  have hS : va_S (gA Γ) s.heap s.heap [] := va_S.rf
  have hl : lv_has ls 3 [(0, .ref (gB Γ + k)), (1, .int a1), (2, .int a2)] := hl
  obtain ⟨hx, hb, hml, hr, hown, hts, hK, hlk, hX⟩ := id C0
  refine lv_aload_n hx hb dX5_visit_0 rfl (lv_at hl 0 rfl) ?_
  refine lv_iload_n hx hb dX5_visit_1 rfl (lv_at hl 1 rfl) ?_
  refine lv_iload_n hx hb dX5_visit_2 rfl (lv_at hl 2 rfl) ?_
  refine gCVi (rest := []) C0 cal_X5_canVisit wl_X5_119 wi_X5_canVisit ws_X5_canVisit ⟨Nat.le_of_ble_eq_true rfl, Nat.le_of_ble_eq_true rfl⟩ ⟨Nat.le_of_ble_eq_true rfl, Nat.le_of_ble_eq_true rfl⟩ (grv_5 hk) [.int a1, .int a2] rfl (Nat.le_of_ble_eq_true rfl) hP hS hl.1 dX5_visit_3 h (fun u hu => m_X5_canVisit l Γ hk a1 a2 g u hu) (fun u1 H locs h hP hS => ?_) rfl
  refine lv_if_eq (tgt := 20) hx hb dX5_visit_6 (by decide) (fun c2 => ?_) (fun c2 => ?_)
  · replace h := gpos c2 h
    refine lv_bipush (v := -9) hx hb dX5_visit_20 (by decide) ?_
    exact giret hx hb hr hlk hP hS dX5_visit_22 h
  · replace h := gneg c2 h
    refine lv_aload_n hx hb dX5_visit_9 rfl (lv_at hl 0 rfl) ?_
    refine gf_5_4 hx hb hown hts hK hP hk wf_X5_21 dX5_visit_10 ?_
    refine lv_iload_n hx hb dX5_visit_13 rfl (lv_at hl 1 rfl) ?_
    refine gIld hx hb hK hP (isSt_4 hk) dX5_visit_14 h (fun h => ?_)
    refine lv_bipush (v := 10) hx hb dX5_visit_15 (by decide) ?_
    refine lv_icmp_lt (tgt := 23) hx hb dX5_visit_17 (by decide) (fun c3 => ?_) (fun c3 => ?_)
    · replace h := gpos c3 h
      refine lv_aload_n hx hb dX5_visit_23 rfl (lv_at hl 0 rfl) ?_
      refine gf_5_5 hx hb hown hts hK hP hk wf_X5_24 dX5_visit_24 ?_
      refine lv_iload_n hx hb dX5_visit_27 rfl (lv_at hl 1 rfl) ?_
      refine lv_dup2_11 hx hb dX5_visit_28 rfl rfl ?_
      refine gIld hx hb hK hP (isSt_5 hk) dX5_visit_29 h (fun h => ?_)
      refine lv_aload_n hx hb dX5_visit_30 rfl (lv_at hl 0 rfl) ?_
      refine lv_aload_n hx hb dX5_visit_31 rfl (lv_at hl 0 rfl) ?_
      refine lv_iload_n hx hb dX5_visit_32 rfl (lv_at hl 1 rfl) ?_
      refine gCVi (rest := [.ref (gB Γ + k), .int (u1.2.1 (k + 5) a1.toNatClampNeg), .int a1, .ref (gB Γ + (k + 5))]) C0 cal_X5_lastOf wl_X5_122 wi_X5_lastOf ws_X5_lastOf ⟨Nat.le_of_ble_eq_true rfl, Nat.le_of_ble_eq_true rfl⟩ ⟨Nat.le_of_ble_eq_true rfl, Nat.le_of_ble_eq_true rfl⟩ (grv_5 hk) [.int a1] rfl (Nat.le_of_ble_eq_true rfl) hP hS hl.1 dX5_visit_33 h (fun u hu => m_X5_lastOf l Γ hk a1 u1.2 u hu) (fun u4 H locs h hP hS => ?_) rfl
      refine lv_iload_n hx hb dX5_visit_36 rfl (lv_at hl 2 rfl) ?_
      refine gCVi (rest := [.int (u1.2.1 (k + 5) a1.toNatClampNeg), .int a1, .ref (gB Γ + (k + 5))]) C0 cal_X5_minutesBetween wl_X5_125 wi_X5_minutesBetween ws_X5_minutesBetween ⟨Nat.le_of_ble_eq_true rfl, Nat.le_of_ble_eq_true rfl⟩ ⟨Nat.le_of_ble_eq_true rfl, Nat.le_of_ble_eq_true rfl⟩ (grv_5 hk) [.int u4.1, .int a2] rfl (Nat.le_of_ble_eq_true rfl) hP hS hl.1 dX5_visit_37 h (fun u hu => m_X5_minutesBetween l Γ hk u4.1 a2 u4.2 u hu) (fun u5 H locs h hP hS => ?_) rfl
      refine lv_iadd hx hb dX5_visit_40 ?_
      refine gIst hx hb hK hP hS (isSt_5 hk) dX5_visit_41 h (fun H locs g6 h hP hS => ?_)
      refine lv_aload_n hx hb dX5_visit_42 rfl (lv_at hl 0 rfl) ?_
      refine gf_5_7 hx hb hown hts hK hP hk wf_X5_30 dX5_visit_43 ?_
      refine lv_iload_n hx hb dX5_visit_46 rfl (lv_at hl 1 rfl) ?_
      refine lv_bipush (v := 10) hx hb dX5_visit_47 (by decide) ?_
      refine lv_imul hx hb dX5_visit_49 ?_
      refine lv_aload_n hx hb dX5_visit_50 rfl (lv_at hl 0 rfl) ?_
      refine gf_5_4 hx hb hown hts hK hP hk wf_X5_21 dX5_visit_51 ?_
      refine lv_iload_n hx hb dX5_visit_54 rfl (lv_at hl 1 rfl) ?_
      refine gIld hx hb hK hP (isSt_4 hk) dX5_visit_55 h (fun h => ?_)
      refine lv_iadd hx hb dX5_visit_56 ?_
      refine lv_iload_n hx hb dX5_visit_57 rfl (lv_at hl 2 rfl) ?_
      refine gIst hx hb hK hP hS (isSt_7 hk) dX5_visit_58 h (fun H locs g7 h hP hS => ?_)
      refine lv_aload_n hx hb dX5_visit_59 rfl (lv_at hl 0 rfl) ?_
      refine gf_5_4 hx hb hown hts hK hP hk wf_X5_21 dX5_visit_60 ?_
      refine lv_iload_n hx hb dX5_visit_63 rfl (lv_at hl 1 rfl) ?_
      refine lv_dup2_11 hx hb dX5_visit_64 rfl rfl ?_
      refine gIld hx hb hK hP (isSt_4 hk) dX5_visit_65 h (fun h => ?_)
      refine lv_iconst (v := 1) hx hb dX5_visit_66 (by decide) ?_
      refine lv_iadd hx hb dX5_visit_67 ?_
      refine gIst hx hb hK hP hS (isSt_4 hk) dX5_visit_68 h (fun H locs g8 h hP hS => ?_)
      refine lv_aload_n hx hb dX5_visit_69 rfl (lv_at hl 0 rfl) ?_
      refine gf_5_3 hx hb hown hts hK hP hk wf_X5_18 dX5_visit_70 ?_
      refine lv_iload_n hx hb dX5_visit_73 rfl (lv_at hl 1 rfl) ?_
      refine lv_dup2_11 hx hb dX5_visit_74 rfl rfl ?_
      refine gIld hx hb hK hP (isSt_3 hk) dX5_visit_75 h (fun h => ?_)
      refine lv_iconst (v := 1) hx hb dX5_visit_76 (by decide) ?_
      refine lv_iload_n hx hb dX5_visit_77 rfl (lv_at hl 2 rfl) ?_
      refine lv_ishl hx hb dX5_visit_78 ?_
      refine lv_ior hx hb dX5_visit_79 ?_
      refine gIst hx hb hK hP hS (isSt_3 hk) dX5_visit_80 h (fun H locs g9 h hP hS => ?_)
      refine lv_aload_n hx hb dX5_visit_81 rfl (lv_at hl 0 rfl) ?_
      refine gf_5_5 hx hb hown hts hK hP hk wf_X5_24 dX5_visit_82 ?_
      refine lv_iload_n hx hb dX5_visit_85 rfl (lv_at hl 1 rfl) ?_
      refine gIld hx hb hK hP (isSt_5 hk) dX5_visit_86 h (fun h => ?_)
      exact giret hx hb hr hlk hP hS dX5_visit_87 h
    · replace h := gneg c3 h
      refine lv_bipush (v := -9) hx hb dX5_visit_20 (by decide) ?_
      exact giret hx hb hr hlk hP hS dX5_visit_22 h
set_option maxHeartbeats 2000000 in
set_option maxRecDepth 20000 in
theorem m_X5_countHint (l : Launch) (Γ : gE) {k : Nat} (hk : isSt k) (a1 : Int32) (g : gG) (z : Unit × gG) (h : f_X5_countHint k a1 g = some z) : gMv l yX5_countHint cX5_countHint 2 none 1 21 Γ [.ref (gB Γ + k), .int a1] g z := by
  unfold f_X5_countHint at h
  refine gStart (own := RX5) (by decide +kernel) rfl (Nat.le_of_ble_eq_true rfl) ?_
  intro p e s m below meth c C0 ls hl hP
  have hS : va_S (gA Γ) s.heap s.heap [] := va_S.rf
  have hl : lv_has ls 2 [(0, .ref (gB Γ + k)), (1, .int a1)] := hl
  obtain ⟨hx, hb, hml, hr, hown, hts, hK, hlk, hX⟩ := id C0
  refine lv_aload_n hx hb dX5_countHint_0 rfl (lv_at hl 0 rfl) ?_
  refine lv_iload_n hx hb dX5_countHint_1 rfl (lv_at hl 1 rfl) ?_
  refine gCVi (rest := []) C0 cal_X5_hasTeam wl_X5_80 wi_X5_hasTeam ws_X5_hasTeam ⟨Nat.le_of_ble_eq_true rfl, Nat.le_of_ble_eq_true rfl⟩ ⟨Nat.le_of_ble_eq_true rfl, Nat.le_of_ble_eq_true rfl⟩ (grv_5 hk) [.int a1] rfl (Nat.le_of_ble_eq_true rfl) hP hS hl.1 dX5_countHint_2 h (fun u hu => m_X5_hasTeam l Γ hk a1 g u hu) (fun u1 H locs h hP hS => ?_) rfl
  refine lv_if_eq (tgt := 18) hx hb dX5_countHint_5 (by decide) (fun c2 => ?_) (fun c2 => ?_)
  · replace h := gpos c2 h
    exact gvret hx hb hr hlk hP hS dX5_countHint_18 h
  · replace h := gneg c2 h
    refine lv_aload_n hx hb dX5_countHint_8 rfl (lv_at hl 0 rfl) ?_
    refine gf_5_6 hx hb hown hts hK hP hk wf_X5_27 dX5_countHint_9 ?_
    refine lv_iload_n hx hb dX5_countHint_12 rfl (lv_at hl 1 rfl) ?_
    refine lv_dup2_11 hx hb dX5_countHint_13 rfl rfl ?_
    refine gIld hx hb hK hP (isSt_6 hk) dX5_countHint_14 h (fun h => ?_)
    refine lv_iconst (v := 1) hx hb dX5_countHint_15 (by decide) ?_
    refine lv_iadd hx hb dX5_countHint_16 ?_
    refine gIst hx hb hK hP hS (isSt_6 hk) dX5_countHint_17 h (fun H locs g3 h hP hS => ?_)
    exact gvret hx hb hr hlk hP hS dX5_countHint_18 h
set_option maxHeartbeats 2000000 in
set_option maxRecDepth 20000 in
theorem m_X5_copyTeam (l : Launch) (Γ : gE) {k : Nat} (hk : isSt k) (a1 : Int32) (a2 : Int32) (g : gG) (z : Unit × gG) (h : f_X5_copyTeam k a1 a2 g = some z) : gMv l yX5_copyTeam cX5_copyTeam 3 none 1 18 Γ [.ref (gB Γ + k), .int a1, .int a2] g z := by
  unfold f_X5_copyTeam at h
  refine gStart (own := RX5) (by decide +kernel) rfl (Nat.le_of_ble_eq_true rfl) ?_
  intro p e s m below meth c C0 ls hl hP
  have hS : va_S (gA Γ) s.heap s.heap [] := va_S.rf
  have hl : lv_has ls 3 [(0, .ref (gB Γ + k)), (1, .int a1), (2, .int a2)] := hl
  obtain ⟨hx, hb, hml, hr, hown, hts, hK, hlk, hX⟩ := id C0
  refine lv_aload_n hx hb dX5_copyTeam_0 rfl (lv_at hl 0 rfl) ?_
  refine gf_5_3 hx hb hown hts hK hP hk wf_X5_18 dX5_copyTeam_1 ?_
  refine lv_iload_n hx hb dX5_copyTeam_4 rfl (lv_at hl 2 rfl) ?_
  refine lv_aload_n hx hb dX5_copyTeam_5 rfl (lv_at hl 0 rfl) ?_
  refine gf_5_3 hx hb hown hts hK hP hk wf_X5_18 dX5_copyTeam_6 ?_
  refine lv_iload_n hx hb dX5_copyTeam_9 rfl (lv_at hl 1 rfl) ?_
  refine gIld hx hb hK hP (isSt_3 hk) dX5_copyTeam_10 h (fun h => ?_)
  refine gIst hx hb hK hP hS (isSt_3 hk) dX5_copyTeam_11 h (fun H locs g1 h hP hS => ?_)
  refine lv_aload_n hx hb dX5_copyTeam_12 rfl (lv_at hl 0 rfl) ?_
  refine gf_5_4 hx hb hown hts hK hP hk wf_X5_21 dX5_copyTeam_13 ?_
  refine lv_iload_n hx hb dX5_copyTeam_16 rfl (lv_at hl 2 rfl) ?_
  refine lv_aload_n hx hb dX5_copyTeam_17 rfl (lv_at hl 0 rfl) ?_
  refine gf_5_4 hx hb hown hts hK hP hk wf_X5_21 dX5_copyTeam_18 ?_
  refine lv_iload_n hx hb dX5_copyTeam_21 rfl (lv_at hl 1 rfl) ?_
  refine gIld hx hb hK hP (isSt_4 hk) dX5_copyTeam_22 h (fun h => ?_)
  refine gIst hx hb hK hP hS (isSt_4 hk) dX5_copyTeam_23 h (fun H locs g2 h hP hS => ?_)
  refine lv_aload_n hx hb dX5_copyTeam_24 rfl (lv_at hl 0 rfl) ?_
  refine gf_5_5 hx hb hown hts hK hP hk wf_X5_24 dX5_copyTeam_25 ?_
  refine lv_iload_n hx hb dX5_copyTeam_28 rfl (lv_at hl 2 rfl) ?_
  refine lv_aload_n hx hb dX5_copyTeam_29 rfl (lv_at hl 0 rfl) ?_
  refine gf_5_5 hx hb hown hts hK hP hk wf_X5_24 dX5_copyTeam_30 ?_
  refine lv_iload_n hx hb dX5_copyTeam_33 rfl (lv_at hl 1 rfl) ?_
  refine gIld hx hb hK hP (isSt_5 hk) dX5_copyTeam_34 h (fun h => ?_)
  refine gIst hx hb hK hP hS (isSt_5 hk) dX5_copyTeam_35 h (fun H locs g3 h hP hS => ?_)
  refine lv_aload_n hx hb dX5_copyTeam_36 rfl (lv_at hl 0 rfl) ?_
  refine gf_5_6 hx hb hown hts hK hP hk wf_X5_27 dX5_copyTeam_37 ?_
  refine lv_iload_n hx hb dX5_copyTeam_40 rfl (lv_at hl 2 rfl) ?_
  refine lv_aload_n hx hb dX5_copyTeam_41 rfl (lv_at hl 0 rfl) ?_
  refine gf_5_6 hx hb hown hts hK hP hk wf_X5_27 dX5_copyTeam_42 ?_
  refine lv_iload_n hx hb dX5_copyTeam_45 rfl (lv_at hl 1 rfl) ?_
  refine gIld hx hb hK hP (isSt_6 hk) dX5_copyTeam_46 h (fun h => ?_)
  refine gIst hx hb hK hP hS (isSt_6 hk) dX5_copyTeam_47 h (fun H locs g4 h hP hS => ?_)
  refine lv_aload_n hx hb dX5_copyTeam_48 rfl (lv_at hl 0 rfl) ?_
  refine gf_5_7 hx hb hown hts hK hP hk wf_X5_30 dX5_copyTeam_49 ?_
  refine lv_iload_n hx hb dX5_copyTeam_52 rfl (lv_at hl 1 rfl) ?_
  refine lv_bipush (v := 10) hx hb dX5_copyTeam_53 (by decide) ?_
  refine lv_imul hx hb dX5_copyTeam_55 ?_
  refine lv_aload_n hx hb dX5_copyTeam_56 rfl (lv_at hl 0 rfl) ?_
  refine gf_5_7 hx hb hown hts hK hP hk wf_X5_30 dX5_copyTeam_57 ?_
  refine lv_iload_n hx hb dX5_copyTeam_60 rfl (lv_at hl 2 rfl) ?_
  refine lv_bipush (v := 10) hx hb dX5_copyTeam_61 (by decide) ?_
  refine lv_imul hx hb dX5_copyTeam_63 ?_
  refine lv_bipush (v := 10) hx hb dX5_copyTeam_64 (by decide) ?_
  refine gCopy (rest := []) C0 wl_X5_53 wna_cpy wst_cpy wn_Sys hP hS hl.1 (isSt_7 hk) (isSt_7 hk) (Nat.le_of_ble_eq_true rfl) (Nat.le_of_ble_eq_true rfl) dX5_copyTeam_66 h (fun H locs g5 h hP hS => ?_)
  exact gvret hx hb hr hlk hP hS dX5_copyTeam_69 h
set_option maxHeartbeats 2000000 in
set_option maxRecDepth 20000 in
theorem bs_X5_dismiss_10 {p : Program} {l : Launch} {e : Env} {s : State} {m : MethodId} {args : Array Value} {below : List Frame} {meth : Method} {c : Code} {Γ : gE} (C0 : gCx p s m args meth c Γ RX5 cX5_dismiss 3 (some .int)) {k : Nat} (hk : isSt k) {z : Int32 × gG} {F10 : Int32 → gG → Option (Int32 × gG)} {l2 : Int32} {g : gG} {H : Heap} {locs : List Loc} {ls : Array Slot} (hF10 : ∀ (l2 : Int32) (g : gG) (H : Heap) (locs : List Loc) (ls : Array Slot), F10 l2 g = some z → va_P (gD Γ) gcls (lay Γ g) H → va_S (gA Γ) s.heap H locs → lv_has ls 3 [(0, .ref (gB Γ + k)), (2, .int l2)] → W p l e (gRm 2 40) s m args below meth c H locs 0 0 (MQ below (gQi Γ z) args s 0 0 (gA Γ)) (F0 m 10 ls [])) (h : fs_X5_dismiss_10 k F10 l2 g = some z) (hP : va_P (gD Γ) gcls (lay Γ g) H) (hS : va_S (gA Γ) s.heap H locs) (hl : lv_has ls 3 [(0, .ref (gB Γ + k)), (2, .int l2)]) : W p l e (gRm 2 40) s m args below meth c H locs 0 0 (MQ below (gQi Γ z) args s 0 0 (gA Γ)) (F0 m 10 ls []) := by
  unfold fs_X5_dismiss_10 at h
  obtain ⟨hx, hb, hml, hr, hown, hts, hK, hlk, hX⟩ := id C0
  refine lv_iload_n hx hb dX5_dismiss_10 rfl (lv_at hl 1 rfl) ?_
  refine lv_iconst (v := 1) hx hb dX5_dismiss_11 (by decide) ?_
  refine lv_iadd hx hb dX5_dismiss_12 ?_
  refine lv_aload_n hx hb dX5_dismiss_13 rfl (lv_at hl 0 rfl) ?_
  refine gf_5_9 hx hb hown hts hK hP hk wf_X5_50 dX5_dismiss_14 ?_
  refine lv_icmp_ge (tgt := 34) hx hb dX5_dismiss_17 (by decide) (fun c1 => ?_) (fun c1 => ?_)
  · replace h := gpos c1 h
    refine lv_aload_n hx hb dX5_dismiss_34 rfl (lv_at hl 0 rfl) ?_
    refine lv_dup hx hb dX5_dismiss_35 rfl ?_
    refine gf_5_9 hx hb hown hts hK hP hk wf_X5_50 dX5_dismiss_36 ?_
    refine lv_iconst (v := 1) hx hb dX5_dismiss_39 (by decide) ?_
    refine lv_isub hx hb dX5_dismiss_40 ?_
    refine gp_5_9 hx hb hown hts hK hP hS hk wf_X5_50 dX5_dismiss_41 h (fun H locs g2 h hP hS => ?_)
    refine lv_aload_n hx hb dX5_dismiss_44 rfl (lv_at hl 0 rfl) ?_
    refine gf_5_9 hx hb hown hts hK hP hk wf_X5_50 dX5_dismiss_45 ?_
    exact giret hx hb hr hlk hP hS dX5_dismiss_48 h
  · replace h := gneg c1 h
    refine lv_aload_n hx hb dX5_dismiss_20 rfl (lv_at hl 0 rfl) ?_
    refine lv_iload_n hx hb dX5_dismiss_21 rfl (lv_at hl 1 rfl) ?_
    refine lv_iconst (v := 1) hx hb dX5_dismiss_22 (by decide) ?_
    refine lv_iadd hx hb dX5_dismiss_23 ?_
    refine lv_iload_n hx hb dX5_dismiss_24 rfl (lv_at hl 1 rfl) ?_
    refine gCVv (rest := []) C0 cal_X5_copyTeam wl_X5_128 wi_X5_copyTeam ws_X5_copyTeam ⟨Nat.le_of_ble_eq_true rfl, Nat.le_of_ble_eq_true rfl⟩ ⟨Nat.le_of_ble_eq_true rfl, Nat.le_of_ble_eq_true rfl⟩ (grv_5 hk) [.int (l2 + (1 : Int32)), .int l2] rfl (Nat.le_of_ble_eq_true rfl) hP hS hl.1 dX5_dismiss_25 h (fun u hu => m_X5_copyTeam l Γ hk (l2 + (1 : Int32)) l2 g u hu) (fun u3 H locs h hP hS => ?_) rfl
    obtain ⟨x4, ex4⟩ : ∃ y : Int32, y = l2 + (1 : Int32) := ⟨_, rfl⟩
    replace h := gLetI ex4 h
    refine lv_iinc (v := x4) (lv' := [(2, .int x4), (0, .ref (gB Γ + k))]) hx hb dX5_dismiss_28 hl (k := 1) rfl (by rw [ex4]; rfl) (by decide) rfl (fun ls hl => ?_)
    refine lv_goto (tgt := 10) hx hb dX5_dismiss_31 (by decide) ?_
    exact hF10 _ _ _ _ _ h hP hS (lv_sub hl [1, 0] rfl)
set_option maxHeartbeats 2000000 in
set_option maxRecDepth 20000 in
theorem bk_X5_dismiss_10 {p : Program} {l : Launch} {e : Env} {s : State} {m : MethodId} {args : Array Value} {below : List Frame} {meth : Method} {c : Code} {Γ : gE} (C0 : gCx p s m args meth c Γ RX5 cX5_dismiss 3 (some .int)) {k : Nat} (hk : isSt k) {z : Int32 × gG}   : ∀ (n : Nat) (l2 : Int32) (g : gG) (H : Heap) (locs : List Loc) (ls : Array Slot), fb_X5_dismiss_10 k n l2 g = some z → va_P (gD Γ) gcls (lay Γ g) H → va_S (gA Γ) s.heap H locs → lv_has ls 3 [(0, .ref (gB Γ + k)), (2, .int l2)] → W p l e (gRm 2 40) s m args below meth c H locs 0 0 (MQ below (gQi Γ z) args s 0 0 (gA Γ)) (F0 m 10 ls []) := by
  intro n
  induction n with
  | zero => intro l2 g H locs ls h hP hS hl; cases h
  | succ n ih => intro l2 g H locs ls h hP hS hl; exact bs_X5_dismiss_10 C0 hk ih h hP hS hl
set_option maxHeartbeats 2000000 in
set_option maxRecDepth 20000 in
theorem m_X5_dismiss (l : Launch) (Γ : gE) {k : Nat} (hk : isSt k) (a1 : Int32) (g : gG) (z : Int32 × gG) (h : f_X5_dismiss k a1 g = some z) : gMi l yX5_dismiss cX5_dismiss 3 (some .int) 2 40 Γ [.ref (gB Γ + k), .int a1] g z := by
  unfold f_X5_dismiss at h
  refine gStart (own := RX5) (by decide +kernel) rfl (Nat.le_of_ble_eq_true rfl) ?_
  intro p e s m below meth c C0 ls hl hP
  have hS : va_S (gA Γ) s.heap s.heap [] := va_S.rf
  have hl : lv_has ls 3 [(0, .ref (gB Γ + k)), (1, .int a1)] := hl
  obtain ⟨hx, hb, hml, hr, hown, hts, hK, hlk, hX⟩ := id C0
  refine lv_aload_n hx hb dX5_dismiss_0 rfl (lv_at hl 0 rfl) ?_
  refine lv_iload_n hx hb dX5_dismiss_1 rfl (lv_at hl 1 rfl) ?_
  refine gCVi (rest := []) C0 cal_X5_hasTeam wl_X5_80 wi_X5_hasTeam ws_X5_hasTeam ⟨Nat.le_of_ble_eq_true rfl, Nat.le_of_ble_eq_true rfl⟩ ⟨Nat.le_of_ble_eq_true rfl, Nat.le_of_ble_eq_true rfl⟩ (grv_5 hk) [.int a1] rfl (Nat.le_of_ble_eq_true rfl) hP hS hl.1 dX5_dismiss_2 h (fun u hu => m_X5_hasTeam l Γ hk a1 g u hu) (fun u1 H locs h hP hS => ?_) rfl
  refine lv_if_eq (tgt := 44) hx hb dX5_dismiss_5 (by decide) (fun c2 => ?_) (fun c2 => ?_)
  · replace h := gpos c2 h
    refine lv_aload_n hx hb dX5_dismiss_44 rfl (lv_at hl 0 rfl) ?_
    refine gf_5_9 hx hb hown hts hK hP hk wf_X5_50 dX5_dismiss_45 ?_
    exact giret hx hb hr hlk hP hS dX5_dismiss_48 h
  · replace h := gneg c2 h
    refine lv_iload_n hx hb dX5_dismiss_8 rfl (lv_at hl 1 rfl) ?_
    refine lv_istore_n (lv' := [(2, .int a1), (0, .ref (gB Γ + k)), (1, .int a1)]) hx hb dX5_dismiss_9 rfl hl (by decide) rfl (fun ls hl => ?_)
    exact bk_X5_dismiss_10 C0 hk gFuel _ _ _ _ _ h hP hS (lv_sub hl [1, 0] rfl)
set_option maxHeartbeats 2000000 in
set_option maxRecDepth 20000 in
theorem m_X5_put (l : Launch) (Γ : gE) {k : Nat} (hk : isSt k) (a1 : Int32) (a2 : Int32) (a3 : Int32) (g : gG) (z : Int32 × gG) (h : f_X5_put k a1 a2 a3 g = some z) : gMi l yX5_put cX5_put 5 (some .int) 1 21 Γ [.ref (gB Γ + k), .int a1, .int a2, .int a3] g z := by
  unfold f_X5_put at h
  refine gStart (own := RX5) (by decide +kernel) rfl (Nat.le_of_ble_eq_true rfl) ?_
  intro p e s m below meth c C0 ls hl hP
  have hS : va_S (gA Γ) s.heap s.heap [] := va_S.rf
  have hl : lv_has ls 5 [(0, .ref (gB Γ + k)), (1, .int a1), (2, .int a2), (3, .int a3)] := hl
  obtain ⟨hx, hb, hml, hr, hown, hts, hK, hlk, hX⟩ := id C0
  refine lv_aload_n hx hb dX5_put_0 rfl (lv_at hl 0 rfl) ?_
  refine gf_5_0 hx hb hown hts hK hP hk wf_X5_33 dX5_put_1 ?_
  refine lv_iload_n hx hb dX5_put_4 rfl (lv_at hl 1 rfl) ?_
  refine gCVi (rest := []) C0 cal_X0_hasPlace wl_X5_106 wi_X0_hasPlace ws_X0_hasPlace ⟨Nat.le_of_ble_eq_true rfl, Nat.le_of_ble_eq_true rfl⟩ ⟨Nat.le_of_ble_eq_true rfl, Nat.le_of_ble_eq_true rfl⟩ grv_0 [.int a1] rfl (Nat.le_of_ble_eq_true rfl) hP hS hl.1 dX5_put_5 h (fun u hu => m_X0_hasPlace l Γ a1 g u hu) (fun u1 H locs h hP hS => ?_) rfl
  refine lv_if_ne (tgt := 14) hx hb dX5_put_8 (by decide) (fun c2 => ?_) (fun c2 => ?_)
  · replace h := gneg c2 h
    refine lv_bipush (v := 10) hx hb dX5_put_14 (by decide) ?_
    refine lv_aload_n hx hb dX5_put_16 rfl (lv_at hl 0 rfl) ?_
    refine gf_5_1 hx hb hown hts hK hP hk wf_X5_9 dX5_put_17 ?_
    refine lv_iload_n hx hb dX5_put_20 rfl (lv_at hl 1 rfl) ?_
    refine gIld hx hb hK hP (isSt_1 hk) dX5_put_21 h (fun h => ?_)
    refine lv_imul hx hb dX5_put_22 ?_
    refine lv_aload_n hx hb dX5_put_23 rfl (lv_at hl 0 rfl) ?_
    refine gf_5_2 hx hb hown hts hK hP hk wf_X5_15 dX5_put_24 ?_
    refine lv_iload_n hx hb dX5_put_27 rfl (lv_at hl 1 rfl) ?_
    refine gIld hx hb hK hP (isSt_2 hk) dX5_put_28 h (fun h => ?_)
    refine lv_iadd hx hb dX5_put_29 ?_
    refine lv_topi (fun x3 ex3 => ?_)
    replace h := gLetI ex3 h
    refine lv_istore (lv' := [(4, .int x3), (0, .ref (gB Γ + k)), (1, .int a1), (2, .int a2), (3, .int a3)]) hx hb dX5_put_30 hl (by decide) rfl (fun ls hl => ?_)
    refine lv_aload_n hx hb dX5_put_32 rfl (lv_at hl 1 rfl) ?_
    refine gf_5_1 hx hb hown hts hK hP hk wf_X5_9 dX5_put_33 ?_
    refine lv_iload_n hx hb dX5_put_36 rfl (lv_at hl 2 rfl) ?_
    refine lv_iload_n hx hb dX5_put_37 rfl (lv_at hl 3 rfl) ?_
    refine gIst hx hb hK hP hS (isSt_1 hk) dX5_put_38 h (fun H locs g4 h hP hS => ?_)
    refine lv_aload_n hx hb dX5_put_39 rfl (lv_at hl 1 rfl) ?_
    refine gf_5_2 hx hb hown hts hK hP hk wf_X5_15 dX5_put_40 ?_
    refine lv_iload_n hx hb dX5_put_43 rfl (lv_at hl 2 rfl) ?_
    refine lv_iload_n hx hb dX5_put_44 rfl (lv_at hl 4 rfl) ?_
    refine gIst hx hb hK hP hS (isSt_2 hk) dX5_put_45 h (fun H locs g5 h hP hS => ?_)
    refine lv_iload hx hb dX5_put_46 (lv_at hl 0 rfl) ?_
    exact giret hx hb hr hlk hP hS dX5_put_48 h
  · replace h := gpos c2 h
    refine lv_bipush (v := -9) hx hb dX5_put_11 (by decide) ?_
    exact giret hx hb hr hlk hP hS dX5_put_13 h
set_option maxHeartbeats 2000000 in
set_option maxRecDepth 20000 in
theorem m_X5_makeEasy (l : Launch) (Γ : gE) {k : Nat} (hk : isSt k) (a1 : Int32) (g : gG) (z : Unit × gG) (h : f_X5_makeEasy k a1 g = some z) : gMv l yX5_makeEasy cX5_makeEasy 2 none 1 21 Γ [.ref (gB Γ + k), .int a1] g z := by
  unfold f_X5_makeEasy at h
  refine gStart (own := RX5) (by decide +kernel) rfl (Nat.le_of_ble_eq_true rfl) ?_
  intro p e s m below meth c C0 ls hl hP
  have hS : va_S (gA Γ) s.heap s.heap [] := va_S.rf
  have hl : lv_has ls 2 [(0, .ref (gB Γ + k)), (1, .int a1)] := hl
  obtain ⟨hx, hb, hml, hr, hown, hts, hK, hlk, hX⟩ := id C0
  refine lv_aload_n hx hb dX5_makeEasy_0 rfl (lv_at hl 0 rfl) ?_
  refine gf_5_0 hx hb hown hts hK hP hk wf_X5_33 dX5_makeEasy_1 ?_
  refine lv_iload_n hx hb dX5_makeEasy_4 rfl (lv_at hl 1 rfl) ?_
  refine gCVi (rest := []) C0 cal_X0_hasPlace wl_X5_106 wi_X0_hasPlace ws_X0_hasPlace ⟨Nat.le_of_ble_eq_true rfl, Nat.le_of_ble_eq_true rfl⟩ ⟨Nat.le_of_ble_eq_true rfl, Nat.le_of_ble_eq_true rfl⟩ grv_0 [.int a1] rfl (Nat.le_of_ble_eq_true rfl) hP hS hl.1 dX5_makeEasy_5 h (fun u hu => m_X0_hasPlace l Γ a1 g u hu) (fun u1 H locs h hP hS => ?_) rfl
  refine lv_if_eq (tgt := 23) hx hb dX5_makeEasy_8 (by decide) (fun c2 => ?_) (fun c2 => ?_)
  · replace h := gpos c2 h
    exact gvret hx hb hr hlk hP hS dX5_makeEasy_23 h
  · replace h := gneg c2 h
    refine lv_aload_n hx hb dX5_makeEasy_11 rfl (lv_at hl 0 rfl) ?_
    refine lv_dup hx hb dX5_makeEasy_12 rfl ?_
    refine gf_5_8 hx hb hown hts hK hP hk wf_X5_46 dX5_makeEasy_13 ?_
    refine lv_iconst (v := 1) hx hb dX5_makeEasy_16 (by decide) ?_
    refine lv_iload_n hx hb dX5_makeEasy_17 rfl (lv_at hl 1 rfl) ?_
    refine lv_ishl hx hb dX5_makeEasy_18 ?_
    refine lv_ior hx hb dX5_makeEasy_19 ?_
    refine gp_5_8 hx hb hown hts hK hP hS hk wf_X5_46 dX5_makeEasy_20 h (fun H locs g3 h hP hS => ?_)
    exact gvret hx hb hr hlk hP hS dX5_makeEasy_23 h
set_option maxHeartbeats 2000000 in
set_option maxRecDepth 20000 in
theorem m_X1_isEmpty (l : Launch) (Γ : gE)    (g : gG) (z : Int32 × gG) (h : f_X1_isEmpty g = some z) : gMi l yX1_isEmpty cX1_isEmpty 1 (some .boolean) 0 0 Γ [.ref (gB Γ + 24)] g z := by
  unfold f_X1_isEmpty at h
  refine gStart (own := RX1) (by decide +kernel) rfl (Nat.le_of_ble_eq_true rfl) ?_
  intro p e s m below meth c C0 ls hl hP
  have hS : va_S (gA Γ) s.heap s.heap [] := va_S.rf
  have hl : lv_has ls 1 [(0, .ref (gB Γ + 24))] := hl
  obtain ⟨hx, hb, hml, hr, hown, hts, hK, hlk, hX⟩ := id C0
  refine lv_aload_n hx hb dX1_isEmpty_0 rfl (lv_at hl 0 rfl) ?_
  refine gf_1_2 hx hb hown hts hK hP wf_X1_20 dX1_isEmpty_1 ?_
  refine lv_if_ne (tgt := 11) hx hb dX1_isEmpty_4 (by decide) (fun c1 => ?_) (fun c1 => ?_)
  · replace h := gneg c1 h
    refine lv_iconst (v := 0) hx hb dX1_isEmpty_11 (by decide) ?_
    exact gzret0 hx hb hr hlk hP hS rfl dX1_isEmpty_12 h
  · replace h := gpos c1 h
    refine lv_iconst (v := 1) hx hb dX1_isEmpty_7 (by decide) ?_
    refine lv_goto (tgt := 12) hx hb dX1_isEmpty_8 (by decide) ?_
    exact gzret0 hx hb hr hlk hP hS rfl dX1_isEmpty_12 h
set_option maxHeartbeats 2000000 in
set_option maxRecDepth 20000 in
theorem m_X1_takeBack (l : Launch) (Γ : gE) {r1 : Nat} (hr1 : isSt r1)  (g : gG) (z : Int32 × gG) (h : f_X1_takeBack r1 g = some z) : gMi l yX1_takeBack cX1_takeBack 2 (some .int) 2 39 Γ [.ref (gB Γ + 24), .ref (gB Γ + r1)] g z := by
  unfold f_X1_takeBack at h
  refine gStart (own := RX1) (by decide +kernel) rfl (Nat.le_of_ble_eq_true rfl) ?_
  intro p e s m below meth c C0 ls hl hP
  have hS : va_S (gA Γ) s.heap s.heap [] := va_S.rf
  have hl : lv_has ls 2 [(0, .ref (gB Γ + 24)), (1, .ref (gB Γ + r1))] := hl
  obtain ⟨hx, hb, hml, hr, hown, hts, hK, hlk, hX⟩ := id C0
  refine lv_aload_n hx hb dX1_takeBack_0 rfl (lv_at hl 0 rfl) ?_
  refine gf_1_2 hx hb hown hts hK hP wf_X1_20 dX1_takeBack_1 ?_
  refine lv_if_le (tgt := 46) hx hb dX1_takeBack_4 (by decide) (fun c1 => ?_) (fun c1 => ?_)
  · replace h := gpos c1 h
    refine lv_aload_n hx hb dX1_takeBack_46 rfl (lv_at hl 0 rfl) ?_
    refine gf_1_2 hx hb hown hts hK hP wf_X1_20 dX1_takeBack_47 ?_
    exact giret hx hb hr hlk hP hS dX1_takeBack_50 h
  · replace h := gneg c1 h
    refine lv_aload_n hx hb dX1_takeBack_7 rfl (lv_at hl 0 rfl) ?_
    refine lv_aload_n hx hb dX1_takeBack_8 rfl (lv_at hl 0 rfl) ?_
    refine gf_1_1 hx hb hown hts hK hP wf_X1_24 dX1_takeBack_9 ?_
    refine lv_bipush (v := 14) hx hb dX1_takeBack_12 (by decide) ?_
    refine lv_iadd hx hb dX1_takeBack_14 ?_
    refine lv_iconst (v := 1) hx hb dX1_takeBack_15 (by decide) ?_
    refine lv_isub hx hb dX1_takeBack_16 ?_
    refine lv_bipush (v := 14) hx hb dX1_takeBack_17 (by decide) ?_
    refine lv_irem hx hb dX1_takeBack_19 (by decide) ?_
    refine gp_1_1 hx hb hown hts hK hP hS wf_X1_24 dX1_takeBack_20 h (fun H locs g2 h hP hS => ?_)
    refine lv_aload_n hx hb dX1_takeBack_23 rfl (lv_at hl 1 rfl) ?_
    refine lv_aload_n hx hb dX1_takeBack_24 rfl (lv_at hl 0 rfl) ?_
    refine gf_1_0 hx hb hown hts hK hP wf_X1_11 dX1_takeBack_25 ?_
    refine lv_aload_n hx hb dX1_takeBack_28 rfl (lv_at hl 0 rfl) ?_
    refine gf_1_1 hx hb hown hts hK hP wf_X1_24 dX1_takeBack_29 ?_
    refine gSld hx hb hK hP is_25 dX1_takeBack_32 h (fun c3 h => ?_)
    refine gCVv (rest := []) C0 cal_X5_copyFrom wl_X1_27 wi_X5_copyFrom ws_X5_copyFrom ⟨Nat.le_of_ble_eq_true rfl, Nat.le_of_ble_eq_true rfl⟩ ⟨Nat.le_of_ble_eq_true rfl, Nat.le_of_ble_eq_true rfl⟩ (grv_5 hr1) [.ref (gB Γ + (26 + 8 * (g2.1 24 1).toNatClampNeg))] rfl (Nat.le_of_ble_eq_true rfl) hP hS hl.1 dX1_takeBack_33 h (fun u hu => m_X5_copyFrom l Γ hr1 (isSt_ring (inb_lt c3)) g2 u hu) (fun u4 H locs h hP hS => ?_) rfl
    refine lv_aload_n hx hb dX1_takeBack_36 rfl (lv_at hl 0 rfl) ?_
    refine lv_dup hx hb dX1_takeBack_37 rfl ?_
    refine gf_1_2 hx hb hown hts hK hP wf_X1_20 dX1_takeBack_38 ?_
    refine lv_iconst (v := 1) hx hb dX1_takeBack_41 (by decide) ?_
    refine lv_isub hx hb dX1_takeBack_42 ?_
    refine gp_1_2 hx hb hown hts hK hP hS wf_X1_20 dX1_takeBack_43 h (fun H locs g5 h hP hS => ?_)
    refine lv_aload_n hx hb dX1_takeBack_46 rfl (lv_at hl 0 rfl) ?_
    refine gf_1_2 hx hb hown hts hK hP wf_X1_20 dX1_takeBack_47 ?_
    exact giret hx hb hr hlk hP hS dX1_takeBack_50 h
