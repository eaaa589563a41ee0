set_option maxHeartbeats 2000000 in
set_option maxRecDepth 20000 in
theorem m_X9_clearText (l : Launch) (Γ : gE)    (g : gG) (z : Int32 × gG) (h : f_X9_clearText g = some z) : gMi l yX9_clearText cX9_clearText 1 (some .int) 1 21 Γ [.ref (gB Γ + 0)] g z := by
  unfold f_X9_clearText at h
  refine gStart (own := RX9) (by decide +kernel) rfl (Nat.le_of_ble_eq_true rfl) ?_
  intro p e s m below meth c C0 ls hl hP
  have hS : va_S (gA Γ) s.heap s.heap [] := va_S.rf
  have hl : lv_has ls 1 [(0, .ref (gB Γ + 0))] := hl
  obtain ⟨hx, hb, hml, hr, hown, hts, hK, hlk, hX⟩ := id C0
  refine lv_aload_n hx hb dX9_clearText_0 rfl (lv_at hl 0 rfl) ?_
  refine gf_9_0 hx hb hown hts hK hP wf_X9_12 dX9_clearText_1 ?_
  refine gCVi (rest := []) C0 cal_X6_empty wl_X9_97 wi_X6_empty ws_X6_empty ⟨Nat.le_of_ble_eq_true rfl, Nat.le_of_ble_eq_true rfl⟩ ⟨Nat.le_of_ble_eq_true rfl, Nat.le_of_ble_eq_true rfl⟩ grv_6 [] rfl (Nat.le_of_ble_eq_true rfl) hP hS hl.1 dX9_clearText_4 h (fun u hu => m_X6_empty l Γ g u hu) (fun u1 H locs h hP hS => ?_) rfl
  exact giret hx hb hr hlk hP hS dX9_clearText_7 h
set_option maxHeartbeats 2000000 in
set_option maxRecDepth 20000 in
theorem m_X9_errorPosition (l : Launch) (Γ : gE)    (g : gG) (z : Int32 × gG) (h : f_X9_errorPosition g = some z) : gMi l yX9_errorPosition cX9_errorPosition 1 (some .int) 6 129 Γ [.ref (gB Γ + 0)] g z := by
  unfold f_X9_errorPosition at h
  refine gStart (own := RX9) (by decide +kernel) rfl (Nat.le_of_ble_eq_true rfl) ?_
  intro p e s m below meth c C0 ls hl hP
  have hS : va_S (gA Γ) s.heap s.heap [] := va_S.rf
  have hl : lv_has ls 1 [(0, .ref (gB Γ + 0))] := hl
  obtain ⟨hx, hb, hml, hr, hown, hts, hK, hlk, hX⟩ := id C0
  refine lv_aload_n hx hb dX9_errorPosition_0 rfl (lv_at hl 0 rfl) ?_
  refine gf_9_1 hx hb hown hts hK hP wf_X9_19 dX9_errorPosition_1 ?_
  refine lv_aload_n hx hb dX9_errorPosition_4 rfl (lv_at hl 0 rfl) ?_
  refine gf_9_0 hx hb hown hts hK hP wf_X9_12 dX9_errorPosition_5 ?_
  refine gCVi (rest := []) C0 cal_X2_errorIn wl_X9_101 wi_X2_errorIn ws_X2_errorIn ⟨Nat.le_of_ble_eq_true rfl, Nat.le_of_ble_eq_true rfl⟩ ⟨Nat.le_of_ble_eq_true rfl, Nat.le_of_ble_eq_true rfl⟩ grv_2 [.ref (gB Γ + 1)] rfl (Nat.le_of_ble_eq_true rfl) hP hS hl.1 dX9_errorPosition_8 h (fun u hu => m_X2_errorIn l Γ g u hu) (fun u1 H locs h hP hS => ?_) rfl
  exact giret hx hb hr hlk hP hS dX9_errorPosition_11 h
set_option maxHeartbeats 2000000 in
set_option maxRecDepth 20000 in
theorem bs_X8_spread_85 {p : Program} {l : Launch} {e : Env} {s : State} {m : MethodId} {args : Array Value} {below : List Frame} {meth : Method} {c : Code} {Γ : gE} (C0 : gCx p s m args meth c Γ RX8 cX8_spread 7 none)   {z : Unit × gG} {F41 : Int32 → Int32 → Int32 → gG → Option (Unit × gG)} {F85 : Int32 → Int32 → Int32 → Int32 → Int32 → gG → Option (Unit × gG)} {l2 : Int32} {l3 : Int32} {l4 : Int32} {l5 : Int32} {l6 : Int32} {g : gG} {H : Heap} {locs : List Loc} {ls : Array Slot} (hF41 : ∀ (l2 : Int32) (l3 : Int32) (l4 : Int32) (g : gG) (H : Heap) (locs : List Loc) (ls : Array Slot), F41 l2 l3 l4 g = some z → va_P (gD Γ) gcls (lay Γ g) H → va_S (gA Γ) s.heap H locs → lv_has ls 7 [(0, .ref (gB Γ + 156)), (2, .int l2), (3, .int l3), (4, .int l4)] → W p l e (gRm 1 23) s m args below meth c H locs 0 0 (MQ below (gQv Γ z) args s 0 0 (gA Γ)) (F0 m 41 ls [])) (hF85 : ∀ (l2 : Int32) (l3 : Int32) (l4 : Int32) (l5 : Int32) (l6 : Int32) (g : gG) (H : Heap) (locs : List Loc) (ls : Array Slot), F85 l2 l3 l4 l5 l6 g = some z → va_P (gD Γ) gcls (lay Γ g) H → va_S (gA Γ) s.heap H locs → lv_has ls 7 [(0, .ref (gB Γ + 156)), (2, .int l2), (3, .int l3), (4, .int l4), (5, .int l5), (6, .int l6)] → W p l e (gRm 1 23) s m args below meth c H locs 0 0 (MQ below (gQv Γ z) args s 0 0 (gA Γ)) (F0 m 85 ls [])) (h : fs_X8_spread_85 F41 F85 l2 l3 l4 l5 l6 g = some z) (hP : va_P (gD Γ) gcls (lay Γ g) H) (hS : va_S (gA Γ) s.heap H locs) (hl : lv_has ls 7 [(0, .ref (gB Γ + 156)), (2, .int l2), (3, .int l3), (4, .int l4), (5, .int l5), (6, .int l6)]) : W p l e (gRm 1 23) s m args below meth c H locs 0 0 (MQ below (gQv Γ z) args s 0 0 (gA Γ)) (F0 m 85 ls []) := by
  unfold fs_X8_spread_85 at h
  obtain ⟨hx, hb, hml, hr, hown, hts, hK, hlk, hX⟩ := id C0
  refine lv_iload hx hb dX8_spread_85 (lv_at hl 5 rfl) ?_
  refine lv_bipush (v := 10) hx hb dX8_spread_87 (by decide) ?_
  refine lv_icmp_ge (tgt := 121) hx hb dX8_spread_89 (by decide) (fun c1 => ?_) (fun c1 => ?_)
  · replace h := gpos c1 h
    obtain ⟨x2, ex2⟩ : ∃ y : Int32, y = l4 + (1 : Int32) := ⟨_, rfl⟩
    replace h := gLetI ex2 h
    refine lv_iinc (v := x2) (lv' := [(4, .int x2), (0, .ref (gB Γ + 156)), (2, .int l2), (3, .int l3), (5, .int l5), (6, .int l6)]) hx hb dX8_spread_121 hl (k := 3) rfl (by rw [ex2]; rfl) (by decide) rfl (fun ls hl => ?_)
    refine lv_goto (tgt := 41) hx hb dX8_spread_124 (by decide) ?_
    exact hF41 _ _ _ _ _ _ _ h hP hS (lv_sub hl [1, 2, 3, 0] rfl)
  · replace h := gneg c1 h
    refine lv_iload hx hb dX8_spread_92 (lv_at hl 4 rfl) ?_
    refine lv_iload hx hb dX8_spread_94 (lv_at hl 5 rfl) ?_
    refine lv_ishr hx hb dX8_spread_96 ?_
    refine lv_iconst (v := 1) hx hb dX8_spread_97 (by decide) ?_
    refine lv_iand hx hb dX8_spread_98 ?_
    refine lv_if_eq (tgt := 115) hx hb dX8_spread_99 (by decide) (fun c3 => ?_) (fun c3 => ?_)
    · replace h := gpos c3 h
      obtain ⟨x4, ex4⟩ : ∃ y : Int32, y = l6 + (1 : Int32) := ⟨_, rfl⟩
      replace h := gLetI ex4 h
      refine lv_iinc (v := x4) (lv' := [(6, .int x4), (0, .ref (gB Γ + 156)), (2, .int l2), (3, .int l3), (4, .int l4), (5, .int l5)]) hx hb dX8_spread_115 hl (k := 5) rfl (by rw [ex4]; rfl) (by decide) rfl (fun ls hl => ?_)
      refine lv_goto (tgt := 85) hx hb dX8_spread_118 (by decide) ?_
      exact hF85 _ _ _ _ _ _ _ _ _ h hP hS (lv_sub hl [1, 2, 3, 4, 5, 0] rfl)
    · replace h := gneg c3 h
      refine lv_aload_n hx hb dX8_spread_102 rfl (lv_at hl 0 rfl) ?_
      refine gf_8_1 hx hb hown hts hK hP wf_X8_9 dX8_spread_103 ?_
      refine lv_iload hx hb dX8_spread_106 (lv_at hl 3 rfl) ?_
      refine lv_iconst (v := 1) hx hb dX8_spread_108 (by decide) ?_
      refine lv_iload hx hb dX8_spread_109 (lv_at hl 5 rfl) ?_
      refine lv_ishl hx hb dX8_spread_111 ?_
      refine lv_ior hx hb dX8_spread_112 ?_
      refine lv_iconst (v := 0) hx hb dX8_spread_113 (by decide) ?_
      refine gIst hx hb hK hP hS is_157 dX8_spread_114 h (fun H locs g5 h hP hS => ?_)
      obtain ⟨x6, ex6⟩ : ∃ y : Int32, y = l6 + (1 : Int32) := ⟨_, rfl⟩
      replace h := gLetI ex6 h
      refine lv_iinc (v := x6) (lv' := [(6, .int x6), (0, .ref (gB Γ + 156)), (2, .int l2), (3, .int l3), (4, .int l4), (5, .int l5)]) hx hb dX8_spread_115 hl (k := 5) rfl (by rw [ex6]; rfl) (by decide) rfl (fun ls hl => ?_)
      refine lv_goto (tgt := 85) hx hb dX8_spread_118 (by decide) ?_
      exact hF85 _ _ _ _ _ _ _ _ _ h hP hS (lv_sub hl [1, 2, 3, 4, 5, 0] rfl)
set_option maxHeartbeats 2000000 in
set_option maxRecDepth 20000 in
theorem bk_X8_spread_85 {p : Program} {l : Launch} {e : Env} {s : State} {m : MethodId} {args : Array Value} {below : List Frame} {meth : Method} {c : Code} {Γ : gE} (C0 : gCx p s m args meth c Γ RX8 cX8_spread 7 none)   {z : Unit × gG} {F41 : Int32 → Int32 → Int32 → gG → Option (Unit × gG)} (hF41 : ∀ (l2 : Int32) (l3 : Int32) (l4 : Int32) (g : gG) (H : Heap) (locs : List Loc) (ls : Array Slot), F41 l2 l3 l4 g = some z → va_P (gD Γ) gcls (lay Γ g) H → va_S (gA Γ) s.heap H locs → lv_has ls 7 [(0, .ref (gB Γ + 156)), (2, .int l2), (3, .int l3), (4, .int l4)] → W p l e (gRm 1 23) s m args below meth c H locs 0 0 (MQ below (gQv Γ z) args s 0 0 (gA Γ)) (F0 m 41 ls [])) : ∀ (n : Nat) (l2 : Int32) (l3 : Int32) (l4 : Int32) (l5 : Int32) (l6 : Int32) (g : gG) (H : Heap) (locs : List Loc) (ls : Array Slot), fb_X8_spread_85 F41 n l2 l3 l4 l5 l6 g = some z → va_P (gD Γ) gcls (lay Γ g) H → va_S (gA Γ) s.heap H locs → lv_has ls 7 [(0, .ref (gB Γ + 156)), (2, .int l2), (3, .int l3), (4, .int l4), (5, .int l5), (6, .int l6)] → W p l e (gRm 1 23) s m args below meth c H locs 0 0 (MQ below (gQv Γ z) args s 0 0 (gA Γ)) (F0 m 85 ls []) := by
  intro n
  induction n with
  | zero => intro l2 l3 l4 l5 l6 g H locs ls h hP hS hl; cases h
  | succ n ih => intro l2 l3 l4 l5 l6 g H locs ls h hP hS hl; exact bs_X8_spread_85 C0 hF41 ih h hP hS hl
set_option maxHeartbeats 2000000 in
set_option maxRecDepth 20000 in
theorem bs_X8_spread_41 {p : Program} {l : Launch} {e : Env} {s : State} {m : MethodId} {args : Array Value} {below : List Frame} {meth : Method} {c : Code} {Γ : gE} (C0 : gCx p s m args meth c Γ RX8 cX8_spread 7 none)   {z : Unit × gG} {F41 : Int32 → Int32 → Int32 → gG → Option (Unit × gG)} {l2 : Int32} {l3 : Int32} {l4 : Int32} {g : gG} {H : Heap} {locs : List Loc} {ls : Array Slot} (hF41 : ∀ (l2 : Int32) (l3 : Int32) (l4 : Int32) (g : gG) (H : Heap) (locs : List Loc) (ls : Array Slot), F41 l2 l3 l4 g = some z → va_P (gD Γ) gcls (lay Γ g) H → va_S (gA Γ) s.heap H locs → lv_has ls 7 [(0, .ref (gB Γ + 156)), (2, .int l2), (3, .int l3), (4, .int l4)] → W p l e (gRm 1 23) s m args below meth c H locs 0 0 (MQ below (gQv Γ z) args s 0 0 (gA Γ)) (F0 m 41 ls [])) (h : fs_X8_spread_41 F41 l2 l3 l4 g = some z) (hP : va_P (gD Γ) gcls (lay Γ g) H) (hS : va_S (gA Γ) s.heap H locs) (hl : lv_has ls 7 [(0, .ref (gB Γ + 156)), (2, .int l2), (3, .int l3), (4, .int l4)]) : W p l e (gRm 1 23) s m args below meth c H locs 0 0 (MQ below (gQv Γ z) args s 0 0 (gA Γ)) (F0 m 41 ls []) := by
  unfold fs_X8_spread_41 at h
  obtain ⟨hx, hb, hml, hr, hown, hts, hK, hlk, hX⟩ := id C0
  refine lv_iload hx hb dX8_spread_41 (lv_at hl 3 rfl) ?_
  refine lv_iload_n hx hb dX8_spread_43 rfl (lv_at hl 2 rfl) ?_
  refine lv_icmp_gt (tgt := 127) hx hb dX8_spread_44 (by decide) (fun c1 => ?_) (fun c1 => ?_)
  · replace h := gpos c1 h
    exact gvret hx hb hr hlk hP hS dX8_spread_127 h
  · replace h := gneg c1 h
    refine lv_aload_n hx hb dX8_spread_47 rfl (lv_at hl 0 rfl) ?_
    refine gf_8_1 hx hb hown hts hK hP wf_X8_9 dX8_spread_48 ?_
    refine lv_iload hx hb dX8_spread_51 (lv_at hl 3 rfl) ?_
    refine gIld hx hb hK hP is_157 dX8_spread_53 h (fun h => ?_)
    refine lv_iconst (v := -1) hx hb dX8_spread_54 (by decide) ?_
    refine lv_icmp_ne (tgt := 61) hx hb dX8_spread_55 (by decide) (fun c2 => ?_) (fun c2 => ?_)
    · replace h := gneg c2 h
      refine lv_aload_n hx hb dX8_spread_61 rfl (lv_at hl 0 rfl) ?_
      refine gf_8_0 hx hb hown hts hK hP wf_X8_33 dX8_spread_62 ?_
      refine lv_iload hx hb dX8_spread_65 (lv_at hl 3 rfl) ?_
      refine lv_iload_n hx hb dX8_spread_67 rfl (lv_at hl 1 rfl) ?_
      refine gCVi (rest := []) C0 cal_X0_openAfter wl_X8_86 wi_X0_openAfter ws_X0_openAfter ⟨Nat.le_of_ble_eq_true rfl, Nat.le_of_ble_eq_true rfl⟩ ⟨Nat.le_of_ble_eq_true rfl, Nat.le_of_ble_eq_true rfl⟩ grv_0 [.int l4, .int l2] rfl (Nat.le_of_ble_eq_true rfl) hP hS hl.1 dX8_spread_68 h (fun u hu => m_X0_openAfter l Γ l4 l2 g u hu) (fun u3 H locs h hP hS => ?_) rfl
      refine lv_topi (fun x4 ex4 => ?_)
      replace h := gLetI ex4 h
      refine lv_istore (lv' := [(5, .int x4), (0, .ref (gB Γ + 156)), (2, .int l2), (3, .int l3), (4, .int l4)]) hx hb dX8_spread_71 hl (by decide) rfl (fun ls hl => ?_)
      refine lv_aload_n hx hb dX8_spread_73 rfl (lv_at hl 1 rfl) ?_
      refine gf_8_1 hx hb hown hts hK hP wf_X8_9 dX8_spread_74 ?_
      refine lv_iload hx hb dX8_spread_77 (lv_at hl 4 rfl) ?_
      refine lv_iload hx hb dX8_spread_79 (lv_at hl 0 rfl) ?_
      refine gIst hx hb hK hP hS is_157 dX8_spread_81 h (fun H locs g5 h hP hS => ?_)
      refine lv_iconst (v := 0) hx hb dX8_spread_82 (by decide) ?_
      refine lv_istore (lv' := [(6, .int (0 : Int32)), (5, .int x4), (0, .ref (gB Γ + 156)), (2, .int l2), (3, .int l3), (4, .int l4)]) hx hb dX8_spread_83 hl (by decide) rfl (fun ls hl => ?_)
      exact bk_X8_spread_85 C0 hF41 gFuel _ _ _ _ _ _ _ _ _ h hP hS (lv_sub hl [2, 3, 4, 5, 1, 0] rfl)
    · replace h := gpos c2 h
      refine lv_goto (tgt := 121) hx hb dX8_spread_58 (by decide) ?_
      obtain ⟨x6, ex6⟩ : ∃ y : Int32, y = l4 + (1 : Int32) := ⟨_, rfl⟩
      replace h := gLetI ex6 h
      refine lv_iinc (v := x6) (lv' := [(4, .int x6), (0, .ref (gB Γ + 156)), (2, .int l2), (3, .int l3)]) hx hb dX8_spread_121 hl (k := 3) rfl (by rw [ex6]; rfl) (by decide) rfl (fun ls hl => ?_)
      refine lv_goto (tgt := 41) hx hb dX8_spread_124 (by decide) ?_
      exact hF41 _ _ _ _ _ _ _ h hP hS (lv_sub hl [1, 2, 3, 0] rfl)
set_option maxHeartbeats 2000000 in
set_option maxRecDepth 20000 in
theorem bk_X8_spread_41 {p : Program} {l : Launch} {e : Env} {s : State} {m : MethodId} {args : Array Value} {below : List Frame} {meth : Method} {c : Code} {Γ : gE} (C0 : gCx p s m args meth c Γ RX8 cX8_spread 7 none)   {z : Unit × gG}   : ∀ (n : Nat) (l2 : Int32) (l3 : Int32) (l4 : Int32) (g : gG) (H : Heap) (locs : List Loc) (ls : Array Slot), fb_X8_spread_41 n l2 l3 l4 g = some z → va_P (gD Γ) gcls (lay Γ g) H → va_S (gA Γ) s.heap H locs → lv_has ls 7 [(0, .ref (gB Γ + 156)), (2, .int l2), (3, .int l3), (4, .int l4)] → W p l e (gRm 1 23) s m args below meth c H locs 0 0 (MQ below (gQv Γ z) args s 0 0 (gA Γ)) (F0 m 41 ls []) := by
  intro n
  induction n with
  | zero => intro l2 l3 l4 g H locs ls h hP hS hl; cases h
  | succ n ih => intro l2 l3 l4 g H locs ls h hP hS hl; exact bs_X8_spread_41 C0  ih h hP hS hl
set_option maxHeartbeats 2000000 in
set_option maxRecDepth 20000 in
theorem bs_X8_spread_11 {p : Program} {l : Launch} {e : Env} {s : State} {m : MethodId} {args : Array Value} {below : List Frame} {meth : Method} {c : Code} {Γ : gE} (C0 : gCx p s m args meth c Γ RX8 cX8_spread 7 none)   {z : Unit × gG} {F11 : Int32 → Int32 → Int32 → Int32 → gG → Option (Unit × gG)} {l1 : Int32} {l2 : Int32} {l3 : Int32} {l4 : Int32} {g : gG} {H : Heap} {locs : List Loc} {ls : Array Slot} (hF11 : ∀ (l1 : Int32) (l2 : Int32) (l3 : Int32) (l4 : Int32) (g : gG) (H : Heap) (locs : List Loc) (ls : Array Slot), F11 l1 l2 l3 l4 g = some z → va_P (gD Γ) gcls (lay Γ g) H → va_S (gA Γ) s.heap H locs → lv_has ls 7 [(0, .ref (gB Γ + 156)), (1, .int l1), (2, .int l2), (3, .int l3), (4, .int l4)] → W p l e (gRm 1 23) s m args below meth c H locs 0 0 (MQ below (gQv Γ z) args s 0 0 (gA Γ)) (F0 m 11 ls [])) (h : fs_X8_spread_11 F11 l1 l2 l3 l4 g = some z) (hP : va_P (gD Γ) gcls (lay Γ g) H) (hS : va_S (gA Γ) s.heap H locs) (hl : lv_has ls 7 [(0, .ref (gB Γ + 156)), (1, .int l1), (2, .int l2), (3, .int l3), (4, .int l4)]) : W p l e (gRm 1 23) s m args below meth c H locs 0 0 (MQ below (gQv Γ z) args s 0 0 (gA Γ)) (F0 m 11 ls []) := by
  unfold fs_X8_spread_11 at h
  obtain ⟨hx, hb, hml, hr, hown, hts, hK, hlk, hX⟩ := id C0
  refine lv_iload hx hb dX8_spread_11 (lv_at hl 4 rfl) ?_
  refine lv_iload_n hx hb dX8_spread_13 rfl (lv_at hl 3 rfl) ?_
  refine lv_icmp_gt (tgt := 31) hx hb dX8_spread_14 (by decide) (fun c1 => ?_) (fun c1 => ?_)
  · replace h := gpos c1 h
    refine lv_aload_n hx hb dX8_spread_31 rfl (lv_at hl 0 rfl) ?_
    refine gf_8_1 hx hb hown hts hK hP wf_X8_9 dX8_spread_32 ?_
    refine lv_iload_n hx hb dX8_spread_35 rfl (lv_at hl 1 rfl) ?_
    refine lv_iconst (v := 0) hx hb dX8_spread_36 (by decide) ?_
    refine gIst hx hb hK hP hS is_157 dX8_spread_37 h (fun H locs g2 h hP hS => ?_)
    refine lv_iload_n hx hb dX8_spread_38 rfl (lv_at hl 1 rfl) ?_
    refine lv_istore (lv' := [(4, .int l1), (0, .ref (gB Γ + 156)), (1, .int l1), (2, .int l2), (3, .int l3)]) hx hb dX8_spread_39 hl (by decide) rfl (fun ls hl => ?_)
    exact bk_X8_spread_41 C0  gFuel _ _ _ _ _ _ _ h hP hS (lv_sub hl [1, 3, 4, 0] rfl)
  · replace h := gneg c1 h
    refine lv_aload_n hx hb dX8_spread_17 rfl (lv_at hl 0 rfl) ?_
    refine gf_8_1 hx hb hown hts hK hP wf_X8_9 dX8_spread_18 ?_
    refine lv_iload hx hb dX8_spread_21 (lv_at hl 4 rfl) ?_
    refine lv_iconst (v := -1) hx hb dX8_spread_23 (by decide) ?_
    refine gIst hx hb hK hP hS is_157 dX8_spread_24 h (fun H locs g3 h hP hS => ?_)
    obtain ⟨x4, ex4⟩ : ∃ y : Int32, y = l4 + (1 : Int32) := ⟨_, rfl⟩
    replace h := gLetI ex4 h
    refine lv_iinc (v := x4) (lv' := [(4, .int x4), (0, .ref (gB Γ + 156)), (1, .int l1), (2, .int l2), (3, .int l3)]) hx hb dX8_spread_25 hl (k := 4) rfl (by rw [ex4]; rfl) (by decide) rfl (fun ls hl => ?_)
    refine lv_goto (tgt := 11) hx hb dX8_spread_28 (by decide) ?_
    exact hF11 _ _ _ _ _ _ _ _ h hP hS (lv_sub hl [1, 2, 3, 4, 0] rfl)
set_option maxHeartbeats 2000000 in
set_option maxRecDepth 20000 in
theorem bk_X8_spread_11 {p : Program} {l : Launch} {e : Env} {s : State} {m : MethodId} {args : Array Value} {below : List Frame} {meth : Method} {c : Code} {Γ : gE} (C0 : gCx p s m args meth c Γ RX8 cX8_spread 7 none)   {z : Unit × gG}   : ∀ (n : Nat) (l1 : Int32) (l2 : Int32) (l3 : Int32) (l4 : Int32) (g : gG) (H : Heap) (locs : List Loc) (ls : Array Slot), fb_X8_spread_11 n l1 l2 l3 l4 g = some z → va_P (gD Γ) gcls (lay Γ g) H → va_S (gA Γ) s.heap H locs → lv_has ls 7 [(0, .ref (gB Γ + 156)), (1, .int l1), (2, .int l2), (3, .int l3), (4, .int l4)] → W p l e (gRm 1 23) s m args below meth c H locs 0 0 (MQ below (gQv Γ z) args s 0 0 (gA Γ)) (F0 m 11 ls []) := by
  intro n
  induction n with
  | zero => intro l1 l2 l3 l4 g H locs ls h hP hS hl; cases h
  | succ n ih => intro l1 l2 l3 l4 g H locs ls h hP hS hl; exact bs_X8_spread_11 C0  ih h hP hS hl
set_option maxHeartbeats 2000000 in
set_option maxRecDepth 20000 in
theorem m_X8_spread (l : Launch) (Γ : gE)   (a1 : Int32) (a2 : Int32) (g : gG) (z : Unit × gG) (h : f_X8_spread a1 a2 g = some z) : gMv l yX8_spread cX8_spread 7 none 1 23 Γ [.ref (gB Γ + 156), .int a1, .int a2] g z := by
  unfold f_X8_spread at h
  refine gStart (own := RX8) (by decide +kernel) rfl (Nat.le_of_ble_eq_true rfl) ?_
  intro p e s m below meth c C0 ls hl hP
  have hS : va_S (gA Γ) s.heap s.heap [] := va_S.rf
  have hl : lv_has ls 7 [(0, .ref (gB Γ + 156)), (1, .int a1), (2, .int a2)] := hl
  obtain ⟨hx, hb, hml, hr, hown, hts, hK, hlk, hX⟩ := id C0
  refine lv_aload_n hx hb dX8_spread_0 rfl (lv_at hl 0 rfl) ?_
  refine gf_8_0 hx hb hown hts hK hP wf_X8_33 dX8_spread_1 ?_
  refine gCVi (rest := []) C0 cal_X0_allPlaces wl_X8_76 wi_X0_allPlaces ws_X0_allPlaces ⟨Nat.le_of_ble_eq_true rfl, Nat.le_of_ble_eq_true rfl⟩ ⟨Nat.le_of_ble_eq_true rfl, Nat.le_of_ble_eq_true rfl⟩ grv_0 [] rfl (Nat.le_of_ble_eq_true rfl) hP hS hl.1 dX8_spread_4 h (fun u hu => m_X0_allPlaces l Γ g u hu) (fun u1 H locs h hP hS => ?_) rfl
  refine lv_topi (fun x2 ex2 => ?_)
  replace h := gLetI ex2 h
  refine lv_istore_n (lv' := [(3, .int x2), (0, .ref (gB Γ + 156)), (1, .int a1), (2, .int a2)]) hx hb dX8_spread_7 rfl hl (by decide) rfl (fun ls hl => ?_)
  refine lv_iconst (v := 0) hx hb dX8_spread_8 (by decide) ?_
  refine lv_istore (lv' := [(4, .int (0 : Int32)), (3, .int x2), (0, .ref (gB Γ + 156)), (1, .int a1), (2, .int a2)]) hx hb dX8_spread_9 hl (by decide) rfl (fun ls hl => ?_)
  exact bk_X8_spread_11 C0  gFuel _ _ _ _ _ _ _ _ h hP hS (lv_sub hl [2, 3, 4, 1, 0] rfl)
set_option maxHeartbeats 2000000 in
set_option maxRecDepth 20000 in
theorem bs_X8_weigh_118 {p : Program} {l : Launch} {e : Env} {s : State} {m : MethodId} {args : Array Value} {below : List Frame} {meth : Method} {c : Code} {Γ : gE} (C0 : gCx p s m args meth c Γ RX8 cX8_weigh 10 none)   {z : Unit × gG} {F53 : Int32 → Int32 → Int32 → Int32 → Int32 → Int32 → Int32 → gG → Option (Unit × gG)} {l1 : Int32} {l3 : Int32} {l4 : Int32} {l5 : Int32} {l7 : Int32} {l8 : Int32} {l9 : Int32} {s0 : Int32} {g : gG} {H : Heap} {locs : List Loc} {ls : Array Slot} (hF53 : ∀ (l1 : Int32) (l3 : Int32) (l4 : Int32) (l5 : Int32) (l6 : Int32) (l7 : Int32) (l8 : Int32) (g : gG) (H : Heap) (locs : List Loc) (ls : Array Slot), F53 l1 l3 l4 l5 l6 l7 l8 g = some z → va_P (gD Γ) gcls (lay Γ g) H → va_S (gA Γ) s.heap H locs → lv_has ls 10 [(0, .ref (gB Γ + 156)), (1, .int l1), (3, .int l3), (4, .int l4), (5, .int l5), (6, .int l6), (7, .int l7), (8, .int l8)] → W p l e (gRm 1 21) s m args below meth c H locs 0 0 (MQ below (gQv Γ z) args s 0 0 (gA Γ)) (F0 m 53 ls [])) (h : fs_X8_weigh_118 F53 l1 l3 l4 l5 l7 l8 l9 s0 g = some z) (hP : va_P (gD Γ) gcls (lay Γ g) H) (hS : va_S (gA Γ) s.heap H locs) (hl : lv_has ls 10 [(0, .ref (gB Γ + 156)), (1, .int l1), (3, .int l3), (4, .int l4), (5, .int l5), (7, .int l7), (8, .int l8), (9, .int l9)]) : W p l e (gRm 1 21) s m args below meth c H locs 0 0 (MQ below (gQv Γ z) args s 0 0 (gA Γ)) (F0 m 118 ls [.int s0]) := by
  unfold fs_X8_weigh_118 at h
  obtain ⟨hx, hb, hml, hr, hown, hts, hK, hlk, hX⟩ := id C0
  refine lv_istore (lv' := [(6, .int s0), (0, .ref (gB Γ + 156)), (1, .int l1), (3, .int l3), (4, .int l4), (5, .int l5), (7, .int l7), (8, .int l8), (9, .int l9)]) hx hb dX8_weigh_118 hl (by decide) rfl (fun ls hl => ?_)
  refine lv_iload hx hb dX8_weigh_120 (lv_at hl 4 rfl) ?_
  refine lv_iconst (v := 1) hx hb dX8_weigh_122 (by decide) ?_
  refine lv_iload hx hb dX8_weigh_123 (lv_at hl 7 rfl) ?_
  refine lv_ishl hx hb dX8_weigh_125 ?_
  refine lv_ior hx hb dX8_weigh_126 ?_
  refine lv_topi (fun x1 ex1 => ?_)
  replace h := gLetI ex1 h
  refine lv_istore (lv' := [(4, .int x1), (6, .int s0), (0, .ref (gB Γ + 156)), (1, .int l1), (3, .int l3), (5, .int l5), (7, .int l7), (8, .int l8), (9, .int l9)]) hx hb dX8_weigh_127 hl (by decide) rfl (fun ls hl => ?_)
  refine lv_iload hx hb dX8_weigh_129 (lv_at hl 5 rfl) ?_
  refine lv_aload_n hx hb dX8_weigh_131 rfl (lv_at hl 2 rfl) ?_
  refine gf_8_3 hx hb hown hts hK hP wf_X8_18 dX8_weigh_132 ?_
  refine lv_iload hx hb dX8_weigh_135 (lv_at hl 8 rfl) ?_
  refine gIld hx hb hK hP is_159 dX8_weigh_137 h (fun h => ?_)
  refine lv_iadd hx hb dX8_weigh_138 ?_
  refine lv_topi (fun x2 ex2 => ?_)
  replace h := gLetI ex2 h
  refine lv_istore (lv' := [(5, .int x2), (4, .int x1), (6, .int s0), (0, .ref (gB Γ + 156)), (1, .int l1), (3, .int l3), (7, .int l7), (8, .int l8), (9, .int l9)]) hx hb dX8_weigh_139 hl (by decide) rfl (fun ls hl => ?_)
  refine lv_iload hx hb dX8_weigh_141 (lv_at hl 6 rfl) ?_
  refine lv_aload_n hx hb dX8_weigh_143 rfl (lv_at hl 3 rfl) ?_
  refine gf_8_5 hx hb hown hts hK hP wf_X8_24 dX8_weigh_144 ?_
  refine lv_iload hx hb dX8_weigh_147 (lv_at hl 8 rfl) ?_
  refine gIld hx hb hK hP is_161 dX8_weigh_149 h (fun h => ?_)
  refine lv_iconst (v := 1) hx hb dX8_weigh_150 (by decide) ?_
  refine lv_iload hx hb dX8_weigh_151 (lv_at hl 7 rfl) ?_
  refine lv_ishl hx hb dX8_weigh_153 ?_
  refine lv_ior hx hb dX8_weigh_154 ?_
  refine lv_iand hx hb dX8_weigh_155 ?_
  refine lv_topi (fun x3 ex3 => ?_)
  replace h := gLetI ex3 h
  refine lv_istore (lv' := [(7, .int x3), (5, .int x2), (4, .int x1), (6, .int s0), (0, .ref (gB Γ + 156)), (1, .int l1), (3, .int l3), (8, .int l8), (9, .int l9)]) hx hb dX8_weigh_156 hl (by decide) rfl (fun ls hl => ?_)
  obtain ⟨x4, ex4⟩ : ∃ y : Int32, y = l8 + (1 : Int32) := ⟨_, rfl⟩
  replace h := gLetI ex4 h
  refine lv_iinc (v := x4) (lv' := [(8, .int x4), (7, .int x3), (5, .int x2), (4, .int x1), (6, .int s0), (0, .ref (gB Γ + 156)), (1, .int l1), (3, .int l3), (9, .int l9)]) hx hb dX8_weigh_158 hl (k := 7) rfl (by rw [ex4]; rfl) (by decide) rfl (fun ls hl => ?_)
  refine lv_goto (tgt := 53) hx hb dX8_weigh_161 (by decide) ?_
  exact hF53 _ _ _ _ _ _ _ _ _ _ _ h hP hS (lv_sub hl [5, 6, 7, 3, 2, 4, 1, 0] rfl)
set_option maxHeartbeats 2000000 in
set_option maxRecDepth 20000 in
theorem bs_X8_weigh_53 {p : Program} {l : Launch} {e : Env} {s : State} {m : MethodId} {args : Array Value} {below : List Frame} {meth : Method} {c : Code} {Γ : gE} (C0 : gCx p s m args meth c Γ RX8 cX8_weigh 10 none)   {z : Unit × gG} {F53 : Int32 → Int32 → Int32 → Int32 → Int32 → Int32 → Int32 → gG → Option (Unit × gG)} {l1 : Int32} {l3 : Int32} {l4 : Int32} {l5 : Int32} {l6 : Int32} {l7 : Int32} {l8 : Int32} {g : gG} {H : Heap} {locs : List Loc} {ls : Array Slot} (hF53 : ∀ (l1 : Int32) (l3 : Int32) (l4 : Int32) (l5 : Int32) (l6 : Int32) (l7 : Int32) (l8 : Int32) (g : gG) (H : Heap) (locs : List Loc) (ls : Array Slot), F53 l1 l3 l4 l5 l6 l7 l8 g = some z → va_P (gD Γ) gcls (lay Γ g) H → va_S (gA Γ) s.heap H locs → lv_has ls 10 [(0, .ref (gB Γ + 156)), (1, .int l1), (3, .int l3), (4, .int l4), (5, .int l5), (6, .int l6), (7, .int l7), (8, .int l8)] → W p l e (gRm 1 21) s m args below meth c H locs 0 0 (MQ below (gQv Γ z) args s 0 0 (gA Γ)) (F0 m 53 ls [])) (h : fs_X8_weigh_53 F53 l1 l3 l4 l5 l6 l7 l8 g = some z) (hP : va_P (gD Γ) gcls (lay Γ g) H) (hS : va_S (gA Γ) s.heap H locs) (hl : lv_has ls 10 [(0, .ref (gB Γ + 156)), (1, .int l1), (3, .int l3), (4, .int l4), (5, .int l5), (6, .int l6), (7, .int l7), (8, .int l8)]) : W p l e (gRm 1 21) s m args below meth c H locs 0 0 (MQ below (gQv Γ z) args s 0 0 (gA Γ)) (F0 m 53 ls []) := by
  unfold fs_X8_weigh_53 at h
  obtain ⟨hx, hb, hml, hr, hown, hts, hK, hlk, hX⟩ := id C0
  refine lv_iload hx hb dX8_weigh_53 (lv_at hl 7 rfl) ?_
  refine lv_bipush (v := 10) hx hb dX8_weigh_55 (by decide) ?_
  refine lv_icmp_ge (tgt := 164) hx hb dX8_weigh_57 (by decide) (fun c1 => ?_) (fun c1 => ?_)
  · replace h := gpos c1 h
    refine lv_aload_n hx hb dX8_weigh_164 rfl (lv_at hl 0 rfl) ?_
    refine gf_8_2 hx hb hown hts hK hP wf_X8_15 dX8_weigh_165 ?_
    refine lv_iload_n hx hb dX8_weigh_168 rfl (lv_at hl 1 rfl) ?_
    refine lv_iload hx hb dX8_weigh_169 (lv_at hl 3 rfl) ?_
    refine gIst hx hb hK hP hS is_158 dX8_weigh_171 h (fun H locs g2 h hP hS => ?_)
    refine lv_aload_n hx hb dX8_weigh_172 rfl (lv_at hl 0 rfl) ?_
    refine gf_8_3 hx hb hown hts hK hP wf_X8_18 dX8_weigh_173 ?_
    refine lv_iload_n hx hb dX8_weigh_176 rfl (lv_at hl 1 rfl) ?_
    refine lv_iload hx hb dX8_weigh_177 (lv_at hl 4 rfl) ?_
    refine gIst hx hb hK hP hS is_159 dX8_weigh_179 h (fun H locs g3 h hP hS => ?_)
    refine lv_aload_n hx hb dX8_weigh_180 rfl (lv_at hl 0 rfl) ?_
    refine gf_8_4 hx hb hown hts hK hP wf_X8_21 dX8_weigh_181 ?_
    refine lv_iload_n hx hb dX8_weigh_184 rfl (lv_at hl 1 rfl) ?_
    refine lv_iload hx hb dX8_weigh_185 (lv_at hl 5 rfl) ?_
    refine gIst hx hb hK hP hS is_160 dX8_weigh_187 h (fun H locs g4 h hP hS => ?_)
    refine lv_aload_n hx hb dX8_weigh_188 rfl (lv_at hl 0 rfl) ?_
    refine gf_8_5 hx hb hown hts hK hP wf_X8_24 dX8_weigh_189 ?_
    refine lv_iload_n hx hb dX8_weigh_192 rfl (lv_at hl 1 rfl) ?_
    refine lv_iload hx hb dX8_weigh_193 (lv_at hl 6 rfl) ?_
    refine gIst hx hb hK hP hS is_161 dX8_weigh_195 h (fun H locs g5 h hP hS => ?_)
    exact gvret hx hb hr hlk hP hS dX8_weigh_196 h
  · replace h := gneg c1 h
    refine lv_iload_n hx hb dX8_weigh_60 rfl (lv_at hl 1 rfl) ?_
    refine lv_iconst (v := 1) hx hb dX8_weigh_61 (by decide) ?_
    refine lv_iload hx hb dX8_weigh_62 (lv_at hl 7 rfl) ?_
    refine lv_ishl hx hb dX8_weigh_64 ?_
    refine lv_ior hx hb dX8_weigh_65 ?_
    refine lv_topi (fun x6 ex6 => ?_)
    replace h := gLetI ex6 h
    refine lv_istore (lv' := [(9, .int x6), (0, .ref (gB Γ + 156)), (1, .int l1), (3, .int l3), (4, .int l4), (5, .int l5), (6, .int l6), (7, .int l7), (8, .int l8)]) hx hb dX8_weigh_66 hl (by decide) rfl (fun ls hl => ?_)
    refine lv_iload_n hx hb dX8_weigh_68 rfl (lv_at hl 3 rfl) ?_
    refine lv_iload hx hb dX8_weigh_69 (lv_at hl 8 rfl) ?_
    refine lv_ishr hx hb dX8_weigh_71 ?_
    refine lv_iconst (v := 1) hx hb dX8_weigh_72 (by decide) ?_
    refine lv_iand hx hb dX8_weigh_73 ?_
    refine lv_if_eq (tgt := 158) hx hb dX8_weigh_74 (by decide) (fun c7 => ?_) (fun c7 => ?_)
    · replace h := gpos c7 h
      obtain ⟨x8, ex8⟩ : ∃ y : Int32, y = l8 + (1 : Int32) := ⟨_, rfl⟩
      replace h := gLetI ex8 h
      refine lv_iinc (v := x8) (lv' := [(8, .int x8), (9, .int x6), (0, .ref (gB Γ + 156)), (1, .int l1), (3, .int l3), (4, .int l4), (5, .int l5), (6, .int l6), (7, .int l7)]) hx hb dX8_weigh_158 hl (k := 8) rfl (by rw [ex8]; rfl) (by decide) rfl (fun ls hl => ?_)
      refine lv_goto (tgt := 53) hx hb dX8_weigh_161 (by decide) ?_
      exact hF53 _ _ _ _ _ _ _ _ _ _ _ h hP hS (lv_sub hl [2, 3, 4, 5, 6, 7, 8, 0] rfl)
    · replace h := gneg c7 h
      refine lv_aload_n hx hb dX8_weigh_77 rfl (lv_at hl 1 rfl) ?_
      refine gf_8_3 hx hb hown hts hK hP wf_X8_18 dX8_weigh_78 ?_
      refine lv_iload hx hb dX8_weigh_81 (lv_at hl 0 rfl) ?_
      refine gIld hx hb hK hP is_159 dX8_weigh_83 h (fun h => ?_)
      refine lv_if_le (tgt := 158) hx hb dX8_weigh_84 (by decide) (fun c9 => ?_) (fun c9 => ?_)
      · replace h := gpos c9 h
        obtain ⟨x10, ex10⟩ : ∃ y : Int32, y = l8 + (1 : Int32) := ⟨_, rfl⟩
        replace h := gLetI ex10 h
        refine lv_iinc (v := x10) (lv' := [(8, .int x10), (9, .int x6), (0, .ref (gB Γ + 156)), (1, .int l1), (3, .int l3), (4, .int l4), (5, .int l5), (6, .int l6), (7, .int l7)]) hx hb dX8_weigh_158 hl (k := 8) rfl (by rw [ex10]; rfl) (by decide) rfl (fun ls hl => ?_)
        refine lv_goto (tgt := 53) hx hb dX8_weigh_161 (by decide) ?_
        exact hF53 _ _ _ _ _ _ _ _ _ _ _ h hP hS (lv_sub hl [2, 3, 4, 5, 6, 7, 8, 0] rfl)
      · replace h := gneg c9 h
        refine lv_iload hx hb dX8_weigh_87 (lv_at hl 4 rfl) ?_
        refine lv_if_ne (tgt := 104) hx hb dX8_weigh_89 (by decide) (fun c11 => ?_) (fun c11 => ?_)
        · replace h := gneg c11 h
          refine lv_iload hx hb dX8_weigh_104 (lv_at hl 6 rfl) ?_
          refine lv_aload_n hx hb dX8_weigh_106 rfl (lv_at hl 1 rfl) ?_
          refine gf_8_4 hx hb hown hts hK hP wf_X8_21 dX8_weigh_107 ?_
          refine lv_iload hx hb dX8_weigh_110 (lv_at hl 0 rfl) ?_
          refine gIld hx hb hK hP is_160 dX8_weigh_112 h (fun h => ?_)
          refine lv_iconst (v := 1) hx hb dX8_weigh_113 (by decide) ?_
          refine lv_iadd hx hb dX8_weigh_114 ?_
          refine va_mmin (rest := []) hx hb (hml.trans hl.1.symm) hown (hts _ wl_X8_93) (hts _ wst_min) (hts _ wn_Math) (hts _ wc_min) (Nat.le_of_ble_eq_true rfl) (Nat.le_of_ble_eq_true rfl) (Nat.le_of_ble_eq_true rfl) (Nat.le_of_ble_eq_true rfl) dX8_weigh_115 ?_
          exact bs_X8_weigh_118 C0 hF53 h hP hS (lv_sub hl [1, 2, 3, 4, 5, 7, 8, 0] rfl)
        · replace h := gpos c11 h
          refine lv_aload_n hx hb dX8_weigh_92 rfl (lv_at hl 1 rfl) ?_
          refine gf_8_4 hx hb hown hts hK hP wf_X8_21 dX8_weigh_93 ?_
          refine lv_iload hx hb dX8_weigh_96 (lv_at hl 0 rfl) ?_
          refine gIld hx hb hK hP is_160 dX8_weigh_98 h (fun h => ?_)
          refine lv_iconst (v := 1) hx hb dX8_weigh_99 (by decide) ?_
          refine lv_iadd hx hb dX8_weigh_100 ?_
          refine lv_goto (tgt := 118) hx hb dX8_weigh_101 (by decide) ?_
          exact bs_X8_weigh_118 C0 hF53 h hP hS (lv_sub hl [1, 2, 3, 4, 5, 7, 8, 0] rfl)
set_option maxHeartbeats 2000000 in
set_option maxRecDepth 20000 in
theorem bk_X8_weigh_53 {p : Program} {l : Launch} {e : Env} {s : State} {m : MethodId} {args : Array Value} {below : List Frame} {meth : Method} {c : Code} {Γ : gE} (C0 : gCx p s m args meth c Γ RX8 cX8_weigh 10 none)   {z : Unit × gG}   : ∀ (n : Nat) (l1 : Int32) (l3 : Int32) (l4 : Int32) (l5 : Int32) (l6 : Int32) (l7 : Int32) (l8 : Int32) (g : gG) (H : Heap) (locs : List Loc) (ls : Array Slot), fb_X8_weigh_53 n l1 l3 l4 l5 l6 l7 l8 g = some z → va_P (gD Γ) gcls (lay Γ g) H → va_S (gA Γ) s.heap H locs → lv_has ls 10 [(0, .ref (gB Γ + 156)), (1, .int l1), (3, .int l3), (4, .int l4), (5, .int l5), (6, .int l6), (7, .int l7), (8, .int l8)] → W p l e (gRm 1 21) s m args below meth c H locs 0 0 (MQ below (gQv Γ z) args s 0 0 (gA Γ)) (F0 m 53 ls []) := by
  intro n
  induction n with
  | zero => intro l1 l3 l4 l5 l6 l7 l8 g H locs ls h hP hS hl; cases h
  | succ n ih => intro l1 l3 l4 l5 l6 l7 l8 g H locs ls h hP hS hl; exact bs_X8_weigh_53 C0  ih h hP hS hl
set_option maxHeartbeats 2000000 in
set_option maxRecDepth 20000 in
theorem bs_X8_weigh_48 {p : Program} {l : Launch} {e : Env} {s : State} {m : MethodId} {args : Array Value} {below : List Frame} {meth : Method} {c : Code} {Γ : gE} (C0 : gCx p s m args meth c Γ RX8 cX8_weigh 10 none)   {z : Unit × gG}  {l1 : Int32} {l3 : Int32} {l4 : Int32} {l5 : Int32} {l6 : Int32} {s0 : Int32} {g : gG} {H : Heap} {locs : List Loc} {ls : Array Slot}  (h : fs_X8_weigh_48 l1 l3 l4 l5 l6 s0 g = some z) (hP : va_P (gD Γ) gcls (lay Γ g) H) (hS : va_S (gA Γ) s.heap H locs) (hl : lv_has ls 10 [(0, .ref (gB Γ + 156)), (1, .int l1), (3, .int l3), (4, .int l4), (5, .int l5), (6, .int l6)]) : W p l e (gRm 1 21) s m args below meth c H locs 0 0 (MQ below (gQv Γ z) args s 0 0 (gA Γ)) (F0 m 48 ls [.int s0]) := by
  unfold fs_X8_weigh_48 at h
  obtain ⟨hx, hb, hml, hr, hown, hts, hK, hlk, hX⟩ := id C0
  refine lv_istore (lv' := [(7, .int s0), (0, .ref (gB Γ + 156)), (1, .int l1), (3, .int l3), (4, .int l4), (5, .int l5), (6, .int l6)]) hx hb dX8_weigh_48 hl (by decide) rfl (fun ls hl => ?_)
  refine lv_iconst (v := 0) hx hb dX8_weigh_50 (by decide) ?_
  refine lv_istore (lv' := [(8, .int (0 : Int32)), (7, .int s0), (0, .ref (gB Γ + 156)), (1, .int l1), (3, .int l3), (4, .int l4), (5, .int l5), (6, .int l6)]) hx hb dX8_weigh_51 hl (by decide) rfl (fun ls hl => ?_)
  exact bk_X8_weigh_53 C0  gFuel _ _ _ _ _ _ _ _ _ _ _ h hP hS (lv_sub hl [2, 3, 4, 5, 6, 7, 1, 0] rfl)
set_option maxHeartbeats 2000000 in
set_option maxRecDepth 20000 in
theorem bs_X8_weigh_28 {p : Program} {l : Launch} {e : Env} {s : State} {m : MethodId} {args : Array Value} {below : List Frame} {meth : Method} {c : Code} {Γ : gE} (C0 : gCx p s m args meth c Γ RX8 cX8_weigh 10 none)   {z : Unit × gG}  {l1 : Int32} {l2 : Int32} {l3 : Int32} {l4 : Int32} {s0 : Int32} {g : gG} {H : Heap} {locs : List Loc} {ls : Array Slot}  (h : fs_X8_weigh_28 l1 l2 l3 l4 s0 g = some z) (hP : va_P (gD Γ) gcls (lay Γ g) H) (hS : va_S (gA Γ) s.heap H locs) (hl : lv_has ls 10 [(0, .ref (gB Γ + 156)), (1, .int l1), (2, .int l2), (3, .int l3), (4, .int l4)]) : W p l e (gRm 1 21) s m args below meth c H locs 0 0 (MQ below (gQv Γ z) args s 0 0 (gA Γ)) (F0 m 28 ls [.int s0]) := by
  unfold fs_X8_weigh_28 at h
  obtain ⟨hx, hb, hml, hr, hown, hts, hK, hlk, hX⟩ := id C0
  refine lv_istore (lv' := [(5, .int s0), (0, .ref (gB Γ + 156)), (1, .int l1), (2, .int l2), (3, .int l3), (4, .int l4)]) hx hb dX8_weigh_28 hl (by decide) rfl (fun ls hl => ?_)
  refine lv_iconst (v := 0) hx hb dX8_weigh_30 (by decide) ?_
  refine lv_istore (lv' := [(6, .int (0 : Int32)), (5, .int s0), (0, .ref (gB Γ + 156)), (1, .int l1), (2, .int l2), (3, .int l3), (4, .int l4)]) hx hb dX8_weigh_31 hl (by decide) rfl (fun ls hl => ?_)
  refine lv_iload_n hx hb dX8_weigh_33 rfl (lv_at hl 4 rfl) ?_
  refine lv_if_eq (tgt := 41) hx hb dX8_weigh_34 (by decide) (fun c1 => ?_) (fun c1 => ?_)
  · replace h := gpos c1 h
    refine lv_aload_n hx hb dX8_weigh_41 rfl (lv_at hl 2 rfl) ?_
    refine gf_8_0 hx hb hown hts hK hP wf_X8_33 dX8_weigh_42 ?_
    refine gCVi (rest := []) C0 cal_X0_allPlaces wl_X8_76 wi_X0_allPlaces ws_X0_allPlaces ⟨Nat.le_of_ble_eq_true rfl, Nat.le_of_ble_eq_true rfl⟩ ⟨Nat.le_of_ble_eq_true rfl, Nat.le_of_ble_eq_true rfl⟩ grv_0 [] rfl (Nat.le_of_ble_eq_true rfl) hP hS hl.1 dX8_weigh_45 h (fun u hu => m_X0_allPlaces l Γ g u hu) (fun u2 H locs h hP hS => ?_) rfl
    exact bs_X8_weigh_48 C0  h hP hS (lv_sub hl [2, 3, 5, 6, 1, 0] rfl)
  · replace h := gneg c1 h
    refine lv_iconst (v := 0) hx hb dX8_weigh_37 (by decide) ?_
    refine lv_goto (tgt := 48) hx hb dX8_weigh_38 (by decide) ?_
    exact bs_X8_weigh_48 C0  h hP hS (lv_sub hl [2, 3, 5, 6, 1, 0] rfl)
set_option maxHeartbeats 2000000 in
set_option maxRecDepth 20000 in
theorem m_X8_weigh (l : Launch) (Γ : gE)   (a1 : Int32) (g : gG) (z : Unit × gG) (h : f_X8_weigh a1 g = some z) : gMv l yX8_weigh cX8_weigh 10 none 1 21 Γ [.ref (gB Γ + 156), .int a1] g z := by
  unfold f_X8_weigh at h
  refine gStart (own := RX8) (by decide +kernel) rfl (Nat.le_of_ble_eq_true rfl) ?_
  intro p e s m below meth c C0 ls hl hP
  have hS : va_S (gA Γ) s.heap s.heap [] := va_S.rf
  have hl : lv_has ls 10 [(0, .ref (gB Γ + 156)), (1, .int a1)] := hl
  obtain ⟨hx, hb, hml, hr, hown, hts, hK, hlk, hX⟩ := id C0
  refine lv_aload_n hx hb dX8_weigh_0 rfl (lv_at hl 0 rfl) ?_
  refine gf_8_0 hx hb hown hts hK hP wf_X8_33 dX8_weigh_1 ?_
  refine lv_iload_n hx hb dX8_weigh_4 rfl (lv_at hl 1 rfl) ?_
  refine gCVi (rest := []) C0 cal_X0_hasChest wl_X8_89 wi_X0_hasChest ws_X0_hasChest ⟨Nat.le_of_ble_eq_true rfl, Nat.le_of_ble_eq_true rfl⟩ ⟨Nat.le_of_ble_eq_true rfl, Nat.le_of_ble_eq_true rfl⟩ grv_0 [.int a1] rfl (Nat.le_of_ble_eq_true rfl) hP hS hl.1 dX8_weigh_5 h (fun u hu => m_X0_hasChest l Γ a1 g u hu) (fun u1 H locs h hP hS => ?_) rfl
  refine lv_topi (fun x2 ex2 => ?_)
  replace h := gLetI ex2 h
  refine lv_istore_n (lv' := [(2, .int x2), (0, .ref (gB Γ + 156)), (1, .int a1)]) hx hb dX8_weigh_8 rfl hl (by decide) rfl (fun ls hl => ?_)
  refine lv_aload_n hx hb dX8_weigh_9 rfl (lv_at hl 1 rfl) ?_
  refine gf_8_1 hx hb hown hts hK hP wf_X8_9 dX8_weigh_10 ?_
  refine lv_iload_n hx hb dX8_weigh_13 rfl (lv_at hl 2 rfl) ?_
  refine gIld hx hb hK hP is_157 dX8_weigh_14 h (fun h => ?_)
  refine lv_topi (fun x3 ex3 => ?_)
  replace h := gLetI ex3 h
  refine lv_istore_n (lv' := [(3, .int x3), (2, .int x2), (0, .ref (gB Γ + 156)), (1, .int a1)]) hx hb dX8_weigh_15 rfl hl (by decide) rfl (fun ls hl => ?_)
  refine lv_iconst (v := 0) hx hb dX8_weigh_16 (by decide) ?_
  refine lv_istore (lv' := [(4, .int (0 : Int32)), (3, .int x3), (2, .int x2), (0, .ref (gB Γ + 156)), (1, .int a1)]) hx hb dX8_weigh_17 hl (by decide) rfl (fun ls hl => ?_)
  refine lv_iload_n hx hb dX8_weigh_19 rfl (lv_at hl 2 rfl) ?_
  refine lv_if_eq (tgt := 27) hx hb dX8_weigh_20 (by decide) (fun c4 => ?_) (fun c4 => ?_)
  · replace h := gpos c4 h
    refine lv_iconst (v := 0) hx hb dX8_weigh_27 (by decide) ?_
    exact bs_X8_weigh_28 C0  h hP hS (lv_sub hl [3, 4, 2, 1, 0] rfl)
  · replace h := gneg c4 h
    refine lv_iconst (v := 1) hx hb dX8_weigh_23 (by decide) ?_
    refine lv_goto (tgt := 28) hx hb dX8_weigh_24 (by decide) ?_
    exact bs_X8_weigh_28 C0  h hP hS (lv_sub hl [3, 4, 2, 1, 0] rfl)
set_option maxHeartbeats 2000000 in
set_option maxRecDepth 20000 in
theorem bs_X8_lookFrom_14 {p : Program} {l : Launch} {e : Env} {s : State} {m : MethodId} {args : Array Value} {below : List Frame} {meth : Method} {c : Code} {Γ : gE} (C0 : gCx p s m args meth c Γ RX8 cX8_lookFrom 4 none)   {z : Unit × gG} {F14 : Int32 → Int32 → gG → Option (Unit × gG)} {l1 : Int32} {l3 : Int32} {g : gG} {H : Heap} {locs : List Loc} {ls : Array Slot} (hF14 : ∀ (l1 : Int32) (l3 : Int32) (g : gG) (H : Heap) (locs : List Loc) (ls : Array Slot), F14 l1 l3 g = some z → va_P (gD Γ) gcls (lay Γ g) H → va_S (gA Γ) s.heap H locs → lv_has ls 4 [(0, .ref (gB Γ + 156)), (1, .int l1), (3, .int l3)] → W p l e (gRm 2 50) s m args below meth c H locs 0 0 (MQ below (gQv Γ z) args s 0 0 (gA Γ)) (F0 m 14 ls [])) (h : fs_X8_lookFrom_14 F14 l1 l3 g = some z) (hP : va_P (gD Γ) gcls (lay Γ g) H) (hS : va_S (gA Γ) s.heap H locs) (hl : lv_has ls 4 [(0, .ref (gB Γ + 156)), (1, .int l1), (3, .int l3)]) : W p l e (gRm 2 50) s m args below meth c H locs 0 0 (MQ below (gQv Γ z) args s 0 0 (gA Γ)) (F0 m 14 ls []) := by
  unfold fs_X8_lookFrom_14 at h
  obtain ⟨hx, hb, hml, hr, hown, hts, hK, hlk, hX⟩ := id C0
  refine lv_iload_n hx hb dX8_lookFrom_14 rfl (lv_at hl 2 rfl) ?_
  refine lv_iload_n hx hb dX8_lookFrom_15 rfl (lv_at hl 1 rfl) ?_
  refine lv_icmp_lt (tgt := 40) hx hb dX8_lookFrom_16 (by decide) (fun c1 => ?_) (fun c1 => ?_)
  · replace h := gpos c1 h
    exact gvret hx hb hr hlk hP hS dX8_lookFrom_40 h
  · replace h := gneg c1 h
    refine lv_aload_n hx hb dX8_lookFrom_19 rfl (lv_at hl 0 rfl) ?_
    refine gf_8_1 hx hb hown hts hK hP wf_X8_9 dX8_lookFrom_20 ?_
    refine lv_iload_n hx hb dX8_lookFrom_23 rfl (lv_at hl 2 rfl) ?_
    refine gIld hx hb hK hP is_157 dX8_lookFrom_24 h (fun h => ?_)
    refine lv_iconst (v := -1) hx hb dX8_lookFrom_25 (by decide) ?_
    refine lv_icmp_eq (tgt := 34) hx hb dX8_lookFrom_26 (by decide) (fun c2 => ?_) (fun c2 => ?_)
    · replace h := gpos c2 h
      obtain ⟨x3, ex3⟩ : ∃ y : Int32, y = l3 + (-1 : Int32) := ⟨_, rfl⟩
      replace h := gLetI ex3 h
      refine lv_iinc (v := x3) (lv' := [(3, .int x3), (0, .ref (gB Γ + 156)), (1, .int l1)]) hx hb dX8_lookFrom_34 hl (k := 2) rfl (by rw [ex3]; rfl) (by decide) rfl (fun ls hl => ?_)
      refine lv_goto (tgt := 14) hx hb dX8_lookFrom_37 (by decide) ?_
      exact hF14 _ _ _ _ _ _ h hP hS (lv_sub hl [1, 2, 0] rfl)
    · replace h := gneg c2 h
      refine lv_aload_n hx hb dX8_lookFrom_29 rfl (lv_at hl 0 rfl) ?_
      refine lv_iload_n hx hb dX8_lookFrom_30 rfl (lv_at hl 2 rfl) ?_
      refine gCVv (rest := []) C0 cal_X8_weigh wl_X8_82 wi_X8_weigh ws_X8_weigh ⟨Nat.le_of_ble_eq_true rfl, Nat.le_of_ble_eq_true rfl⟩ ⟨Nat.le_of_ble_eq_true rfl, Nat.le_of_ble_eq_true rfl⟩ grv_8 [.int l3] rfl (Nat.le_of_ble_eq_true rfl) hP hS hl.1 dX8_lookFrom_31 h (fun u hu => m_X8_weigh l Γ l3 g u hu) (fun u4 H locs h hP hS => ?_) rfl
      obtain ⟨x5, ex5⟩ : ∃ y : Int32, y = l3 + (-1 : Int32) := ⟨_, rfl⟩
      replace h := gLetI ex5 h
      refine lv_iinc (v := x5) (lv' := [(3, .int x5), (0, .ref (gB Γ + 156)), (1, .int l1)]) hx hb dX8_lookFrom_34 hl (k := 2) rfl (by rw [ex5]; rfl) (by decide) rfl (fun ls hl => ?_)
      refine lv_goto (tgt := 14) hx hb dX8_lookFrom_37 (by decide) ?_
      exact hF14 _ _ _ _ _ _ h hP hS (lv_sub hl [1, 2, 0] rfl)
set_option maxHeartbeats 2000000 in
set_option maxRecDepth 20000 in
theorem bk_X8_lookFrom_14 {p : Program} {l : Launch} {e : Env} {s : State} {m : MethodId} {args : Array Value} {below : List Frame} {meth : Method} {c : Code} {Γ : gE} (C0 : gCx p s m args meth c Γ RX8 cX8_lookFrom 4 none)   {z : Unit × gG}   : ∀ (n : Nat) (l1 : Int32) (l3 : Int32) (g : gG) (H : Heap) (locs : List Loc) (ls : Array Slot), fb_X8_lookFrom_14 n l1 l3 g = some z → va_P (gD Γ) gcls (lay Γ g) H → va_S (gA Γ) s.heap H locs → lv_has ls 4 [(0, .ref (gB Γ + 156)), (1, .int l1), (3, .int l3)] → W p l e (gRm 2 50) s m args below meth c H locs 0 0 (MQ below (gQv Γ z) args s 0 0 (gA Γ)) (F0 m 14 ls []) := by
  intro n
  induction n with
  | zero => intro l1 l3 g H locs ls h hP hS hl; cases h
  | succ n ih => intro l1 l3 g H locs ls h hP hS hl; exact bs_X8_lookFrom_14 C0  ih h hP hS hl
set_option maxHeartbeats 2000000 in
set_option maxRecDepth 20000 in
theorem m_X8_lookFrom (l : Launch) (Γ : gE)   (a1 : Int32) (a2 : Int32) (g : gG) (z : Unit × gG) (h : f_X8_lookFrom a1 a2 g = some z) : gMv l yX8_lookFrom cX8_lookFrom 4 none 2 50 Γ [.ref (gB Γ + 156), .int a1, .int a2] g z := by
  unfold f_X8_lookFrom at h
  refine gStart (own := RX8) (by decide +kernel) rfl (Nat.le_of_ble_eq_true rfl) ?_
  intro p e s m below meth c C0 ls hl hP
  have hS : va_S (gA Γ) s.heap s.heap [] := va_S.rf
  have hl : lv_has ls 4 [(0, .ref (gB Γ + 156)), (1, .int a1), (2, .int a2)] := hl
  obtain ⟨hx, hb, hml, hr, hown, hts, hK, hlk, hX⟩ := id C0
  refine lv_aload_n hx hb dX8_lookFrom_0 rfl (lv_at hl 0 rfl) ?_
  refine lv_iload_n hx hb dX8_lookFrom_1 rfl (lv_at hl 1 rfl) ?_
  refine lv_iload_n hx hb dX8_lookFrom_2 rfl (lv_at hl 2 rfl) ?_
  refine gCVv (rest := []) C0 cal_X8_spread wl_X8_79 wi_X8_spread ws_X8_spread ⟨Nat.le_of_ble_eq_true rfl, Nat.le_of_ble_eq_true rfl⟩ ⟨Nat.le_of_ble_eq_true rfl, Nat.le_of_ble_eq_true rfl⟩ grv_8 [.int a1, .int a2] rfl (Nat.le_of_ble_eq_true rfl) hP hS hl.1 dX8_lookFrom_3 h (fun u hu => m_X8_spread l Γ a1 a2 g u hu) (fun u1 H locs h hP hS => ?_) rfl
  refine lv_aload_n hx hb dX8_lookFrom_6 rfl (lv_at hl 0 rfl) ?_
  refine gf_8_0 hx hb hown hts hK hP wf_X8_33 dX8_lookFrom_7 ?_
  refine gCVi (rest := []) C0 cal_X0_allPlaces wl_X8_76 wi_X0_allPlaces ws_X0_allPlaces ⟨Nat.le_of_ble_eq_true rfl, Nat.le_of_ble_eq_true rfl⟩ ⟨Nat.le_of_ble_eq_true rfl, Nat.le_of_ble_eq_true rfl⟩ grv_0 [] rfl (Nat.le_of_ble_eq_true rfl) hP hS hl.1 dX8_lookFrom_10 h (fun u hu => m_X0_allPlaces l Γ u1.2 u hu) (fun u2 H locs h hP hS => ?_) rfl
  refine lv_topi (fun x3 ex3 => ?_)
  replace h := gLetI ex3 h
  refine lv_istore_n (lv' := [(3, .int x3), (0, .ref (gB Γ + 156)), (1, .int a1), (2, .int a2)]) hx hb dX8_lookFrom_13 rfl hl (by decide) rfl (fun ls hl => ?_)
  exact bk_X8_lookFrom_14 C0  gFuel _ _ _ _ _ _ h hP hS (lv_sub hl [1, 2, 0] rfl)
set_option maxHeartbeats 2000000 in
set_option maxRecDepth 20000 in
theorem m_X8_safeFor (l : Launch) (Γ : gE) {r1 : Nat} (hr1 : isSt r1) (a2 : Int32) (g : gG) (z : Int32 × gG) (h : f_X8_safeFor r1 a2 g = some z) : gMi l yX8_safeFor cX8_safeFor 4 (some .int) 3 73 Γ [.ref (gB Γ + 156), .ref (gB Γ + r1), .int a2] g z := by
  unfold f_X8_safeFor at h
  refine gStart (own := RX8) (by decide +kernel) rfl (Nat.le_of_ble_eq_true rfl) ?_
  intro p e s m below meth c C0 ls hl hP
  have hS : va_S (gA Γ) s.heap s.heap [] := va_S.rf
  have hl : lv_has ls 4 [(0, .ref (gB Γ + 156)), (1, .ref (gB Γ + r1)), (2, .int a2)] := hl
  obtain ⟨hx, hb, hml, hr, hown, hts, hK, hlk, hX⟩ := id C0
  refine lv_aload_n hx hb dX8_safeFor_0 rfl (lv_at hl 1 rfl) ?_
  refine lv_iload_n hx hb dX8_safeFor_1 rfl (lv_at hl 2 rfl) ?_
  refine gCVi (rest := []) C0 cal_X5_visitedBy wl_X8_37 wi_X5_visitedBy ws_X5_visitedBy ⟨Nat.le_of_ble_eq_true rfl, Nat.le_of_ble_eq_true rfl⟩ ⟨Nat.le_of_ble_eq_true rfl, Nat.le_of_ble_eq_true rfl⟩ (grv_5 hr1) [.int a2] rfl (Nat.le_of_ble_eq_true rfl) hP hS hl.1 dX8_safeFor_2 h (fun u hu => m_X5_visitedBy l Γ hr1 a2 g u hu) (fun u1 H locs h hP hS => ?_) rfl
  refine lv_topi (fun x2 ex2 => ?_)
  replace h := gLetI ex2 h
  refine lv_istore_n (lv' := [(3, .int x2), (0, .ref (gB Γ + 156)), (1, .ref (gB Γ + r1)), (2, .int a2)]) hx hb dX8_safeFor_5 rfl hl (by decide) rfl (fun ls hl => ?_)
  refine lv_aload_n hx hb dX8_safeFor_6 rfl (lv_at hl 1 rfl) ?_
  refine lv_iload_n hx hb dX8_safeFor_7 rfl (lv_at hl 0 rfl) ?_
  refine lv_aload_n hx hb dX8_safeFor_8 rfl (lv_at hl 2 rfl) ?_
  refine gCVi (rest := [.int x2, .ref (gB Γ + 156)]) C0 cal_X5_easedPlaces wl_X8_43 wi_X5_easedPlaces ws_X5_easedPlaces ⟨Nat.le_of_ble_eq_true rfl, Nat.le_of_ble_eq_true rfl⟩ ⟨Nat.le_of_ble_eq_true rfl, Nat.le_of_ble_eq_true rfl⟩ (grv_5 hr1) [] rfl (Nat.le_of_ble_eq_true rfl) hP hS hl.1 dX8_safeFor_9 h (fun u hu => m_X5_easedPlaces l Γ hr1 u1.2 u hu) (fun u3 H locs h hP hS => ?_) rfl
  refine gCVv (rest := []) C0 cal_X8_lookFrom wl_X8_47 wi_X8_lookFrom ws_X8_lookFrom ⟨Nat.le_of_ble_eq_true rfl, Nat.le_of_ble_eq_true rfl⟩ ⟨Nat.le_of_ble_eq_true rfl, Nat.le_of_ble_eq_true rfl⟩ grv_8 [.int x2, .int u3.1] rfl (Nat.le_of_ble_eq_true rfl) hP hS hl.1 dX8_safeFor_12 h (fun u hu => m_X8_lookFrom l Γ x2 u3.1 u3.2 u hu) (fun u4 H locs h hP hS => ?_) rfl
  refine lv_aload_n hx hb dX8_safeFor_15 rfl (lv_at hl 1 rfl) ?_
  refine gf_8_2 hx hb hown hts hK hP wf_X8_15 dX8_safeFor_16 ?_
  refine lv_iload_n hx hb dX8_safeFor_19 rfl (lv_at hl 0 rfl) ?_
  refine gIld hx hb hK hP is_158 dX8_safeFor_20 h (fun h => ?_)
  exact giret hx hb hr hlk hP hS dX8_safeFor_21 h
set_option maxHeartbeats 2000000 in
set_option maxRecDepth 20000 in
theorem m_X8_fewestVisits (l : Launch) (Γ : gE) {r1 : Nat} (hr1 : isSt r1) (a2 : Int32) (g : gG) (z : Int32 × gG) (h : f_X8_fewestVisits r1 a2 g = some z) : gMi l yX8_fewestVisits cX8_fewestVisits 4 (some .int) 3 73 Γ [.ref (gB Γ + 156), .ref (gB Γ + r1), .int a2] g z := by
  unfold f_X8_fewestVisits at h
  refine gStart (own := RX8) (by decide +kernel) rfl (Nat.le_of_ble_eq_true rfl) ?_
  intro p e s m below meth c C0 ls hl hP
  have hS : va_S (gA Γ) s.heap s.heap [] := va_S.rf
  have hl : lv_has ls 4 [(0, .ref (gB Γ + 156)), (1, .ref (gB Γ + r1)), (2, .int a2)] := hl
  obtain ⟨hx, hb, hml, hr, hown, hts, hK, hlk, hX⟩ := id C0
  refine lv_aload_n hx hb dX8_fewestVisits_0 rfl (lv_at hl 1 rfl) ?_
  refine lv_iload_n hx hb dX8_fewestVisits_1 rfl (lv_at hl 2 rfl) ?_
  refine gCVi (rest := []) C0 cal_X5_visitedBy wl_X8_37 wi_X5_visitedBy ws_X5_visitedBy ⟨Nat.le_of_ble_eq_true rfl, Nat.le_of_ble_eq_true rfl⟩ ⟨Nat.le_of_ble_eq_true rfl, Nat.le_of_ble_eq_true rfl⟩ (grv_5 hr1) [.int a2] rfl (Nat.le_of_ble_eq_true rfl) hP hS hl.1 dX8_fewestVisits_2 h (fun u hu => m_X5_visitedBy l Γ hr1 a2 g u hu) (fun u1 H locs h hP hS => ?_) rfl
  refine lv_topi (fun x2 ex2 => ?_)
  replace h := gLetI ex2 h
  refine lv_istore_n (lv' := [(3, .int x2), (0, .ref (gB Γ + 156)), (1, .ref (gB Γ + r1)), (2, .int a2)]) hx hb dX8_fewestVisits_5 rfl hl (by decide) rfl (fun ls hl => ?_)
  refine lv_aload_n hx hb dX8_fewestVisits_6 rfl (lv_at hl 1 rfl) ?_
  refine lv_iload_n hx hb dX8_fewestVisits_7 rfl (lv_at hl 0 rfl) ?_
  refine lv_aload_n hx hb dX8_fewestVisits_8 rfl (lv_at hl 2 rfl) ?_
  refine gCVi (rest := [.int x2, .ref (gB Γ + 156)]) C0 cal_X5_easedPlaces wl_X8_43 wi_X5_easedPlaces ws_X5_easedPlaces ⟨Nat.le_of_ble_eq_true rfl, Nat.le_of_ble_eq_true rfl⟩ ⟨Nat.le_of_ble_eq_true rfl, Nat.le_of_ble_eq_true rfl⟩ (grv_5 hr1) [] rfl (Nat.le_of_ble_eq_true rfl) hP hS hl.1 dX8_fewestVisits_9 h (fun u hu => m_X5_easedPlaces l Γ hr1 u1.2 u hu) (fun u3 H locs h hP hS => ?_) rfl
  refine gCVv (rest := []) C0 cal_X8_lookFrom wl_X8_47 wi_X8_lookFrom ws_X8_lookFrom ⟨Nat.le_of_ble_eq_true rfl, Nat.le_of_ble_eq_true rfl⟩ ⟨Nat.le_of_ble_eq_true rfl, Nat.le_of_ble_eq_true rfl⟩ grv_8 [.int x2, .int u3.1] rfl (Nat.le_of_ble_eq_true rfl) hP hS hl.1 dX8_fewestVisits_12 h (fun u hu => m_X8_lookFrom l Γ x2 u3.1 u3.2 u hu) (fun u4 H locs h hP hS => ?_) rfl
  refine lv_aload_n hx hb dX8_fewestVisits_15 rfl (lv_at hl 1 rfl) ?_
  refine gf_8_3 hx hb hown hts hK hP wf_X8_18 dX8_fewestVisits_16 ?_
  refine lv_iload_n hx hb dX8_fewestVisits_19 rfl (lv_at hl 0 rfl) ?_
  refine gIld hx hb hK hP is_159 dX8_fewestVisits_20 h (fun h => ?_)
  refine lv_if_ne (tgt := 29) hx hb dX8_fewestVisits_21 (by decide) (fun c5 => ?_) (fun c5 => ?_)
  · replace h := gneg c5 h
    refine lv_aload_n hx hb dX8_fewestVisits_29 rfl (lv_at hl 1 rfl) ?_
    refine gf_8_4 hx hb hown hts hK hP wf_X8_21 dX8_fewestVisits_30 ?_
    refine lv_iload_n hx hb dX8_fewestVisits_33 rfl (lv_at hl 0 rfl) ?_
    refine gIld hx hb hK hP is_160 dX8_fewestVisits_34 h (fun h => ?_)
    exact giret hx hb hr hlk hP hS dX8_fewestVisits_35 h
  · replace h := gpos c5 h
    refine lv_bipush (v := -9) hx hb dX8_fewestVisits_24 (by decide) ?_
    refine lv_goto (tgt := 35) hx hb dX8_fewestVisits_26 (by decide) ?_
    exact giret hx hb hr hlk hP hS dX8_fewestVisits_35 h
set_option maxHeartbeats 2000000 in
set_option maxRecDepth 20000 in
theorem bs_X8_firstOfShortest_18 {p : Program} {l : Launch} {e : Env} {s : State} {m : MethodId} {args : Array Value} {below : List Frame} {meth : Method} {c : Code} {Γ : gE} (C0 : gCx p s m args meth c Γ RX8 cX8_firstOfShortest 5 (some .int)) {r1 : Nat} (hr1 : isSt r1) {z : Int32 × gG} {F18 : Int32 → Int32 → gG → Option (Int32 × gG)} {l3 : Int32} {l4 : Int32} {g : gG} {H : Heap} {locs : List Loc} {ls : Array Slot} (hF18 : ∀ (l3 : Int32) (l4 : Int32) (g : gG) (H : Heap) (locs : List Loc) (ls : Array Slot), F18 l3 l4 g = some z → va_P (gD Γ) gcls (lay Γ g) H → va_S (gA Γ) s.heap H locs → lv_has ls 5 [(0, .ref (gB Γ + 156)), (3, .int l3), (4, .int l4)] → W p l e (gRm 3 73) s m args below meth c H locs 0 0 (MQ below (gQi Γ z) args s 0 0 (gA Γ)) (F0 m 18 ls [])) (h : fs_X8_firstOfShortest_18 r1 F18 l3 l4 g = some z) (hP : va_P (gD Γ) gcls (lay Γ g) H) (hS : va_S (gA Γ) s.heap H locs) (hl : lv_has ls 5 [(0, .ref (gB Γ + 156)), (3, .int l3), (4, .int l4)]) : W p l e (gRm 3 73) s m args below meth c H locs 0 0 (MQ below (gQi Γ z) args s 0 0 (gA Γ)) (F0 m 18 ls []) := by
  unfold fs_X8_firstOfShortest_18 at h
  obtain ⟨hx, hb, hml, hr, hown, hts, hK, hlk, hX⟩ := id C0
  refine lv_iload hx hb dX8_firstOfShortest_18 (lv_at hl 2 rfl) ?_
  refine lv_aload_n hx hb dX8_firstOfShortest_20 rfl (lv_at hl 0 rfl) ?_
  refine gf_8_0 hx hb hown hts hK hP wf_X8_33 dX8_firstOfShortest_21 ?_
  refine gCVi (rest := [.int l4]) C0 cal_X0_count wl_X8_51 wi_X0_count ws_X0_count ⟨Nat.le_of_ble_eq_true rfl, Nat.le_of_ble_eq_true rfl⟩ ⟨Nat.le_of_ble_eq_true rfl, Nat.le_of_ble_eq_true rfl⟩ grv_0 [] rfl (Nat.le_of_ble_eq_true rfl) hP hS hl.1 dX8_firstOfShortest_24 h (fun u hu => m_X0_count l Γ g u hu) (fun u1 H locs h hP hS => ?_) rfl
  refine lv_icmp_ge (tgt := 75) hx hb dX8_firstOfShortest_27 (by decide) (fun c2 => ?_) (fun c2 => ?_)
  · replace h := gpos c2 h
    refine lv_bipush (v := -9) hx hb dX8_firstOfShortest_75 (by decide) ?_
    exact giret hx hb hr hlk hP hS dX8_firstOfShortest_77 h
  · replace h := gneg c2 h
    refine lv_iload hx hb dX8_firstOfShortest_30 (lv_at hl 2 rfl) ?_
    refine lv_aload_n hx hb dX8_firstOfShortest_32 rfl (lv_at hl 0 rfl) ?_
    refine gf_8_2 hx hb hown hts hK hP wf_X8_15 dX8_firstOfShortest_33 ?_
    refine lv_iload_n hx hb dX8_firstOfShortest_36 rfl (lv_at hl 1 rfl) ?_
    refine gIld hx hb hK hP is_158 dX8_firstOfShortest_37 h (fun h => ?_)
    refine gCNi (rest := []) C0 cal_X9_isIn wln_X8_56 wt_X9_isIn ⟨Nat.le_of_ble_eq_true rfl, Nat.le_of_ble_eq_true rfl⟩ ⟨Nat.le_of_ble_eq_true rfl, Nat.le_of_ble_eq_true rfl⟩ [.int l4, .int (u1.2.1 158 l3.toNatClampNeg)] rfl (Nat.le_of_ble_eq_true rfl) hP hS hl.1 dX8_firstOfShortest_38 h (fun u hu => m_X9_isIn l Γ l4 (u1.2.1 158 l3.toNatClampNeg) u1.2 u hu) (fun u3 H locs h hP hS => ?_) rfl
    refine lv_if_eq (tgt := 69) hx hb dX8_firstOfShortest_41 (by decide) (fun c4 => ?_) (fun c4 => ?_)
    · replace h := gpos c4 h
      obtain ⟨x5, ex5⟩ : ∃ y : Int32, y = l4 + (1 : Int32) := ⟨_, rfl⟩
      replace h := gLetI ex5 h
      refine lv_iinc (v := x5) (lv' := [(4, .int x5), (0, .ref (gB Γ + 156)), (3, .int l3)]) hx hb dX8_firstOfShortest_69 hl (k := 2) rfl (by rw [ex5]; rfl) (by decide) rfl (fun ls hl => ?_)
      refine lv_goto (tgt := 18) hx hb dX8_firstOfShortest_72 (by decide) ?_
      exact hF18 _ _ _ _ _ _ h hP hS (lv_sub hl [1, 2, 0] rfl)
    · replace h := gneg c4 h
      refine lv_aload_n hx hb dX8_firstOfShortest_44 rfl (lv_at hl 0 rfl) ?_
      refine gf_8_4 hx hb hown hts hK hP wf_X8_21 dX8_firstOfShortest_45 ?_
      refine lv_iload_n hx hb dX8_firstOfShortest_48 rfl (lv_at hl 1 rfl) ?_
      refine lv_iconst (v := 1) hx hb dX8_firstOfShortest_49 (by decide) ?_
      refine lv_iload hx hb dX8_firstOfShortest_50 (lv_at hl 2 rfl) ?_
      refine lv_ishl hx hb dX8_firstOfShortest_52 ?_
      refine lv_ior hx hb dX8_firstOfShortest_53 ?_
      refine gIld hx hb hK hP is_160 dX8_firstOfShortest_54 h (fun h => ?_)
      refine lv_iconst (v := 1) hx hb dX8_firstOfShortest_55 (by decide) ?_
      refine lv_iadd hx hb dX8_firstOfShortest_56 ?_
      refine lv_aload_n hx hb dX8_firstOfShortest_57 rfl (lv_at hl 0 rfl) ?_
      refine gf_8_4 hx hb hown hts hK hP wf_X8_21 dX8_firstOfShortest_58 ?_
      refine lv_iload_n hx hb dX8_firstOfShortest_61 rfl (lv_at hl 1 rfl) ?_
      refine gIld hx hb hK hP is_160 dX8_firstOfShortest_62 h (fun h => ?_)
      refine lv_icmp_ne (tgt := 69) hx hb dX8_firstOfShortest_63 (by decide) (fun c6 => ?_) (fun c6 => ?_)
      · replace h := gneg c6 h
        obtain ⟨x7, ex7⟩ : ∃ y : Int32, y = l4 + (1 : Int32) := ⟨_, rfl⟩
        replace h := gLetI ex7 h
        refine lv_iinc (v := x7) (lv' := [(4, .int x7), (0, .ref (gB Γ + 156)), (3, .int l3)]) hx hb dX8_firstOfShortest_69 hl (k := 2) rfl (by rw [ex7]; rfl) (by decide) rfl (fun ls hl => ?_)
        refine lv_goto (tgt := 18) hx hb dX8_firstOfShortest_72 (by decide) ?_
        exact hF18 _ _ _ _ _ _ h hP hS (lv_sub hl [1, 2, 0] rfl)
      · replace h := gpos c6 h
        refine lv_iload hx hb dX8_firstOfShortest_66 (lv_at hl 2 rfl) ?_
        exact giret hx hb hr hlk hP hS dX8_firstOfShortest_68 h
set_option maxHeartbeats 2000000 in
set_option maxRecDepth 20000 in
theorem bk_X8_firstOfShortest_18 {p : Program} {l : Launch} {e : Env} {s : State} {m : MethodId} {args : Array Value} {below : List Frame} {meth : Method} {c : Code} {Γ : gE} (C0 : gCx p s m args meth c Γ RX8 cX8_firstOfShortest 5 (some .int)) {r1 : Nat} (hr1 : isSt r1) {z : Int32 × gG}   : ∀ (n : Nat) (l3 : Int32) (l4 : Int32) (g : gG) (H : Heap) (locs : List Loc) (ls : Array Slot), fb_X8_firstOfShortest_18 r1 n l3 l4 g = some z → va_P (gD Γ) gcls (lay Γ g) H → va_S (gA Γ) s.heap H locs → lv_has ls 5 [(0, .ref (gB Γ + 156)), (3, .int l3), (4, .int l4)] → W p l e (gRm 3 73) s m args below meth c H locs 0 0 (MQ below (gQi Γ z) args s 0 0 (gA Γ)) (F0 m 18 ls []) := by
  intro n
  induction n with
  | zero => intro l3 l4 g H locs ls h hP hS hl; cases h
  | succ n ih => intro l3 l4 g H locs ls h hP hS hl; exact bs_X8_firstOfShortest_18 C0 hr1 ih h hP hS hl
set_option maxHeartbeats 2000000 in
set_option maxRecDepth 20000 in
theorem m_X8_firstOfShortest (l : Launch) (Γ : gE) {r1 : Nat} (hr1 : isSt r1) (a2 : Int32) (g : gG) (z : Int32 × gG) (h : f_X8_firstOfShortest r1 a2 g = some z) : gMi l yX8_firstOfShortest cX8_firstOfShortest 5 (some .int) 3 73 Γ [.ref (gB Γ + 156), .ref (gB Γ + r1), .int a2] g z := by
  unfold f_X8_firstOfShortest at h
  refine gStart (own := RX8) (by decide +kernel) rfl (Nat.le_of_ble_eq_true rfl) ?_
  intro p e s m below meth c C0 ls hl hP
  have hS : va_S (gA Γ) s.heap s.heap [] := va_S.rf
  have hl : lv_has ls 5 [(0, .ref (gB Γ + 156)), (1, .ref (gB Γ + r1)), (2, .int a2)] := hl
  obtain ⟨hx, hb, hml, hr, hown, hts, hK, hlk, hX⟩ := id C0
  refine lv_aload_n hx hb dX8_firstOfShortest_0 rfl (lv_at hl 1 rfl) ?_
  refine lv_iload_n hx hb dX8_firstOfShortest_1 rfl (lv_at hl 2 rfl) ?_
  refine gCVi (rest := []) C0 cal_X5_visitedBy wl_X8_37 wi_X5_visitedBy ws_X5_visitedBy ⟨Nat.le_of_ble_eq_true rfl, Nat.le_of_ble_eq_true rfl⟩ ⟨Nat.le_of_ble_eq_true rfl, Nat.le_of_ble_eq_true rfl⟩ (grv_5 hr1) [.int a2] rfl (Nat.le_of_ble_eq_true rfl) hP hS hl.1 dX8_firstOfShortest_2 h (fun u hu => m_X5_visitedBy l Γ hr1 a2 g u hu) (fun u1 H locs h hP hS => ?_) rfl
  refine lv_topi (fun x2 ex2 => ?_)
  replace h := gLetI ex2 h
  refine lv_istore_n (lv' := [(3, .int x2), (0, .ref (gB Γ + 156)), (1, .ref (gB Γ + r1)), (2, .int a2)]) hx hb dX8_firstOfShortest_5 rfl hl (by decide) rfl (fun ls hl => ?_)
  refine lv_aload_n hx hb dX8_firstOfShortest_6 rfl (lv_at hl 1 rfl) ?_
  refine lv_iload_n hx hb dX8_firstOfShortest_7 rfl (lv_at hl 0 rfl) ?_
  refine lv_aload_n hx hb dX8_firstOfShortest_8 rfl (lv_at hl 2 rfl) ?_
  refine gCVi (rest := [.int x2, .ref (gB Γ + 156)]) C0 cal_X5_easedPlaces wl_X8_43 wi_X5_easedPlaces ws_X5_easedPlaces ⟨Nat.le_of_ble_eq_true rfl, Nat.le_of_ble_eq_true rfl⟩ ⟨Nat.le_of_ble_eq_true rfl, Nat.le_of_ble_eq_true rfl⟩ (grv_5 hr1) [] rfl (Nat.le_of_ble_eq_true rfl) hP hS hl.1 dX8_firstOfShortest_9 h (fun u hu => m_X5_easedPlaces l Γ hr1 u1.2 u hu) (fun u3 H locs h hP hS => ?_) rfl
  refine gCVv (rest := []) C0 cal_X8_lookFrom wl_X8_47 wi_X8_lookFrom ws_X8_lookFrom ⟨Nat.le_of_ble_eq_true rfl, Nat.le_of_ble_eq_true rfl⟩ ⟨Nat.le_of_ble_eq_true rfl, Nat.le_of_ble_eq_true rfl⟩ grv_8 [.int x2, .int u3.1] rfl (Nat.le_of_ble_eq_true rfl) hP hS hl.1 dX8_firstOfShortest_12 h (fun u hu => m_X8_lookFrom l Γ x2 u3.1 u3.2 u hu) (fun u4 H locs h hP hS => ?_) rfl
  refine lv_iconst (v := 0) hx hb dX8_firstOfShortest_15 (by decide) ?_
  refine lv_istore (lv' := [(4, .int (0 : Int32)), (3, .int x2), (0, .ref (gB Γ + 156)), (1, .ref (gB Γ + r1)), (2, .int a2)]) hx hb dX8_firstOfShortest_16 hl (by decide) rfl (fun ls hl => ?_)
  exact bk_X8_firstOfShortest_18 C0 hr1 gFuel _ _ _ _ _ _ h hP hS (lv_sub hl [2, 1, 0] rfl)
set_option maxHeartbeats 2000000 in
set_option maxRecDepth 20000 in
theorem bs_X8_measure_10 {p : Program} {l : Launch} {e : Env} {s : State} {m : MethodId} {args : Array Value} {below : List Frame} {meth : Method} {c : Code} {Γ : gE} (C0 : gCx p s m args meth c Γ RX8 cX8_measure 4 none) {r1 : Nat} (hr1 : isSt r1) {z : Unit × gG} {F2 : Int32 → gG → Option (Unit × gG)} {F10 : Int32 → Int32 → gG → Option (Unit × gG)} {l2 : Int32} {l3 : Int32} {g : gG} {H : Heap} {locs : List Loc} {ls : Array Slot} (hF2 : ∀ (l2 : Int32) (g : gG) (H : Heap) (locs : List Loc) (ls : Array Slot), F2 l2 g = some z → va_P (gD Γ) gcls (lay Γ g) H → va_S (gA Γ) s.heap H locs → lv_has ls 4 [(0, .ref (gB Γ + 156)), (1, .ref (gB Γ + r1)), (2, .int l2)] → W p l e (gRm 2 43) s m args below meth c H locs 0 0 (MQ below (gQv Γ z) args s 0 0 (gA Γ)) (F0 m 2 ls [])) (hF10 : ∀ (l2 : Int32) (l3 : Int32) (g : gG) (H : Heap) (locs : List Loc) (ls : Array Slot), F10 l2 l3 g = some z → va_P (gD Γ) gcls (lay Γ g) H → va_S (gA Γ) s.heap H locs → lv_has ls 4 [(0, .ref (gB Γ + 156)), (1, .ref (gB Γ + r1)), (2, .int l2), (3, .int l3)] → W p l e (gRm 2 43) s m args below meth c H locs 0 0 (MQ below (gQv Γ z) args s 0 0 (gA Γ)) (F0 m 10 ls [])) (h : fs_X8_measure_10 r1 F2 F10 l2 l3 g = some z) (hP : va_P (gD Γ) gcls (lay Γ g) H) (hS : va_S (gA Γ) s.heap H locs) (hl : lv_has ls 4 [(0, .ref (gB Γ + 156)), (1, .ref (gB Γ + r1)), (2, .int l2), (3, .int l3)]) : W p l e (gRm 2 43) s m args below meth c H locs 0 0 (MQ below (gQv Γ z) args s 0 0 (gA Γ)) (F0 m 10 ls []) := by
  unfold fs_X8_measure_10 at h
  obtain ⟨hx, hb, hml, hr, hown, hts, hK, hlk, hX⟩ := id C0
  refine lv_iload_n hx hb dX8_measure_10 rfl (lv_at hl 3 rfl) ?_
  refine lv_bipush (v := 10) hx hb dX8_measure_11 (by decide) ?_
  refine lv_icmp_ge (tgt := 39) hx hb dX8_measure_13 (by decide) (fun c1 => ?_) (fun c1 => ?_)
  · replace h := gpos c1 h
    refine lv_aload_n hx hb dX8_measure_39 rfl (lv_at hl 0 rfl) ?_
    refine gf_8_7 hx hb hown hts hK hP wf_X8_30 dX8_measure_40 ?_
    refine lv_bipush (v := 100) hx hb dX8_measure_43 (by decide) ?_
    refine lv_iload_n hx hb dX8_measure_45 rfl (lv_at hl 2 rfl) ?_
    refine lv_iadd hx hb dX8_measure_46 ?_
    refine lv_aload_n hx hb dX8_measure_47 rfl (lv_at hl 1 rfl) ?_
    refine lv_bipush (v := -9) hx hb dX8_measure_48 (by decide) ?_
    refine lv_iload_n hx hb dX8_measure_50 rfl (lv_at hl 2 rfl) ?_
    refine gCVi (rest := [.int ((100 : Int32) + l2), .ref (gB Γ + 163)]) C0 cal_X5_minutesBetween wl_X8_101 wi_X5_minutesBetween ws_X5_minutesBetween ⟨Nat.le_of_ble_eq_true rfl, Nat.le_of_ble_eq_true rfl⟩ ⟨Nat.le_of_ble_eq_true rfl, Nat.le_of_ble_eq_true rfl⟩ (grv_5 hr1) [.int (-9 : Int32), .int l2] rfl (Nat.le_of_ble_eq_true rfl) hP hS hl.1 dX8_measure_51 h (fun u hu => m_X5_minutesBetween l Γ hr1 (-9 : Int32) l2 g u hu) (fun u2 H locs h hP hS => ?_) rfl
    refine gIst hx hb hK hP hS is_163 dX8_measure_54 h (fun H locs g3 h hP hS => ?_)
    obtain ⟨x4, ex4⟩ : ∃ y : Int32, y = l2 + (1 : Int32) := ⟨_, rfl⟩
    replace h := gLetI ex4 h
    refine lv_iinc (v := x4) (lv' := [(2, .int x4), (0, .ref (gB Γ + 156)), (1, .ref (gB Γ + r1)), (3, .int l3)]) hx hb dX8_measure_55 hl (k := 2) rfl (by rw [ex4]; rfl) (by decide) rfl (fun ls hl => ?_)
    refine lv_goto (tgt := 2) hx hb dX8_measure_58 (by decide) ?_
    exact hF2 _ _ _ _ _ h hP hS (lv_sub hl [1, 2, 0] rfl)
  · replace h := gneg c1 h
    refine lv_aload_n hx hb dX8_measure_16 rfl (lv_at hl 0 rfl) ?_
    refine gf_8_7 hx hb hown hts hK hP wf_X8_30 dX8_measure_17 ?_
    refine lv_iload_n hx hb dX8_measure_20 rfl (lv_at hl 3 rfl) ?_
    refine lv_bipush (v := 10) hx hb dX8_measure_21 (by decide) ?_
    refine lv_imul hx hb dX8_measure_23 ?_
    refine lv_iload_n hx hb dX8_measure_24 rfl (lv_at hl 2 rfl) ?_
    refine lv_iadd hx hb dX8_measure_25 ?_
    refine lv_aload_n hx hb dX8_measure_26 rfl (lv_at hl 1 rfl) ?_
    refine lv_iload_n hx hb dX8_measure_27 rfl (lv_at hl 3 rfl) ?_
    refine lv_iload_n hx hb dX8_measure_28 rfl (lv_at hl 2 rfl) ?_
    refine gCVi (rest := [.int ((l3 * (10 : Int32)) + l2), .ref (gB Γ + 163)]) C0 cal_X5_minutesBetween wl_X8_101 wi_X5_minutesBetween ws_X5_minutesBetween ⟨Nat.le_of_ble_eq_true rfl, Nat.le_of_ble_eq_true rfl⟩ ⟨Nat.le_of_ble_eq_true rfl, Nat.le_of_ble_eq_true rfl⟩ (grv_5 hr1) [.int l3, .int l2] rfl (Nat.le_of_ble_eq_true rfl) hP hS hl.1 dX8_measure_29 h (fun u hu => m_X5_minutesBetween l Γ hr1 l3 l2 g u hu) (fun u5 H locs h hP hS => ?_) rfl
    refine gIst hx hb hK hP hS is_163 dX8_measure_32 h (fun H locs g6 h hP hS => ?_)
    obtain ⟨x7, ex7⟩ : ∃ y : Int32, y = l3 + (1 : Int32) := ⟨_, rfl⟩
    replace h := gLetI ex7 h
    refine lv_iinc (v := x7) (lv' := [(3, .int x7), (0, .ref (gB Γ + 156)), (1, .ref (gB Γ + r1)), (2, .int l2)]) hx hb dX8_measure_33 hl (k := 3) rfl (by rw [ex7]; rfl) (by decide) rfl (fun ls hl => ?_)
    refine lv_goto (tgt := 10) hx hb dX8_measure_36 (by decide) ?_
    exact hF10 _ _ _ _ _ _ h hP hS (lv_sub hl [1, 2, 3, 0] rfl)
set_option maxHeartbeats 2000000 in
set_option maxRecDepth 20000 in
theorem bk_X8_measure_10 {p : Program} {l : Launch} {e : Env} {s : State} {m : MethodId} {args : Array Value} {below : List Frame} {meth : Method} {c : Code} {Γ : gE} (C0 : gCx p s m args meth c Γ RX8 cX8_measure 4 none) {r1 : Nat} (hr1 : isSt r1) {z : Unit × gG} {F2 : Int32 → gG → Option (Unit × gG)} (hF2 : ∀ (l2 : Int32) (g : gG) (H : Heap) (locs : List Loc) (ls : Array Slot), F2 l2 g = some z → va_P (gD Γ) gcls (lay Γ g) H → va_S (gA Γ) s.heap H locs → lv_has ls 4 [(0, .ref (gB Γ + 156)), (1, .ref (gB Γ + r1)), (2, .int l2)] → W p l e (gRm 2 43) s m args below meth c H locs 0 0 (MQ below (gQv Γ z) args s 0 0 (gA Γ)) (F0 m 2 ls [])) : ∀ (n : Nat) (l2 : Int32) (l3 : Int32) (g : gG) (H : Heap) (locs : List Loc) (ls : Array Slot), fb_X8_measure_10 r1 F2 n l2 l3 g = some z → va_P (gD Γ) gcls (lay Γ g) H → va_S (gA Γ) s.heap H locs → lv_has ls 4 [(0, .ref (gB Γ + 156)), (1, .ref (gB Γ + r1)), (2, .int l2), (3, .int l3)] → W p l e (gRm 2 43) s m args below meth c H locs 0 0 (MQ below (gQv Γ z) args s 0 0 (gA Γ)) (F0 m 10 ls []) := by
  intro n
  induction n with
  | zero => intro l2 l3 g H locs ls h hP hS hl; cases h
  | succ n ih => intro l2 l3 g H locs ls h hP hS hl; exact bs_X8_measure_10 C0 hr1 hF2 ih h hP hS hl
set_option maxHeartbeats 2000000 in
set_option maxRecDepth 20000 in
theorem bs_X8_measure_2 {p : Program} {l : Launch} {e : Env} {s : State} {m : MethodId} {args : Array Value} {below : List Frame} {meth : Method} {c : Code} {Γ : gE} (C0 : gCx p s m args meth c Γ RX8 cX8_measure 4 none) {r1 : Nat} (hr1 : isSt r1) {z : Unit × gG} {F2 : Int32 → gG → Option (Unit × gG)} {l2 : Int32} {g : gG} {H : Heap} {locs : List Loc} {ls : Array Slot} (hF2 : ∀ (l2 : Int32) (g : gG) (H : Heap) (locs : List Loc) (ls : Array Slot), F2 l2 g = some z → va_P (gD Γ) gcls (lay Γ g) H → va_S (gA Γ) s.heap H locs → lv_has ls 4 [(0, .ref (gB Γ + 156)), (1, .ref (gB Γ + r1)), (2, .int l2)] → W p l e (gRm 2 43) s m args below meth c H locs 0 0 (MQ below (gQv Γ z) args s 0 0 (gA Γ)) (F0 m 2 ls [])) (h : fs_X8_measure_2 r1 F2 l2 g = some z) (hP : va_P (gD Γ) gcls (lay Γ g) H) (hS : va_S (gA Γ) s.heap H locs) (hl : lv_has ls 4 [(0, .ref (gB Γ + 156)), (1, .ref (gB Γ + r1)), (2, .int l2)]) : W p l e (gRm 2 43) s m args below meth c H locs 0 0 (MQ below (gQv Γ z) args s 0 0 (gA Γ)) (F0 m 2 ls []) := by
  unfold fs_X8_measure_2 at h
  obtain ⟨hx, hb, hml, hr, hown, hts, hK, hlk, hX⟩ := id C0
  refine lv_iload_n hx hb dX8_measure_2 rfl (lv_at hl 2 rfl) ?_
  refine lv_bipush (v := 10) hx hb dX8_measure_3 (by decide) ?_
  refine lv_icmp_ge (tgt := 61) hx hb dX8_measure_5 (by decide) (fun c1 => ?_) (fun c1 => ?_)
  · replace h := gpos c1 h
    exact gvret hx hb hr hlk hP hS dX8_measure_61 h
  · replace h := gneg c1 h
    refine lv_iconst (v := 0) hx hb dX8_measure_8 (by decide) ?_
    refine lv_istore_n (lv' := [(3, .int (0 : Int32)), (0, .ref (gB Γ + 156)), (1, .ref (gB Γ + r1)), (2, .int l2)]) hx hb dX8_measure_9 rfl hl (by decide) rfl (fun ls hl => ?_)
    exact bk_X8_measure_10 C0 hr1 hF2 gFuel _ _ _ _ _ _ h hP hS (lv_sub hl [1, 2, 3, 0] rfl)
set_option maxHeartbeats 2000000 in
set_option maxRecDepth 20000 in
theorem bk_X8_measure_2 {p : Program} {l : Launch} {e : Env} {s : State} {m : MethodId} {args : Array Value} {below : List Frame} {meth : Method} {c : Code} {Γ : gE} (C0 : gCx p s m args meth c Γ RX8 cX8_measure 4 none) {r1 : Nat} (hr1 : isSt r1) {z : Unit × gG}   : ∀ (n : Nat) (l2 : Int32) (g : gG) (H : Heap) (locs : List Loc) (ls : Array Slot), fb_X8_measure_2 r1 n l2 g = some z → va_P (gD Γ) gcls (lay Γ g) H → va_S (gA Γ) s.heap H locs → lv_has ls 4 [(0, .ref (gB Γ + 156)), (1, .ref (gB Γ + r1)), (2, .int l2)] → W p l e (gRm 2 43) s m args below meth c H locs 0 0 (MQ below (gQv Γ z) args s 0 0 (gA Γ)) (F0 m 2 ls []) := by
  intro n
  induction n with
  | zero => intro l2 g H locs ls h hP hS hl; cases h
  | succ n ih => intro l2 g H locs ls h hP hS hl; exact bs_X8_measure_2 C0 hr1 ih h hP hS hl
set_option maxHeartbeats 2000000 in
set_option maxRecDepth 20000 in
theorem m_X8_measure (l : Launch) (Γ : gE) {r1 : Nat} (hr1 : isSt r1)  (g : gG) (z : Unit × gG) (h : f_X8_measure r1 g = some z) : gMv l yX8_measure cX8_measure 4 none 2 43 Γ [.ref (gB Γ + 156), .ref (gB Γ + r1)] g z := by
  unfold f_X8_measure at h
  refine gStart (own := RX8) (by decide +kernel) rfl (Nat.le_of_ble_eq_true rfl) ?_
  intro p e s m below meth c C0 ls hl hP
  have hS : va_S (gA Γ) s.heap s.heap [] := va_S.rf
  have hl : lv_has ls 4 [(0, .ref (gB Γ + 156)), (1, .ref (gB Γ + r1))] := hl
  obtain ⟨hx, hb, hml, hr, hown, hts, hK, hlk, hX⟩ := id C0
  refine lv_iconst (v := 0) hx hb dX8_measure_0 (by decide) ?_
  refine lv_istore_n (lv' := [(2, .int (0 : Int32)), (0, .ref (gB Γ + 156)), (1, .ref (gB Γ + r1))]) hx hb dX8_measure_1 rfl hl (by decide) rfl (fun ls hl => ?_)
  exact bk_X8_measure_2 C0 hr1 gFuel _ _ _ _ _ h hP hS (lv_sub hl [1, 2, 0] rfl)
set_option maxHeartbeats 2000000 in
set_option maxRecDepth 20000 in
theorem bs_X8_minutesBy_35 {p : Program} {l : Launch} {e : Env} {s : State} {m : MethodId} {args : Array Value} {below : List Frame} {meth : Method} {c : Code} {Γ : gE} (C0 : gCx p s m args meth c Γ RX8 cX8_minutesBy 6 (some .int))   {z : Int32 × gG}  {l2 : Int32} {l3 : Int32} {s0 : Int32} {g : gG} {H : Heap} {locs : List Loc} {ls : Array Slot}  (h : fs_X8_minutesBy_35 l2 l3 s0 g = some z) (hP : va_P (gD Γ) gcls (lay Γ g) H) (hS : va_S (gA Γ) s.heap H locs) (hl : lv_has ls 6 [(0, .ref (gB Γ + 156)), (2, .int l2), (3, .int l3)]) : W p l e (gRm 1 21) s m args below meth c H locs 0 0 (MQ below (gQi Γ z) args s 0 0 (gA Γ)) (F0 m 35 ls [.int s0]) := by
  unfold fs_X8_minutesBy_35 at h
  obtain ⟨hx, hb, hml, hr, hown, hts, hK, hlk, hX⟩ := id C0
  refine lv_istore (lv' := [(5, .int s0), (0, .ref (gB Γ + 156)), (2, .int l2), (3, .int l3)]) hx hb dX8_minutesBy_35 hl (by decide) rfl (fun ls hl => ?_)
  refine lv_aload_n hx hb dX8_minutesBy_37 rfl (lv_at hl 1 rfl) ?_
  refine gf_8_7 hx hb hown hts hK hP wf_X8_30 dX8_minutesBy_38 ?_
  refine lv_iload_n hx hb dX8_minutesBy_41 rfl (lv_at hl 2 rfl) ?_
  refine lv_bipush (v := 10) hx hb dX8_minutesBy_42 (by decide) ?_
  refine lv_imul hx hb dX8_minutesBy_44 ?_
  refine lv_iload_n hx hb dX8_minutesBy_45 rfl (lv_at hl 3 rfl) ?_
  refine lv_iadd hx hb dX8_minutesBy_46 ?_
  refine gIld hx hb hK hP is_163 dX8_minutesBy_47 h (fun h => ?_)
  refine lv_iload hx hb dX8_minutesBy_48 (lv_at hl 0 rfl) ?_
  refine lv_iadd hx hb dX8_minutesBy_50 ?_
  exact giret hx hb hr hlk hP hS dX8_minutesBy_51 h
set_option maxHeartbeats 2000000 in
set_option maxRecDepth 20000 in
theorem m_X8_minutesBy (l : Launch) (Γ : gE)   (a1 : Int32) (a2 : Int32) (a3 : Int32) (g : gG) (z : Int32 × gG) (h : f_X8_minutesBy a1 a2 a3 g = some z) : gMi l yX8_minutesBy cX8_minutesBy 6 (some .int) 1 21 Γ [.ref (gB Γ + 156), .int a1, .int a2, .int a3] g z := by
  unfold f_X8_minutesBy at h
  refine gStart (own := RX8) (by decide +kernel) rfl (Nat.le_of_ble_eq_true rfl) ?_
  intro p e s m below meth c C0 ls hl hP
  have hS : va_S (gA Γ) s.heap s.heap [] := va_S.rf
  have hl : lv_has ls 6 [(0, .ref (gB Γ + 156)), (1, .int a1), (2, .int a2), (3, .int a3)] := hl
  obtain ⟨hx, hb, hml, hr, hown, hts, hK, hlk, hX⟩ := id C0
  refine lv_iload_n hx hb dX8_minutesBy_0 rfl (lv_at hl 1 rfl) ?_
  refine lv_iconst (v := 1) hx hb dX8_minutesBy_1 (by decide) ?_
  refine lv_iload_n hx hb dX8_minutesBy_2 rfl (lv_at hl 3 rfl) ?_
  refine lv_ishl hx hb dX8_minutesBy_3 ?_
  refine lv_ior hx hb dX8_minutesBy_4 ?_
  refine lv_topi (fun x1 ex1 => ?_)
  replace h := gLetI ex1 h
  refine lv_istore (lv' := [(4, .int x1), (0, .ref (gB Γ + 156)), (1, .int a1), (2, .int a2), (3, .int a3)]) hx hb dX8_minutesBy_5 hl (by decide) rfl (fun ls hl => ?_)
  refine lv_aload_n hx hb dX8_minutesBy_7 rfl (lv_at hl 1 rfl) ?_
  refine gf_8_0 hx hb hown hts hK hP wf_X8_33 dX8_minutesBy_8 ?_
  refine lv_iload hx hb dX8_minutesBy_11 (lv_at hl 0 rfl) ?_
  refine gCVi (rest := []) C0 cal_X0_hasChest wl_X8_89 wi_X0_hasChest ws_X0_hasChest ⟨Nat.le_of_ble_eq_true rfl, Nat.le_of_ble_eq_true rfl⟩ ⟨Nat.le_of_ble_eq_true rfl, Nat.le_of_ble_eq_true rfl⟩ grv_0 [.int x1] rfl (Nat.le_of_ble_eq_true rfl) hP hS hl.1 dX8_minutesBy_13 h (fun u hu => m_X0_hasChest l Γ x1 g u hu) (fun u2 H locs h hP hS => ?_) rfl
  refine lv_if_eq (tgt := 23) hx hb dX8_minutesBy_16 (by decide) (fun c3 => ?_) (fun c3 => ?_)
  · replace h := gpos c3 h
    refine lv_aload_n hx hb dX8_minutesBy_23 rfl (lv_at hl 1 rfl) ?_
    refine gf_8_6 hx hb hown hts hK hP wf_X8_27 dX8_minutesBy_24 ?_
    refine lv_iload hx hb dX8_minutesBy_27 (lv_at hl 0 rfl) ?_
    refine lv_bipush (v := 10) hx hb dX8_minutesBy_29 (by decide) ?_
    refine lv_imul hx hb dX8_minutesBy_31 ?_
    refine lv_iload_n hx hb dX8_minutesBy_32 rfl (lv_at hl 4 rfl) ?_
    refine lv_iadd hx hb dX8_minutesBy_33 ?_
    refine gIld hx hb hK hP is_162 dX8_minutesBy_34 h (fun h => ?_)
    exact bs_X8_minutesBy_35 C0  h hP hS (lv_sub hl [1, 3, 4] rfl)
  · replace h := gneg c3 h
    refine lv_iconst (v := 0) hx hb dX8_minutesBy_19 (by decide) ?_
    refine lv_goto (tgt := 35) hx hb dX8_minutesBy_20 (by decide) ?_
    exact bs_X8_minutesBy_35 C0  h hP hS (lv_sub hl [1, 3, 4] rfl)
set_option maxHeartbeats 2000000 in
set_option maxRecDepth 20000 in
theorem bs_X8_minutesFrom_59 {p : Program} {l : Launch} {e : Env} {s : State} {m : MethodId} {args : Array Value} {below : List Frame} {meth : Method} {c : Code} {Γ : gE} (C0 : gCx p s m args meth c Γ RX8 cX8_minutesFrom 8 (some .int))   {z : Int32 × gG} {F16 : Int32 → Int32 → Int32 → Int32 → Int32 → Int32 → gG → Option (Int32 × gG)} {l1 : Int32} {l2 : Int32} {l3 : Int32} {l6 : Int32} {s0 : Int32} {g : gG} {H : Heap} {locs : List Loc} {ls : Array Slot} (hF16 : ∀ (l1 : Int32) (l2 : Int32) (l3 : Int32) (l4 : Int32) (l5 : Int32) (l6 : Int32) (g : gG) (H : Heap) (locs : List Loc) (ls : Array Slot), F16 l1 l2 l3 l4 l5 l6 g = some z → va_P (gD Γ) gcls (lay Γ g) H → va_S (gA Γ) s.heap H locs → lv_has ls 8 [(0, .ref (gB Γ + 156)), (1, .int l1), (2, .int l2), (3, .int l3), (4, .int l4), (5, .int l5), (6, .int l6)] → W p l e (gRm 2 46) s m args below meth c H locs 0 0 (MQ below (gQi Γ z) args s 0 0 (gA Γ)) (F0 m 16 ls [])) (h : fs_X8_minutesFrom_59 F16 l1 l2 l3 l6 s0 g = some z) (hP : va_P (gD Γ) gcls (lay Γ g) H) (hS : va_S (gA Γ) s.heap H locs) (hl : lv_has ls 8 [(0, .ref (gB Γ + 156)), (1, .int l1), (2, .int l2), (3, .int l3), (6, .int l6)]) : W p l e (gRm 2 46) s m args below meth c H locs 0 0 (MQ below (gQi Γ z) args s 0 0 (gA Γ)) (F0 m 59 ls [.int s0]) := by
  unfold fs_X8_minutesFrom_59 at h
  obtain ⟨hx, hb, hml, hr, hown, hts, hK, hlk, hX⟩ := id C0
  refine lv_istore (lv' := [(4, .int s0), (0, .ref (gB Γ + 156)), (1, .int l1), (2, .int l2), (3, .int l3), (6, .int l6)]) hx hb dX8_minutesFrom_59 hl (by decide) rfl (fun ls hl => ?_)
  refine lv_iconst (v := 1) hx hb dX8_minutesFrom_61 (by decide) ?_
  refine lv_istore (lv' := [(5, .int (1 : Int32)), (4, .int s0), (0, .ref (gB Γ + 156)), (1, .int l1), (2, .int l2), (3, .int l3), (6, .int l6)]) hx hb dX8_minutesFrom_62 hl (by decide) rfl (fun ls hl => ?_)
  obtain ⟨x1, ex1⟩ : ∃ y : Int32, y = l6 + (1 : Int32) := ⟨_, rfl⟩
  replace h := gLetI ex1 h
  refine lv_iinc (v := x1) (lv' := [(6, .int x1), (5, .int (1 : Int32)), (4, .int s0), (0, .ref (gB Γ + 156)), (1, .int l1), (2, .int l2), (3, .int l3)]) hx hb dX8_minutesFrom_64 hl (k := 6) rfl (by rw [ex1]; rfl) (by decide) rfl (fun ls hl => ?_)
  refine lv_goto (tgt := 16) hx hb dX8_minutesFrom_67 (by decide) ?_
  exact hF16 _ _ _ _ _ _ _ _ _ _ h hP hS (lv_sub hl [3, 4, 5, 6, 2, 1, 0] rfl)
set_option maxHeartbeats 2000000 in
set_option maxRecDepth 20000 in
theorem bs_X8_minutesFrom_16 {p : Program} {l : Launch} {e : Env} {s : State} {m : MethodId} {args : Array Value} {below : List Frame} {meth : Method} {c : Code} {Γ : gE} (C0 : gCx p s m args meth c Γ RX8 cX8_minutesFrom 8 (some .int))   {z : Int32 × gG} {F16 : Int32 → Int32 → Int32 → Int32 → Int32 → Int32 → gG → Option (Int32 × gG)} {l1 : Int32} {l2 : Int32} {l3 : Int32} {l4 : Int32} {l5 : Int32} {l6 : Int32} {g : gG} {H : Heap} {locs : List Loc} {ls : Array Slot} (hF16 : ∀ (l1 : Int32) (l2 : Int32) (l3 : Int32) (l4 : Int32) (l5 : Int32) (l6 : Int32) (g : gG) (H : Heap) (locs : List Loc) (ls : Array Slot), F16 l1 l2 l3 l4 l5 l6 g = some z → va_P (gD Γ) gcls (lay Γ g) H → va_S (gA Γ) s.heap H locs → lv_has ls 8 [(0, .ref (gB Γ + 156)), (1, .int l1), (2, .int l2), (3, .int l3), (4, .int l4), (5, .int l5), (6, .int l6)] → W p l e (gRm 2 46) s m args below meth c H locs 0 0 (MQ below (gQi Γ z) args s 0 0 (gA Γ)) (F0 m 16 ls [])) (h : fs_X8_minutesFrom_16 F16 l1 l2 l3 l4 l5 l6 g = some z) (hP : va_P (gD Γ) gcls (lay Γ g) H) (hS : va_S (gA Γ) s.heap H locs) (hl : lv_has ls 8 [(0, .ref (gB Γ + 156)), (1, .int l1), (2, .int l2), (3, .int l3), (4, .int l4), (5, .int l5), (6, .int l6)]) : W p l e (gRm 2 46) s m args below meth c H locs 0 0 (MQ below (gQi Γ z) args s 0 0 (gA Γ)) (F0 m 16 ls []) := by
  unfold fs_X8_minutesFrom_16 at h
  obtain ⟨hx, hb, hml, hr, hown, hts, hK, hlk, hX⟩ := id C0
  refine lv_iload hx hb dX8_minutesFrom_16 (lv_at hl 6 rfl) ?_
  refine lv_bipush (v := 10) hx hb dX8_minutesFrom_18 (by decide) ?_
  refine lv_icmp_ge (tgt := 70) hx hb dX8_minutesFrom_20 (by decide) (fun c1 => ?_) (fun c1 => ?_)
  · replace h := gpos c1 h
    refine lv_iload hx hb dX8_minutesFrom_70 (lv_at hl 4 rfl) ?_
    exact giret hx hb hr hlk hP hS dX8_minutesFrom_72 h
  · replace h := gneg c1 h
    refine lv_iload_n hx hb dX8_minutesFrom_23 rfl (lv_at hl 3 rfl) ?_
    refine lv_iload hx hb dX8_minutesFrom_24 (lv_at hl 6 rfl) ?_
    refine lv_ishr hx hb dX8_minutesFrom_26 ?_
    refine lv_iconst (v := 1) hx hb dX8_minutesFrom_27 (by decide) ?_
    refine lv_iand hx hb dX8_minutesFrom_28 ?_
    refine lv_if_eq (tgt := 64) hx hb dX8_minutesFrom_29 (by decide) (fun c2 => ?_) (fun c2 => ?_)
    · replace h := gpos c2 h
      obtain ⟨x3, ex3⟩ : ∃ y : Int32, y = l6 + (1 : Int32) := ⟨_, rfl⟩
      replace h := gLetI ex3 h
      refine lv_iinc (v := x3) (lv' := [(6, .int x3), (0, .ref (gB Γ + 156)), (1, .int l1), (2, .int l2), (3, .int l3), (4, .int l4), (5, .int l5)]) hx hb dX8_minutesFrom_64 hl (k := 6) rfl (by rw [ex3]; rfl) (by decide) rfl (fun ls hl => ?_)
      refine lv_goto (tgt := 16) hx hb dX8_minutesFrom_67 (by decide) ?_
      exact hF16 _ _ _ _ _ _ _ _ _ _ h hP hS (lv_sub hl [1, 2, 3, 4, 5, 6, 0] rfl)
    · replace h := gneg c2 h
      refine lv_aload_n hx hb dX8_minutesFrom_32 rfl (lv_at hl 0 rfl) ?_
      refine lv_iload_n hx hb dX8_minutesFrom_33 rfl (lv_at hl 1 rfl) ?_
      refine lv_iload_n hx hb dX8_minutesFrom_34 rfl (lv_at hl 2 rfl) ?_
      refine lv_iload hx hb dX8_minutesFrom_35 (lv_at hl 6 rfl) ?_
      refine gCVi (rest := []) C0 cal_X8_minutesBy wl_X8_72 wi_X8_minutesBy ws_X8_minutesBy ⟨Nat.le_of_ble_eq_true rfl, Nat.le_of_ble_eq_true rfl⟩ ⟨Nat.le_of_ble_eq_true rfl, Nat.le_of_ble_eq_true rfl⟩ grv_8 [.int l1, .int l2, .int l6] rfl (Nat.le_of_ble_eq_true rfl) hP hS hl.1 dX8_minutesFrom_37 h (fun u hu => m_X8_minutesBy l Γ l1 l2 l6 g u hu) (fun u4 H locs h hP hS => ?_) rfl
      refine lv_topi (fun x5 ex5 => ?_)
      replace h := gLetI ex5 h
      refine lv_istore (lv' := [(7, .int x5), (0, .ref (gB Γ + 156)), (1, .int l1), (2, .int l2), (3, .int l3), (4, .int l4), (5, .int l5), (6, .int l6)]) hx hb dX8_minutesFrom_40 hl (by decide) rfl (fun ls hl => ?_)
      refine lv_iload hx hb dX8_minutesFrom_42 (lv_at hl 6 rfl) ?_
      refine lv_if_eq (tgt := 57) hx hb dX8_minutesFrom_44 (by decide) (fun c6 => ?_) (fun c6 => ?_)
      · replace h := gpos c6 h
        refine lv_iload hx hb dX8_minutesFrom_57 (lv_at hl 0 rfl) ?_
        exact bs_X8_minutesFrom_59 C0 hF16 h hP hS (lv_sub hl [1, 2, 3, 4, 7] rfl)
      · replace h := gneg c6 h
        refine lv_iload hx hb dX8_minutesFrom_47 (lv_at hl 5 rfl) ?_
        refine lv_iload hx hb dX8_minutesFrom_49 (lv_at hl 0 rfl) ?_
        refine va_mmin (rest := []) hx hb (hml.trans hl.1.symm) hown (hts _ wl_X8_93) (hts _ wst_min) (hts _ wn_Math) (hts _ wc_min) (Nat.le_of_ble_eq_true rfl) (Nat.le_of_ble_eq_true rfl) (Nat.le_of_ble_eq_true rfl) (Nat.le_of_ble_eq_true rfl) dX8_minutesFrom_51 ?_
        refine lv_goto (tgt := 59) hx hb dX8_minutesFrom_54 (by decide) ?_
        exact bs_X8_minutesFrom_59 C0 hF16 h hP hS (lv_sub hl [1, 2, 3, 4, 7] rfl)
set_option maxHeartbeats 2000000 in
set_option maxRecDepth 20000 in
theorem bk_X8_minutesFrom_16 {p : Program} {l : Launch} {e : Env} {s : State} {m : MethodId} {args : Array Value} {below : List Frame} {meth : Method} {c : Code} {Γ : gE} (C0 : gCx p s m args meth c Γ RX8 cX8_minutesFrom 8 (some .int))   {z : Int32 × gG}   : ∀ (n : Nat) (l1 : Int32) (l2 : Int32) (l3 : Int32) (l4 : Int32) (l5 : Int32) (l6 : Int32) (g : gG) (H : Heap) (locs : List Loc) (ls : Array Slot), fb_X8_minutesFrom_16 n l1 l2 l3 l4 l5 l6 g = some z → va_P (gD Γ) gcls (lay Γ g) H → va_S (gA Γ) s.heap H locs → lv_has ls 8 [(0, .ref (gB Γ + 156)), (1, .int l1), (2, .int l2), (3, .int l3), (4, .int l4), (5, .int l5), (6, .int l6)] → W p l e (gRm 2 46) s m args below meth c H locs 0 0 (MQ below (gQi Γ z) args s 0 0 (gA Γ)) (F0 m 16 ls []) := by
  intro n
  induction n with
  | zero => intro l1 l2 l3 l4 l5 l6 g H locs ls h hP hS hl; cases h
  | succ n ih => intro l1 l2 l3 l4 l5 l6 g H locs ls h hP hS hl; exact bs_X8_minutesFrom_16 C0  ih h hP hS hl
set_option maxHeartbeats 2000000 in
set_option maxRecDepth 20000 in
theorem m_X8_minutesFrom (l : Launch) (Γ : gE)   (a1 : Int32) (a2 : Int32) (g : gG) (z : Int32 × gG) (h : f_X8_minutesFrom a1 a2 g = some z) : gMi l yX8_minutesFrom cX8_minutesFrom 8 (some .int) 2 46 Γ [.ref (gB Γ + 156), .int a1, .int a2] g z := by
  unfold f_X8_minutesFrom at h
  refine gStart (own := RX8) (by decide +kernel) rfl (Nat.le_of_ble_eq_true rfl) ?_
  intro p e s m below meth c C0 ls hl hP
  have hS : va_S (gA Γ) s.heap s.heap [] := va_S.rf
  have hl : lv_has ls 8 [(0, .ref (gB Γ + 156)), (1, .int a1), (2, .int a2)] := hl
  obtain ⟨hx, hb, hml, hr, hown, hts, hK, hlk, hX⟩ := id C0
  refine lv_aload_n hx hb dX8_minutesFrom_0 rfl (lv_at hl 0 rfl) ?_
  refine gf_8_2 hx hb hown hts hK hP wf_X8_15 dX8_minutesFrom_1 ?_
  refine lv_iload_n hx hb dX8_minutesFrom_4 rfl (lv_at hl 1 rfl) ?_
  refine gIld hx hb hK hP is_158 dX8_minutesFrom_5 h (fun h => ?_)
  refine lv_topi (fun x1 ex1 => ?_)
  replace h := gLetI ex1 h
  refine lv_istore_n (lv' := [(3, .int x1), (0, .ref (gB Γ + 156)), (1, .int a1), (2, .int a2)]) hx hb dX8_minutesFrom_6 rfl hl (by decide) rfl (fun ls hl => ?_)
  refine lv_iconst (v := 0) hx hb dX8_minutesFrom_7 (by decide) ?_
  refine lv_istore (lv' := [(4, .int (0 : Int32)), (3, .int x1), (0, .ref (gB Γ + 156)), (1, .int a1), (2, .int a2)]) hx hb dX8_minutesFrom_8 hl (by decide) rfl (fun ls hl => ?_)
  refine lv_iconst (v := 0) hx hb dX8_minutesFrom_10 (by decide) ?_
  refine lv_istore (lv' := [(5, .int (0 : Int32)), (4, .int (0 : Int32)), (3, .int x1), (0, .ref (gB Γ + 156)), (1, .int a1), (2, .int a2)]) hx hb dX8_minutesFrom_11 hl (by decide) rfl (fun ls hl => ?_)
  refine lv_iconst (v := 0) hx hb dX8_minutesFrom_13 (by decide) ?_
  refine lv_istore (lv' := [(6, .int (0 : Int32)), (5, .int (0 : Int32)), (4, .int (0 : Int32)), (3, .int x1), (0, .ref (gB Γ + 156)), (1, .int a1), (2, .int a2)]) hx hb dX8_minutesFrom_14 hl (by decide) rfl (fun ls hl => ?_)
  exact bk_X8_minutesFrom_16 C0  gFuel _ _ _ _ _ _ _ _ _ _ h hP hS (lv_sub hl [4, 5, 6, 3, 2, 1, 0] rfl)
set_option maxHeartbeats 2000000 in
set_option maxRecDepth 20000 in
theorem bs_X8_weighMinutes_53 {p : Program} {l : Launch} {e : Env} {s : State} {m : MethodId} {args : Array Value} {below : List Frame} {meth : Method} {c : Code} {Γ : gE} (C0 : gCx p s m args meth c Γ RX8 cX8_weighMinutes 6 none) {r1 : Nat} (hr1 : isSt r1) {z : Unit × gG} {F20 : Int32 → Int32 → Int32 → gG → Option (Unit × gG)} {F53 : Int32 → Int32 → Int32 → Int32 → gG → Option (Unit × gG)} {l2 : Int32} {l3 : Int32} {l4 : Int32} {l5 : Int32} {g : gG} {H : Heap} {locs : List Loc} {ls : Array Slot} (hF20 : ∀ (l2 : Int32) (l3 : Int32) (l4 : Int32) (g : gG) (H : Heap) (locs : List Loc) (ls : Array Slot), F20 l2 l3 l4 g = some z → va_P (gD Γ) gcls (lay Γ g) H → va_S (gA Γ) s.heap H locs → lv_has ls 6 [(0, .ref (gB Γ + 156)), (2, .int l2), (3, .int l3), (4, .int l4)] → W p l e (gRm 3 73) s m args below meth c H locs 0 0 (MQ below (gQv Γ z) args s 0 0 (gA Γ)) (F0 m 20 ls [])) (hF53 : ∀ (l2 : Int32) (l3 : Int32) (l4 : Int32) (l5 : Int32) (g : gG) (H : Heap) (locs : List Loc) (ls : Array Slot), F53 l2 l3 l4 l5 g = some z → va_P (gD Γ) gcls (lay Γ g) H → va_S (gA Γ) s.heap H locs → lv_has ls 6 [(0, .ref (gB Γ + 156)), (2, .int l2), (3, .int l3), (4, .int l4), (5, .int l5)] → W p l e (gRm 3 73) s m args below meth c H locs 0 0 (MQ below (gQv Γ z) args s 0 0 (gA Γ)) (F0 m 53 ls [])) (h : fs_X8_weighMinutes_53 r1 F20 F53 l2 l3 l4 l5 g = some z) (hP : va_P (gD Γ) gcls (lay Γ g) H) (hS : va_S (gA Γ) s.heap H locs) (hl : lv_has ls 6 [(0, .ref (gB Γ + 156)), (2, .int l2), (3, .int l3), (4, .int l4), (5, .int l5)]) : W p l e (gRm 3 73) s m args below meth c H locs 0 0 (MQ below (gQv Γ z) args s 0 0 (gA Γ)) (F0 m 53 ls []) := by
  unfold fs_X8_weighMinutes_53 at h
  obtain ⟨hx, hb, hml, hr, hown, hts, hK, hlk, hX⟩ := id C0
  refine lv_iload hx hb dX8_weighMinutes_53 (lv_at hl 4 rfl) ?_
  refine lv_iload_n hx hb dX8_weighMinutes_55 rfl (lv_at hl 2 rfl) ?_
  refine lv_icmp_ge (tgt := 100) hx hb dX8_weighMinutes_56 (by decide) (fun c1 => ?_) (fun c1 => ?_)
  · replace h := gpos c1 h
    obtain ⟨x2, ex2⟩ : ∃ y : Int32, y = l4 + (-1 : Int32) := ⟨_, rfl⟩
    replace h := gLetI ex2 h
    refine lv_iinc (v := x2) (lv' := [(4, .int x2), (0, .ref (gB Γ + 156)), (2, .int l2), (3, .int l3), (5, .int l5)]) hx hb dX8_weighMinutes_100 hl (k := 3) rfl (by rw [ex2]; rfl) (by decide) rfl (fun ls hl => ?_)
    refine lv_goto (tgt := 20) hx hb dX8_weighMinutes_103 (by decide) ?_
    exact hF20 _ _ _ _ _ _ _ h hP hS (lv_sub hl [1, 2, 3, 0] rfl)
  · replace h := gneg c1 h
    refine lv_iload hx hb dX8_weighMinutes_59 (lv_at hl 4 rfl) ?_
    refine lv_iload hx hb dX8_weighMinutes_61 (lv_at hl 3 rfl) ?_
    refine lv_iload_n hx hb dX8_weighMinutes_63 rfl (lv_at hl 1 rfl) ?_
    refine lv_iconst (v := -1) hx hb dX8_weighMinutes_64 (by decide) ?_
    refine lv_ixor hx hb dX8_weighMinutes_65 ?_
    refine lv_iand hx hb dX8_weighMinutes_66 ?_
    refine gCNi (rest := []) C0 cal_X9_isIn wln_X8_56 wt_X9_isIn ⟨Nat.le_of_ble_eq_true rfl, Nat.le_of_ble_eq_true rfl⟩ ⟨Nat.le_of_ble_eq_true rfl, Nat.le_of_ble_eq_true rfl⟩ [.int l5, .int (l4 &&& (l2 ^^^ (-1 : Int32)))] rfl (Nat.le_of_ble_eq_true rfl) hP hS hl.1 dX8_weighMinutes_67 h (fun u hu => m_X9_isIn l Γ l5 (l4 &&& (l2 ^^^ (-1 : Int32))) g u hu) (fun u3 H locs h hP hS => ?_) rfl
    refine lv_if_eq (tgt := 94) hx hb dX8_weighMinutes_70 (by decide) (fun c4 => ?_) (fun c4 => ?_)
    · replace h := gpos c4 h
      obtain ⟨x5, ex5⟩ : ∃ y : Int32, y = l5 + (1 : Int32) := ⟨_, rfl⟩
      replace h := gLetI ex5 h
      refine lv_iinc (v := x5) (lv' := [(5, .int x5), (0, .ref (gB Γ + 156)), (2, .int l2), (3, .int l3), (4, .int l4)]) hx hb dX8_weighMinutes_94 hl (k := 4) rfl (by rw [ex5]; rfl) (by decide) rfl (fun ls hl => ?_)
      refine lv_goto (tgt := 53) hx hb dX8_weighMinutes_97 (by decide) ?_
      exact hF53 _ _ _ _ _ _ _ _ h hP hS (lv_sub hl [1, 2, 3, 4, 0] rfl)
    · replace h := gneg c4 h
      refine lv_aload_n hx hb dX8_weighMinutes_73 rfl (lv_at hl 0 rfl) ?_
      refine gf_8_6 hx hb hown hts hK hP wf_X8_27 dX8_weighMinutes_74 ?_
      refine lv_iload hx hb dX8_weighMinutes_77 (lv_at hl 3 rfl) ?_
      refine lv_bipush (v := 10) hx hb dX8_weighMinutes_79 (by decide) ?_
      refine lv_imul hx hb dX8_weighMinutes_81 ?_
      refine lv_iload hx hb dX8_weighMinutes_82 (lv_at hl 4 rfl) ?_
      refine lv_iadd hx hb dX8_weighMinutes_84 ?_
      refine lv_aload_n hx hb dX8_weighMinutes_85 rfl (lv_at hl 0 rfl) ?_
      refine lv_iload hx hb dX8_weighMinutes_86 (lv_at hl 3 rfl) ?_
      refine lv_iload hx hb dX8_weighMinutes_88 (lv_at hl 4 rfl) ?_
      refine gCVi (rest := [.int ((l4 * (10 : Int32)) + l5), .ref (gB Γ + 162)]) C0 cal_X8_minutesFrom wl_X8_68 wi_X8_minutesFrom ws_X8_minutesFrom ⟨Nat.le_of_ble_eq_true rfl, Nat.le_of_ble_eq_true rfl⟩ ⟨Nat.le_of_ble_eq_true rfl, Nat.le_of_ble_eq_true rfl⟩ grv_8 [.int l4, .int l5] rfl (Nat.le_of_ble_eq_true rfl) hP hS hl.1 dX8_weighMinutes_90 h (fun u hu => m_X8_minutesFrom l Γ l4 l5 u3.2 u hu) (fun u6 H locs h hP hS => ?_) rfl
      refine gIst hx hb hK hP hS is_162 dX8_weighMinutes_93 h (fun H locs g7 h hP hS => ?_)
      obtain ⟨x8, ex8⟩ : ∃ y : Int32, y = l5 + (1 : Int32) := ⟨_, rfl⟩
      replace h := gLetI ex8 h
      refine lv_iinc (v := x8) (lv' := [(5, .int x8), (0, .ref (gB Γ + 156)), (2, .int l2), (3, .int l3), (4, .int l4)]) hx hb dX8_weighMinutes_94 hl (k := 4) rfl (by rw [ex8]; rfl) (by decide) rfl (fun ls hl => ?_)
      refine lv_goto (tgt := 53) hx hb dX8_weighMinutes_97 (by decide) ?_
      exact hF53 _ _ _ _ _ _ _ _ h hP hS (lv_sub hl [1, 2, 3, 4, 0] rfl)
set_option maxHeartbeats 2000000 in
set_option maxRecDepth 20000 in
theorem bk_X8_weighMinutes_53 {p : Program} {l : Launch} {e : Env} {s : State} {m : MethodId} {args : Array Value} {below : List Frame} {meth : Method} {c : Code} {Γ : gE} (C0 : gCx p s m args meth c Γ RX8 cX8_weighMinutes 6 none) {r1 : Nat} (hr1 : isSt r1) {z : Unit × gG} {F20 : Int32 → Int32 → Int32 → gG → Option (Unit × gG)} (hF20 : ∀ (l2 : Int32) (l3 : Int32) (l4 : Int32) (g : gG) (H : Heap) (locs : List Loc) (ls : Array Slot), F20 l2 l3 l4 g = some z → va_P (gD Γ) gcls (lay Γ g) H → va_S (gA Γ) s.heap H locs → lv_has ls 6 [(0, .ref (gB Γ + 156)), (2, .int l2), (3, .int l3), (4, .int l4)] → W p l e (gRm 3 73) s m args below meth c H locs 0 0 (MQ below (gQv Γ z) args s 0 0 (gA Γ)) (F0 m 20 ls [])) : ∀ (n : Nat) (l2 : Int32) (l3 : Int32) (l4 : Int32) (l5 : Int32) (g : gG) (H : Heap) (locs : List Loc) (ls : Array Slot), fb_X8_weighMinutes_53 r1 F20 n l2 l3 l4 l5 g = some z → va_P (gD Γ) gcls (lay Γ g) H → va_S (gA Γ) s.heap H locs → lv_has ls 6 [(0, .ref (gB Γ + 156)), (2, .int l2), (3, .int l3), (4, .int l4), (5, .int l5)] → W p l e (gRm 3 73) s m args below meth c H locs 0 0 (MQ below (gQv Γ z) args s 0 0 (gA Γ)) (F0 m 53 ls []) := by
  intro n
  induction n with
  | zero => intro l2 l3 l4 l5 g H locs ls h hP hS hl; cases h
  | succ n ih => intro l2 l3 l4 l5 g H locs ls h hP hS hl; exact bs_X8_weighMinutes_53 C0 hr1 hF20 ih h hP hS hl
set_option maxHeartbeats 2000000 in
set_option maxRecDepth 20000 in
theorem bs_X8_weighMinutes_20 {p : Program} {l : Launch} {e : Env} {s : State} {m : MethodId} {args : Array Value} {below : List Frame} {meth : Method} {c : Code} {Γ : gE} (C0 : gCx p s m args meth c Γ RX8 cX8_weighMinutes 6 none) {r1 : Nat} (hr1 : isSt r1) {z : Unit × gG} {F20 : Int32 → Int32 → Int32 → gG → Option (Unit × gG)} {l2 : Int32} {l3 : Int32} {l4 : Int32} {g : gG} {H : Heap} {locs : List Loc} {ls : Array Slot} (hF20 : ∀ (l2 : Int32) (l3 : Int32) (l4 : Int32) (g : gG) (H : Heap) (locs : List Loc) (ls : Array Slot), F20 l2 l3 l4 g = some z → va_P (gD Γ) gcls (lay Γ g) H → va_S (gA Γ) s.heap H locs → lv_has ls 6 [(0, .ref (gB Γ + 156)), (2, .int l2), (3, .int l3), (4, .int l4)] → W p l e (gRm 3 73) s m args below meth c H locs 0 0 (MQ below (gQv Γ z) args s 0 0 (gA Γ)) (F0 m 20 ls [])) (h : fs_X8_weighMinutes_20 r1 F20 l2 l3 l4 g = some z) (hP : va_P (gD Γ) gcls (lay Γ g) H) (hS : va_S (gA Γ) s.heap H locs) (hl : lv_has ls 6 [(0, .ref (gB Γ + 156)), (2, .int l2), (3, .int l3), (4, .int l4)]) : W p l e (gRm 3 73) s m args below meth c H locs 0 0 (MQ below (gQv Γ z) args s 0 0 (gA Γ)) (F0 m 20 ls []) := by
  unfold fs_X8_weighMinutes_20 at h
  obtain ⟨hx, hb, hml, hr, hown, hts, hK, hlk, hX⟩ := id C0
  refine lv_iload hx hb dX8_weighMinutes_20 (lv_at hl 3 rfl) ?_
  refine lv_iload_n hx hb dX8_weighMinutes_22 rfl (lv_at hl 1 rfl) ?_
  refine lv_icmp_le (tgt := 106) hx hb dX8_weighMinutes_23 (by decide) (fun c1 => ?_) (fun c1 => ?_)
  · replace h := gpos c1 h
    exact gvret hx hb hr hlk hP hS dX8_weighMinutes_106 h
  · replace h := gneg c1 h
    refine lv_aload_n hx hb dX8_weighMinutes_26 rfl (lv_at hl 0 rfl) ?_
    refine gf_8_1 hx hb hown hts hK hP wf_X8_9 dX8_weighMinutes_27 ?_
    refine lv_iload hx hb dX8_weighMinutes_30 (lv_at hl 3 rfl) ?_
    refine gIld hx hb hK hP is_157 dX8_weighMinutes_32 h (fun h => ?_)
    refine lv_iconst (v := -1) hx hb dX8_weighMinutes_33 (by decide) ?_
    refine lv_icmp_eq (tgt := 100) hx hb dX8_weighMinutes_34 (by decide) (fun c2 => ?_) (fun c2 => ?_)
    · replace h := gpos c2 h
      obtain ⟨x3, ex3⟩ : ∃ y : Int32, y = l4 + (-1 : Int32) := ⟨_, rfl⟩
      replace h := gLetI ex3 h
      refine lv_iinc (v := x3) (lv' := [(4, .int x3), (0, .ref (gB Γ + 156)), (2, .int l2), (3, .int l3)]) hx hb dX8_weighMinutes_100 hl (k := 3) rfl (by rw [ex3]; rfl) (by decide) rfl (fun ls hl => ?_)
      refine lv_goto (tgt := 20) hx hb dX8_weighMinutes_103 (by decide) ?_
      exact hF20 _ _ _ _ _ _ _ h hP hS (lv_sub hl [1, 2, 3, 0] rfl)
    · replace h := gneg c2 h
      refine lv_aload_n hx hb dX8_weighMinutes_37 rfl (lv_at hl 0 rfl) ?_
      refine gf_8_3 hx hb hown hts hK hP wf_X8_18 dX8_weighMinutes_38 ?_
      refine lv_iload hx hb dX8_weighMinutes_41 (lv_at hl 3 rfl) ?_
      refine gIld hx hb hK hP is_159 dX8_weighMinutes_43 h (fun h => ?_)
      refine lv_if_ne (tgt := 50) hx hb dX8_weighMinutes_44 (by decide) (fun c4 => ?_) (fun c4 => ?_)
      · replace h := gneg c4 h
        refine lv_iconst (v := 0) hx hb dX8_weighMinutes_50 (by decide) ?_
        refine lv_istore (lv' := [(5, .int (0 : Int32)), (0, .ref (gB Γ + 156)), (2, .int l2), (3, .int l3), (4, .int l4)]) hx hb dX8_weighMinutes_51 hl (by decide) rfl (fun ls hl => ?_)
        exact bk_X8_weighMinutes_53 C0 hr1 hF20 gFuel _ _ _ _ _ _ _ _ h hP hS (lv_sub hl [1, 2, 3, 4, 0] rfl)
      · replace h := gpos c4 h
        refine lv_goto (tgt := 100) hx hb dX8_weighMinutes_47 (by decide) ?_
        obtain ⟨x5, ex5⟩ : ∃ y : Int32, y = l4 + (-1 : Int32) := ⟨_, rfl⟩
        replace h := gLetI ex5 h
        refine lv_iinc (v := x5) (lv' := [(4, .int x5), (0, .ref (gB Γ + 156)), (2, .int l2), (3, .int l3)]) hx hb dX8_weighMinutes_100 hl (k := 3) rfl (by rw [ex5]; rfl) (by decide) rfl (fun ls hl => ?_)
        refine lv_goto (tgt := 20) hx hb dX8_weighMinutes_103 (by decide) ?_
        exact hF20 _ _ _ _ _ _ _ h hP hS (lv_sub hl [1, 2, 3, 0] rfl)
set_option maxHeartbeats 2000000 in
set_option maxRecDepth 20000 in
theorem bk_X8_weighMinutes_20 {p : Program} {l : Launch} {e : Env} {s : State} {m : MethodId} {args : Array Value} {below : List Frame} {meth : Method} {c : Code} {Γ : gE} (C0 : gCx p s m args meth c Γ RX8 cX8_weighMinutes 6 none) {r1 : Nat} (hr1 : isSt r1) {z : Unit × gG}   : ∀ (n : Nat) (l2 : Int32) (l3 : Int32) (l4 : Int32) (g : gG) (H : Heap) (locs : List Loc) (ls : Array Slot), fb_X8_weighMinutes_20 r1 n l2 l3 l4 g = some z → va_P (gD Γ) gcls (lay Γ g) H → va_S (gA Γ) s.heap H locs → lv_has ls 6 [(0, .ref (gB Γ + 156)), (2, .int l2), (3, .int l3), (4, .int l4)] → W p l e (gRm 3 73) s m args below meth c H locs 0 0 (MQ below (gQv Γ z) args s 0 0 (gA Γ)) (F0 m 20 ls []) := by
  intro n
  induction n with
  | zero => intro l2 l3 l4 g H locs ls h hP hS hl; cases h
  | succ n ih => intro l2 l3 l4 g H locs ls h hP hS hl; exact bs_X8_weighMinutes_20 C0 hr1 ih h hP hS hl
set_option maxHeartbeats 2000000 in
set_option maxRecDepth 20000 in
theorem m_X8_weighMinutes (l : Launch) (Γ : gE) {r1 : Nat} (hr1 : isSt r1) (a2 : Int32) (g : gG) (z : Unit × gG) (h : f_X8_weighMinutes r1 a2 g = some z) : gMv l yX8_weighMinutes cX8_weighMinutes 6 none 3 73 Γ [.ref (gB Γ + 156), .ref (gB Γ + r1), .int a2] g z := by
  unfold f_X8_weighMinutes at h
  refine gStart (own := RX8) (by decide +kernel) rfl (Nat.le_of_ble_eq_true rfl) ?_
  intro p e s m below meth c C0 ls hl hP
  have hS : va_S (gA Γ) s.heap s.heap [] := va_S.rf
  have hl : lv_has ls 6 [(0, .ref (gB Γ + 156)), (1, .ref (gB Γ + r1)), (2, .int a2)] := hl
  obtain ⟨hx, hb, hml, hr, hown, hts, hK, hlk, hX⟩ := id C0
  refine lv_aload_n hx hb dX8_weighMinutes_0 rfl (lv_at hl 0 rfl) ?_
  refine lv_aload_n hx hb dX8_weighMinutes_1 rfl (lv_at hl 1 rfl) ?_
  refine gCVv (rest := []) C0 cal_X8_measure wl_X8_104 wi_X8_measure ws_X8_measure ⟨Nat.le_of_ble_eq_true rfl, Nat.le_of_ble_eq_true rfl⟩ ⟨Nat.le_of_ble_eq_true rfl, Nat.le_of_ble_eq_true rfl⟩ grv_8 [.ref (gB Γ + r1)] rfl (Nat.le_of_ble_eq_true rfl) hP hS hl.1 dX8_weighMinutes_2 h (fun u hu => m_X8_measure l Γ hr1 g u hu) (fun u1 H locs h hP hS => ?_) rfl
  refine lv_aload_n hx hb dX8_weighMinutes_5 rfl (lv_at hl 0 rfl) ?_
  refine gf_8_0 hx hb hown hts hK hP wf_X8_33 dX8_weighMinutes_6 ?_
  refine gCVi (rest := []) C0 cal_X0_chest wl_X8_108 wi_X0_chest ws_X0_chest ⟨Nat.le_of_ble_eq_true rfl, Nat.le_of_ble_eq_true rfl⟩ ⟨Nat.le_of_ble_eq_true rfl, Nat.le_of_ble_eq_true rfl⟩ grv_0 [] rfl (Nat.le_of_ble_eq_true rfl) hP hS hl.1 dX8_weighMinutes_9 h (fun u hu => m_X0_chest l Γ u1.2 u hu) (fun u2 H locs h hP hS => ?_) rfl
  refine lv_topi (fun x3 ex3 => ?_)
  replace h := gLetI ex3 h
  refine lv_istore_n (lv' := [(3, .int x3), (0, .ref (gB Γ + 156)), (1, .ref (gB Γ + r1)), (2, .int a2)]) hx hb dX8_weighMinutes_12 rfl hl (by decide) rfl (fun ls hl => ?_)
  refine lv_iconst (v := 1) hx hb dX8_weighMinutes_13 (by decide) ?_
  refine lv_iload_n hx hb dX8_weighMinutes_14 rfl (lv_at hl 0 rfl) ?_
  refine lv_ishl hx hb dX8_weighMinutes_15 ?_
  refine lv_iconst (v := 1) hx hb dX8_weighMinutes_16 (by decide) ?_
  refine lv_isub hx hb dX8_weighMinutes_17 ?_
  refine lv_topi (fun x4 ex4 => ?_)
  replace h := gLetI ex4 h
  refine lv_istore (lv' := [(4, .int x4), (3, .int x3), (0, .ref (gB Γ + 156)), (1, .ref (gB Γ + r1)), (2, .int a2)]) hx hb dX8_weighMinutes_18 hl (by decide) rfl (fun ls hl => ?_)
  exact bk_X8_weighMinutes_20 C0 hr1 gFuel _ _ _ _ _ _ _ h hP hS (lv_sub hl [2, 4, 1, 0] rfl)
set_option maxHeartbeats 2000000 in
set_option maxRecDepth 20000 in
theorem m_X8_whereIs (l : Launch) (Γ : gE) {r0 : Nat} (hr0 : isSt r0) (a1 : Int32) (g : gG) (z : Int32 × gG) (h : f_X8_whereIs r0 a1 g = some z) : gMi l yX8_whereIs cX8_whereIs 3 (some .int) 3 64 Γ [.ref (gB Γ + r0), .int a1] g z := by
  unfold f_X8_whereIs at h
  refine gStart (own := RX8) (by decide +kernel) rfl (Nat.le_of_ble_eq_true rfl) ?_
  intro p e s m below meth c C0 ls hl hP
  have hS : va_S (gA Γ) s.heap s.heap [] := va_S.rf
  have hl : lv_has ls 3 [(0, .ref (gB Γ + r0)), (1, .int a1)] := hl
  obtain ⟨hx, hb, hml, hr, hown, hts, hK, hlk, hX⟩ := id C0
  refine lv_aload_n hx hb dX8_whereIs_0 rfl (lv_at hl 0 rfl) ?_
  refine lv_iload_n hx hb dX8_whereIs_1 rfl (lv_at hl 1 rfl) ?_
  refine gCVi (rest := []) C0 cal_X5_lastOf wl_X8_98 wi_X5_lastOf ws_X5_lastOf ⟨Nat.le_of_ble_eq_true rfl, Nat.le_of_ble_eq_true rfl⟩ ⟨Nat.le_of_ble_eq_true rfl, Nat.le_of_ble_eq_true rfl⟩ (grv_5 hr0) [.int a1] rfl (Nat.le_of_ble_eq_true rfl) hP hS hl.1 dX8_whereIs_2 h (fun u hu => m_X5_lastOf l Γ hr0 a1 g u hu) (fun u1 H locs h hP hS => ?_) rfl
  refine lv_topi (fun x2 ex2 => ?_)
  replace h := gLetI ex2 h
  refine lv_istore_n (lv' := [(2, .int x2), (0, .ref (gB Γ + r0)), (1, .int a1)]) hx hb dX8_whereIs_5 rfl hl (by decide) rfl (fun ls hl => ?_)
  refine lv_iload_n hx hb dX8_whereIs_6 rfl (lv_at hl 0 rfl) ?_
  refine lv_bipush (v := -9) hx hb dX8_whereIs_7 (by decide) ?_
  refine lv_icmp_ne (tgt := 17) hx hb dX8_whereIs_9 (by decide) (fun c3 => ?_) (fun c3 => ?_)
  · replace h := gneg c3 h
    refine lv_iload_n hx hb dX8_whereIs_17 rfl (lv_at hl 0 rfl) ?_
    exact giret hx hb hr hlk hP hS dX8_whereIs_18 h
  · replace h := gpos c3 h
    refine lv_bipush (v := 10) hx hb dX8_whereIs_12 (by decide) ?_
    refine lv_goto (tgt := 18) hx hb dX8_whereIs_14 (by decide) ?_
    exact giret hx hb hr hlk hP hS dX8_whereIs_18 h
set_option maxHeartbeats 2000000 in
set_option maxRecDepth 20000 in
theorem m_X8_fewestMinutes (l : Launch) (Γ : gE) {r1 : Nat} (hr1 : isSt r1) (a2 : Int32) (g : gG) (z : Int32 × gG) (h : f_X8_fewestMinutes r1 a2 g = some z) : gMi l yX8_fewestMinutes cX8_fewestMinutes 4 (some .int) 4 98 Γ [.ref (gB Γ + 156), .ref (gB Γ + r1), .int a2] g z := by
  unfold f_X8_fewestMinutes at h
  refine gStart (own := RX8) (by decide +kernel) rfl (Nat.le_of_ble_eq_true rfl) ?_
  intro p e s m below meth c C0 ls hl hP
  have hS : va_S (gA Γ) s.heap s.heap [] := va_S.rf
  have hl : lv_has ls 4 [(0, .ref (gB Γ + 156)), (1, .ref (gB Γ + r1)), (2, .int a2)] := hl
  obtain ⟨hx, hb, hml, hr, hown, hts, hK, hlk, hX⟩ := id C0
  refine lv_aload_n hx hb dX8_fewestMinutes_0 rfl (lv_at hl 1 rfl) ?_
  refine lv_iload_n hx hb dX8_fewestMinutes_1 rfl (lv_at hl 2 rfl) ?_
  refine gCVi (rest := []) C0 cal_X5_visitedBy wl_X8_37 wi_X5_visitedBy ws_X5_visitedBy ⟨Nat.le_of_ble_eq_true rfl, Nat.le_of_ble_eq_true rfl⟩ ⟨Nat.le_of_ble_eq_true rfl, Nat.le_of_ble_eq_true rfl⟩ (grv_5 hr1) [.int a2] rfl (Nat.le_of_ble_eq_true rfl) hP hS hl.1 dX8_fewestMinutes_2 h (fun u hu => m_X5_visitedBy l Γ hr1 a2 g u hu) (fun u1 H locs h hP hS => ?_) rfl
  refine lv_topi (fun x2 ex2 => ?_)
  replace h := gLetI ex2 h
  refine lv_istore_n (lv' := [(3, .int x2), (0, .ref (gB Γ + 156)), (1, .ref (gB Γ + r1)), (2, .int a2)]) hx hb dX8_fewestMinutes_5 rfl hl (by decide) rfl (fun ls hl => ?_)
  refine lv_aload_n hx hb dX8_fewestMinutes_6 rfl (lv_at hl 1 rfl) ?_
  refine lv_iload_n hx hb dX8_fewestMinutes_7 rfl (lv_at hl 0 rfl) ?_
  refine lv_aload_n hx hb dX8_fewestMinutes_8 rfl (lv_at hl 2 rfl) ?_
  refine gCVi (rest := [.int x2, .ref (gB Γ + 156)]) C0 cal_X5_easedPlaces wl_X8_43 wi_X5_easedPlaces ws_X5_easedPlaces ⟨Nat.le_of_ble_eq_true rfl, Nat.le_of_ble_eq_true rfl⟩ ⟨Nat.le_of_ble_eq_true rfl, Nat.le_of_ble_eq_true rfl⟩ (grv_5 hr1) [] rfl (Nat.le_of_ble_eq_true rfl) hP hS hl.1 dX8_fewestMinutes_9 h (fun u hu => m_X5_easedPlaces l Γ hr1 u1.2 u hu) (fun u3 H locs h hP hS => ?_) rfl
  refine gCVv (rest := []) C0 cal_X8_lookFrom wl_X8_47 wi_X8_lookFrom ws_X8_lookFrom ⟨Nat.le_of_ble_eq_true rfl, Nat.le_of_ble_eq_true rfl⟩ ⟨Nat.le_of_ble_eq_true rfl, Nat.le_of_ble_eq_true rfl⟩ grv_8 [.int x2, .int u3.1] rfl (Nat.le_of_ble_eq_true rfl) hP hS hl.1 dX8_fewestMinutes_12 h (fun u hu => m_X8_lookFrom l Γ x2 u3.1 u3.2 u hu) (fun u4 H locs h hP hS => ?_) rfl
  refine lv_aload_n hx hb dX8_fewestMinutes_15 rfl (lv_at hl 1 rfl) ?_
  refine lv_aload_n hx hb dX8_fewestMinutes_16 rfl (lv_at hl 2 rfl) ?_
  refine lv_iload_n hx hb dX8_fewestMinutes_17 rfl (lv_at hl 0 rfl) ?_
  refine gCVv (rest := []) C0 cal_X8_weighMinutes wl_X8_60 wi_X8_weighMinutes ws_X8_weighMinutes ⟨Nat.le_of_ble_eq_true rfl, Nat.le_of_ble_eq_true rfl⟩ ⟨Nat.le_of_ble_eq_true rfl, Nat.le_of_ble_eq_true rfl⟩ grv_8 [.ref (gB Γ + r1), .int x2] rfl (Nat.le_of_ble_eq_true rfl) hP hS hl.1 dX8_fewestMinutes_18 h (fun u hu => m_X8_weighMinutes l Γ hr1 x2 u4.2 u hu) (fun u5 H locs h hP hS => ?_) rfl
  refine lv_aload_n hx hb dX8_fewestMinutes_21 rfl (lv_at hl 1 rfl) ?_
  refine gf_8_3 hx hb hown hts hK hP wf_X8_18 dX8_fewestMinutes_22 ?_
  refine lv_iload_n hx hb dX8_fewestMinutes_25 rfl (lv_at hl 0 rfl) ?_
  refine gIld hx hb hK hP is_159 dX8_fewestMinutes_26 h (fun h => ?_)
  refine lv_if_ne (tgt := 35) hx hb dX8_fewestMinutes_27 (by decide) (fun c6 => ?_) (fun c6 => ?_)
  · replace h := gneg c6 h
    refine lv_aload_n hx hb dX8_fewestMinutes_35 rfl (lv_at hl 1 rfl) ?_
    refine lv_iload_n hx hb dX8_fewestMinutes_36 rfl (lv_at hl 0 rfl) ?_
    refine lv_aload_n hx hb dX8_fewestMinutes_37 rfl (lv_at hl 2 rfl) ?_
    refine lv_iload_n hx hb dX8_fewestMinutes_38 rfl (lv_at hl 3 rfl) ?_
    refine gCSi (rest := [.int x2, .ref (gB Γ + 156)]) C0 cal_X8_whereIs wl_X8_64 wt_X8_whereIs ⟨Nat.le_of_ble_eq_true rfl, Nat.le_of_ble_eq_true rfl⟩ ⟨Nat.le_of_ble_eq_true rfl, Nat.le_of_ble_eq_true rfl⟩ [.ref (gB Γ + r1), .int a2] rfl (Nat.le_of_ble_eq_true rfl) hP hS hl.1 dX8_fewestMinutes_39 h (fun u hu => m_X8_whereIs l Γ hr1 a2 u5.2 u hu) (fun u7 H locs h hP hS => ?_) rfl
    refine gCVi (rest := []) C0 cal_X8_minutesFrom wl_X8_68 wi_X8_minutesFrom ws_X8_minutesFrom ⟨Nat.le_of_ble_eq_true rfl, Nat.le_of_ble_eq_true rfl⟩ ⟨Nat.le_of_ble_eq_true rfl, Nat.le_of_ble_eq_true rfl⟩ grv_8 [.int x2, .int u7.1] rfl (Nat.le_of_ble_eq_true rfl) hP hS hl.1 dX8_fewestMinutes_42 h (fun u hu => m_X8_minutesFrom l Γ x2 u7.1 u7.2 u hu) (fun u8 H locs h hP hS => ?_) rfl
    exact giret hx hb hr hlk hP hS dX8_fewestMinutes_45 h
  · replace h := gpos c6 h
    refine lv_bipush (v := -9) hx hb dX8_fewestMinutes_30 (by decide) ?_
    refine lv_goto (tgt := 45) hx hb dX8_fewestMinutes_32 (by decide) ?_
    exact giret hx hb hr hlk hP hS dX8_fewestMinutes_45 h
set_option maxHeartbeats 2000000 in
set_option maxRecDepth 20000 in
theorem bs_X8_firstOfQuickest_40 {p : Program} {l : Launch} {e : Env} {s : State} {m : MethodId} {args : Array Value} {below : List Frame} {meth : Method} {c : Code} {Γ : gE} (C0 : gCx p s m args meth c Γ RX8 cX8_firstOfQuickest 7 (some .int)) {r1 : Nat} (hr1 : isSt r1) {z : Int32 × gG} {F40 : Int32 → Int32 → Int32 → Int32 → gG → Option (Int32 × gG)} {l3 : Int32} {l4 : Int32} {l5 : Int32} {l6 : Int32} {g : gG} {H : Heap} {locs : List Loc} {ls : Array Slot} (hF40 : ∀ (l3 : Int32) (l4 : Int32) (l5 : Int32) (l6 : Int32) (g : gG) (H : Heap) (locs : List Loc) (ls : Array Slot), F40 l3 l4 l5 l6 g = some z → va_P (gD Γ) gcls (lay Γ g) H → va_S (gA Γ) s.heap H locs → lv_has ls 7 [(0, .ref (gB Γ + 156)), (3, .int l3), (4, .int l4), (5, .int l5), (6, .int l6)] → W p l e (gRm 4 98) s m args below meth c H locs 0 0 (MQ below (gQi Γ z) args s 0 0 (gA Γ)) (F0 m 40 ls [])) (h : fs_X8_firstOfQuickest_40 r1 F40 l3 l4 l5 l6 g = some z) (hP : va_P (gD Γ) gcls (lay Γ g) H) (hS : va_S (gA Γ) s.heap H locs) (hl : lv_has ls 7 [(0, .ref (gB Γ + 156)), (3, .int l3), (4, .int l4), (5, .int l5), (6, .int l6)]) : W p l e (gRm 4 98) s m args below meth c H locs 0 0 (MQ below (gQi Γ z) args s 0 0 (gA Γ)) (F0 m 40 ls []) := by
  unfold fs_X8_firstOfQuickest_40 at h
  obtain ⟨hx, hb, hml, hr, hown, hts, hK, hlk, hX⟩ := id C0
  refine lv_iload hx hb dX8_firstOfQuickest_40 (lv_at hl 4 rfl) ?_
  refine lv_aload_n hx hb dX8_firstOfQuickest_42 rfl (lv_at hl 0 rfl) ?_
  refine gf_8_0 hx hb hown hts hK hP wf_X8_33 dX8_firstOfQuickest_43 ?_
  refine gCVi (rest := [.int l6]) C0 cal_X0_count wl_X8_51 wi_X0_count ws_X0_count ⟨Nat.le_of_ble_eq_true rfl, Nat.le_of_ble_eq_true rfl⟩ ⟨Nat.le_of_ble_eq_true rfl, Nat.le_of_ble_eq_true rfl⟩ grv_0 [] rfl (Nat.le_of_ble_eq_true rfl) hP hS hl.1 dX8_firstOfQuickest_46 h (fun u hu => m_X0_count l Γ g u hu) (fun u1 H locs h hP hS => ?_) rfl
  refine lv_icmp_ge (tgt := 89) hx hb dX8_firstOfQuickest_49 (by decide) (fun c2 => ?_) (fun c2 => ?_)
  · replace h := gpos c2 h
    refine lv_bipush (v := -9) hx hb dX8_firstOfQuickest_89 (by decide) ?_
    exact giret hx hb hr hlk hP hS dX8_firstOfQuickest_91 h
  · replace h := gneg c2 h
    refine lv_iload hx hb dX8_firstOfQuickest_52 (lv_at hl 4 rfl) ?_
    refine lv_aload_n hx hb dX8_firstOfQuickest_54 rfl (lv_at hl 0 rfl) ?_
    refine gf_8_2 hx hb hown hts hK hP wf_X8_15 dX8_firstOfQuickest_55 ?_
    refine lv_iload_n hx hb dX8_firstOfQuickest_58 rfl (lv_at hl 1 rfl) ?_
    refine gIld hx hb hK hP is_158 dX8_firstOfQuickest_59 h (fun h => ?_)
    refine gCNi (rest := []) C0 cal_X9_isIn wln_X8_56 wt_X9_isIn ⟨Nat.le_of_ble_eq_true rfl, Nat.le_of_ble_eq_true rfl⟩ ⟨Nat.le_of_ble_eq_true rfl, Nat.le_of_ble_eq_true rfl⟩ [.int l6, .int (u1.2.1 158 l3.toNatClampNeg)] rfl (Nat.le_of_ble_eq_true rfl) hP hS hl.1 dX8_firstOfQuickest_60 h (fun u hu => m_X9_isIn l Γ l6 (u1.2.1 158 l3.toNatClampNeg) u1.2 u hu) (fun u3 H locs h hP hS => ?_) rfl
    refine lv_if_eq (tgt := 83) hx hb dX8_firstOfQuickest_63 (by decide) (fun c4 => ?_) (fun c4 => ?_)
    · replace h := gpos c4 h
      obtain ⟨x5, ex5⟩ : ∃ y : Int32, y = l6 + (1 : Int32) := ⟨_, rfl⟩
      replace h := gLetI ex5 h
      refine lv_iinc (v := x5) (lv' := [(6, .int x5), (0, .ref (gB Γ + 156)), (3, .int l3), (4, .int l4), (5, .int l5)]) hx hb dX8_firstOfQuickest_83 hl (k := 4) rfl (by rw [ex5]; rfl) (by decide) rfl (fun ls hl => ?_)
      refine lv_goto (tgt := 40) hx hb dX8_firstOfQuickest_86 (by decide) ?_
      exact hF40 _ _ _ _ _ _ _ _ h hP hS (lv_sub hl [1, 2, 3, 4, 0] rfl)
    · replace h := gneg c4 h
      refine lv_aload_n hx hb dX8_firstOfQuickest_66 rfl (lv_at hl 0 rfl) ?_
      refine lv_iload_n hx hb dX8_firstOfQuickest_67 rfl (lv_at hl 1 rfl) ?_
      refine lv_iload hx hb dX8_firstOfQuickest_68 (lv_at hl 2 rfl) ?_
      refine lv_iload hx hb dX8_firstOfQuickest_70 (lv_at hl 4 rfl) ?_
      refine gCVi (rest := []) C0 cal_X8_minutesBy wl_X8_72 wi_X8_minutesBy ws_X8_minutesBy ⟨Nat.le_of_ble_eq_true rfl, Nat.le_of_ble_eq_true rfl⟩ ⟨Nat.le_of_ble_eq_true rfl, Nat.le_of_ble_eq_true rfl⟩ grv_8 [.int l3, .int l4, .int l6] rfl (Nat.le_of_ble_eq_true rfl) hP hS hl.1 dX8_firstOfQuickest_72 h (fun u hu => m_X8_minutesBy l Γ l3 l4 l6 u3.2 u hu) (fun u6 H locs h hP hS => ?_) rfl
      refine lv_iload hx hb dX8_firstOfQuickest_75 (lv_at hl 3 rfl) ?_
      refine lv_icmp_ne (tgt := 83) hx hb dX8_firstOfQuickest_77 (by decide) (fun c7 => ?_) (fun c7 => ?_)
      · replace h := gneg c7 h
        obtain ⟨x8, ex8⟩ : ∃ y : Int32, y = l6 + (1 : Int32) := ⟨_, rfl⟩
        replace h := gLetI ex8 h
        refine lv_iinc (v := x8) (lv' := [(6, .int x8), (0, .ref (gB Γ + 156)), (3, .int l3), (4, .int l4), (5, .int l5)]) hx hb dX8_firstOfQuickest_83 hl (k := 4) rfl (by rw [ex8]; rfl) (by decide) rfl (fun ls hl => ?_)
        refine lv_goto (tgt := 40) hx hb dX8_firstOfQuickest_86 (by decide) ?_
        exact hF40 _ _ _ _ _ _ _ _ h hP hS (lv_sub hl [1, 2, 3, 4, 0] rfl)
      · replace h := gpos c7 h
        refine lv_iload hx hb dX8_firstOfQuickest_80 (lv_at hl 4 rfl) ?_
        exact giret hx hb hr hlk hP hS dX8_firstOfQuickest_82 h
set_option maxHeartbeats 2000000 in
set_option maxRecDepth 20000 in
theorem bk_X8_firstOfQuickest_40 {p : Program} {l : Launch} {e : Env} {s : State} {m : MethodId} {args : Array Value} {below : List Frame} {meth : Method} {c : Code} {Γ : gE} (C0 : gCx p s m args meth c Γ RX8 cX8_firstOfQuickest 7 (some .int)) {r1 : Nat} (hr1 : isSt r1) {z : Int32 × gG}   : ∀ (n : Nat) (l3 : Int32) (l4 : Int32) (l5 : Int32) (l6 : Int32) (g : gG) (H : Heap) (locs : List Loc) (ls : Array Slot), fb_X8_firstOfQuickest_40 r1 n l3 l4 l5 l6 g = some z → va_P (gD Γ) gcls (lay Γ g) H → va_S (gA Γ) s.heap H locs → lv_has ls 7 [(0, .ref (gB Γ + 156)), (3, .int l3), (4, .int l4), (5, .int l5), (6, .int l6)] → W p l e (gRm 4 98) s m args below meth c H locs 0 0 (MQ below (gQi Γ z) args s 0 0 (gA Γ)) (F0 m 40 ls []) := by
  intro n
  induction n with
  | zero => intro l3 l4 l5 l6 g H locs ls h hP hS hl; cases h
  | succ n ih => intro l3 l4 l5 l6 g H locs ls h hP hS hl; exact bs_X8_firstOfQuickest_40 C0 hr1 ih h hP hS hl
set_option maxHeartbeats 2000000 in
set_option maxRecDepth 20000 in
theorem m_X8_firstOfQuickest (l : Launch) (Γ : gE) {r1 : Nat} (hr1 : isSt r1) (a2 : Int32) (g : gG) (z : Int32 × gG) (h : f_X8_firstOfQuickest r1 a2 g = some z) : gMi l yX8_firstOfQuickest cX8_firstOfQuickest 7 (some .int) 4 98 Γ [.ref (gB Γ + 156), .ref (gB Γ + r1), .int a2] g z := by
  unfold f_X8_firstOfQuickest at h
  refine gStart (own := RX8) (by decide +kernel) rfl (Nat.le_of_ble_eq_true rfl) ?_
  intro p e s m below meth c C0 ls hl hP
  have hS : va_S (gA Γ) s.heap s.heap [] := va_S.rf
  have hl : lv_has ls 7 [(0, .ref (gB Γ + 156)), (1, .ref (gB Γ + r1)), (2, .int a2)] := hl
  obtain ⟨hx, hb, hml, hr, hown, hts, hK, hlk, hX⟩ := id C0
  refine lv_aload_n hx hb dX8_firstOfQuickest_0 rfl (lv_at hl 1 rfl) ?_
  refine lv_iload_n hx hb dX8_firstOfQuickest_1 rfl (lv_at hl 2 rfl) ?_
  refine gCVi (rest := []) C0 cal_X5_visitedBy wl_X8_37 wi_X5_visitedBy ws_X5_visitedBy ⟨Nat.le_of_ble_eq_true rfl, Nat.le_of_ble_eq_true rfl⟩ ⟨Nat.le_of_ble_eq_true rfl, Nat.le_of_ble_eq_true rfl⟩ (grv_5 hr1) [.int a2] rfl (Nat.le_of_ble_eq_true rfl) hP hS hl.1 dX8_firstOfQuickest_2 h (fun u hu => m_X5_visitedBy l Γ hr1 a2 g u hu) (fun u1 H locs h hP hS => ?_) rfl
  refine lv_topi (fun x2 ex2 => ?_)
  replace h := gLetI ex2 h
  refine lv_istore_n (lv' := [(3, .int x2), (0, .ref (gB Γ + 156)), (1, .ref (gB Γ + r1)), (2, .int a2)]) hx hb dX8_firstOfQuickest_5 rfl hl (by decide) rfl (fun ls hl => ?_)
  refine lv_aload_n hx hb dX8_firstOfQuickest_6 rfl (lv_at hl 2 rfl) ?_
  refine lv_iload_n hx hb dX8_firstOfQuickest_7 rfl (lv_at hl 3 rfl) ?_
  refine gCSi (rest := []) C0 cal_X8_whereIs wl_X8_64 wt_X8_whereIs ⟨Nat.le_of_ble_eq_true rfl, Nat.le_of_ble_eq_true rfl⟩ ⟨Nat.le_of_ble_eq_true rfl, Nat.le_of_ble_eq_true rfl⟩ [.ref (gB Γ + r1), .int a2] rfl (Nat.le_of_ble_eq_true rfl) hP hS hl.1 dX8_firstOfQuickest_8 h (fun u hu => m_X8_whereIs l Γ hr1 a2 u1.2 u hu) (fun u3 H locs h hP hS => ?_) rfl
  refine lv_topi (fun x4 ex4 => ?_)
  replace h := gLetI ex4 h
  refine lv_istore (lv' := [(4, .int x4), (3, .int x2), (0, .ref (gB Γ + 156)), (1, .ref (gB Γ + r1)), (2, .int a2)]) hx hb dX8_firstOfQuickest_11 hl (by decide) rfl (fun ls hl => ?_)
  refine lv_aload_n hx hb dX8_firstOfQuickest_13 rfl (lv_at hl 2 rfl) ?_
  refine lv_iload_n hx hb dX8_firstOfQuickest_14 rfl (lv_at hl 1 rfl) ?_
  refine lv_aload_n hx hb dX8_firstOfQuickest_15 rfl (lv_at hl 3 rfl) ?_
  refine gCVi (rest := [.int x2, .ref (gB Γ + 156)]) C0 cal_X5_easedPlaces wl_X8_43 wi_X5_easedPlaces ws_X5_easedPlaces ⟨Nat.le_of_ble_eq_true rfl, Nat.le_of_ble_eq_true rfl⟩ ⟨Nat.le_of_ble_eq_true rfl, Nat.le_of_ble_eq_true rfl⟩ (grv_5 hr1) [] rfl (Nat.le_of_ble_eq_true rfl) hP hS hl.1 dX8_firstOfQuickest_16 h (fun u hu => m_X5_easedPlaces l Γ hr1 u3.2 u hu) (fun u5 H locs h hP hS => ?_) rfl
  refine gCVv (rest := []) C0 cal_X8_lookFrom wl_X8_47 wi_X8_lookFrom ws_X8_lookFrom ⟨Nat.le_of_ble_eq_true rfl, Nat.le_of_ble_eq_true rfl⟩ ⟨Nat.le_of_ble_eq_true rfl, Nat.le_of_ble_eq_true rfl⟩ grv_8 [.int x2, .int u5.1] rfl (Nat.le_of_ble_eq_true rfl) hP hS hl.1 dX8_firstOfQuickest_19 h (fun u hu => m_X8_lookFrom l Γ x2 u5.1 u5.2 u hu) (fun u6 H locs h hP hS => ?_) rfl
  refine lv_aload_n hx hb dX8_firstOfQuickest_22 rfl (lv_at hl 2 rfl) ?_
  refine lv_aload_n hx hb dX8_firstOfQuickest_23 rfl (lv_at hl 3 rfl) ?_
  refine lv_iload_n hx hb dX8_firstOfQuickest_24 rfl (lv_at hl 1 rfl) ?_
  refine gCVv (rest := []) C0 cal_X8_weighMinutes wl_X8_60 wi_X8_weighMinutes ws_X8_weighMinutes ⟨Nat.le_of_ble_eq_true rfl, Nat.le_of_ble_eq_true rfl⟩ ⟨Nat.le_of_ble_eq_true rfl, Nat.le_of_ble_eq_true rfl⟩ grv_8 [.ref (gB Γ + r1), .int x2] rfl (Nat.le_of_ble_eq_true rfl) hP hS hl.1 dX8_firstOfQuickest_25 h (fun u hu => m_X8_weighMinutes l Γ hr1 x2 u6.2 u hu) (fun u7 H locs h hP hS => ?_) rfl
  refine lv_aload_n hx hb dX8_firstOfQuickest_28 rfl (lv_at hl 2 rfl) ?_
  refine lv_iload_n hx hb dX8_firstOfQuickest_29 rfl (lv_at hl 1 rfl) ?_
  refine lv_iload hx hb dX8_firstOfQuickest_30 (lv_at hl 0 rfl) ?_
  refine gCVi (rest := []) C0 cal_X8_minutesFrom wl_X8_68 wi_X8_minutesFrom ws_X8_minutesFrom ⟨Nat.le_of_ble_eq_true rfl, Nat.le_of_ble_eq_true rfl⟩ ⟨Nat.le_of_ble_eq_true rfl, Nat.le_of_ble_eq_true rfl⟩ grv_8 [.int x2, .int x4] rfl (Nat.le_of_ble_eq_true rfl) hP hS hl.1 dX8_firstOfQuickest_32 h (fun u hu => m_X8_minutesFrom l Γ x2 x4 u7.2 u hu) (fun u8 H locs h hP hS => ?_) rfl
  refine lv_topi (fun x9 ex9 => ?_)
  replace h := gLetI ex9 h
  refine lv_istore (lv' := [(5, .int x9), (4, .int x4), (3, .int x2), (0, .ref (gB Γ + 156)), (1, .ref (gB Γ + r1)), (2, .int a2)]) hx hb dX8_firstOfQuickest_35 hl (by decide) rfl (fun ls hl => ?_)
  refine lv_iconst (v := 0) hx hb dX8_firstOfQuickest_37 (by decide) ?_
  refine lv_istore (lv' := [(6, .int (0 : Int32)), (5, .int x9), (4, .int x4), (3, .int x2), (0, .ref (gB Γ + 156)), (1, .ref (gB Γ + r1)), (2, .int a2)]) hx hb dX8_firstOfQuickest_38 hl (by decide) rfl (fun ls hl => ?_)
  exact bk_X8_firstOfQuickest_40 C0 hr1 gFuel _ _ _ _ _ _ _ _ h hP hS (lv_sub hl [4, 3, 2, 1, 0] rfl)
set_option maxHeartbeats 2000000 in
set_option maxRecDepth 20000 in
theorem m_X8_ordersOf (l : Launch) (Γ : gE) {r1 : Nat} (hr1 : isSt r1) (a2 : Int32) (g : gG) (z : Int32 × gG) (h : f_X8_ordersOf r1 a2 g = some z) : gMi l yX8_ordersOf cX8_ordersOf 4 (some .int) 3 73 Γ [.ref (gB Γ + 156), .ref (gB Γ + r1), .int a2] g z := by
  unfold f_X8_ordersOf at h
  refine gStart (own := RX8) (by decide +kernel) rfl (Nat.le_of_ble_eq_true rfl) ?_
  intro p e s m below meth c C0 ls hl hP
  have hS : va_S (gA Γ) s.heap s.heap [] := va_S.rf
  have hl : lv_has ls 4 [(0, .ref (gB Γ + 156)), (1, .ref (gB Γ + r1)), (2, .int a2)] := hl
  obtain ⟨hx, hb, hml, hr, hown, hts, hK, hlk, hX⟩ := id C0
  refine lv_aload_n hx hb dX8_ordersOf_0 rfl (lv_at hl 1 rfl) ?_
  refine lv_iload_n hx hb dX8_ordersOf_1 rfl (lv_at hl 2 rfl) ?_
  refine gCVi (rest := []) C0 cal_X5_visitedBy wl_X8_37 wi_X5_visitedBy ws_X5_visitedBy ⟨Nat.le_of_ble_eq_true rfl, Nat.le_of_ble_eq_true rfl⟩ ⟨Nat.le_of_ble_eq_true rfl, Nat.le_of_ble_eq_true rfl⟩ (grv_5 hr1) [.int a2] rfl (Nat.le_of_ble_eq_true rfl) hP hS hl.1 dX8_ordersOf_2 h (fun u hu => m_X5_visitedBy l Γ hr1 a2 g u hu) (fun u1 H locs h hP hS => ?_) rfl
  refine lv_topi (fun x2 ex2 => ?_)
  replace h := gLetI ex2 h
  refine lv_istore_n (lv' := [(3, .int x2), (0, .ref (gB Γ + 156)), (1, .ref (gB Γ + r1)), (2, .int a2)]) hx hb dX8_ordersOf_5 rfl hl (by decide) rfl (fun ls hl => ?_)
  refine lv_aload_n hx hb dX8_ordersOf_6 rfl (lv_at hl 1 rfl) ?_
  refine lv_iload_n hx hb dX8_ordersOf_7 rfl (lv_at hl 0 rfl) ?_
  refine lv_aload_n hx hb dX8_ordersOf_8 rfl (lv_at hl 2 rfl) ?_
  refine gCVi (rest := [.int x2, .ref (gB Γ + 156)]) C0 cal_X5_easedPlaces wl_X8_43 wi_X5_easedPlaces ws_X5_easedPlaces ⟨Nat.le_of_ble_eq_true rfl, Nat.le_of_ble_eq_true rfl⟩ ⟨Nat.le_of_ble_eq_true rfl, Nat.le_of_ble_eq_true rfl⟩ (grv_5 hr1) [] rfl (Nat.le_of_ble_eq_true rfl) hP hS hl.1 dX8_ordersOf_9 h (fun u hu => m_X5_easedPlaces l Γ hr1 u1.2 u hu) (fun u3 H locs h hP hS => ?_) rfl
  refine gCVv (rest := []) C0 cal_X8_lookFrom wl_X8_47 wi_X8_lookFrom ws_X8_lookFrom ⟨Nat.le_of_ble_eq_true rfl, Nat.le_of_ble_eq_true rfl⟩ ⟨Nat.le_of_ble_eq_true rfl, Nat.le_of_ble_eq_true rfl⟩ grv_8 [.int x2, .int u3.1] rfl (Nat.le_of_ble_eq_true rfl) hP hS hl.1 dX8_ordersOf_12 h (fun u hu => m_X8_lookFrom l Γ x2 u3.1 u3.2 u hu) (fun u4 H locs h hP hS => ?_) rfl
  refine lv_aload_n hx hb dX8_ordersOf_15 rfl (lv_at hl 1 rfl) ?_
  refine gf_8_3 hx hb hown hts hK hP wf_X8_18 dX8_ordersOf_16 ?_
  refine lv_iload_n hx hb dX8_ordersOf_19 rfl (lv_at hl 0 rfl) ?_
  refine gIld hx hb hK hP is_159 dX8_ordersOf_20 h (fun h => ?_)
  exact giret hx hb hr hlk hP hS dX8_ordersOf_21 h
set_option maxHeartbeats 2000000 in
set_option maxRecDepth 20000 in
theorem m_X8_neededBy (l : Launch) (Γ : gE) {r1 : Nat} (hr1 : isSt r1) (a2 : Int32) (g : gG) (z : Int32 × gG) (h : f_X8_neededBy r1 a2 g = some z) : gMi l yX8_neededBy cX8_neededBy 4 (some .int) 3 73 Γ [.ref (gB Γ + 156), .ref (gB Γ + r1), .int a2] g z := by
  unfold f_X8_neededBy at h
  refine gStart (own := RX8) (by decide +kernel) rfl (Nat.le_of_ble_eq_true rfl) ?_
  intro p e s m below meth c C0 ls hl hP
  have hS : va_S (gA Γ) s.heap s.heap [] := va_S.rf
  have hl : lv_has ls 4 [(0, .ref (gB Γ + 156)), (1, .ref (gB Γ + r1)), (2, .int a2)] := hl
  obtain ⟨hx, hb, hml, hr, hown, hts, hK, hlk, hX⟩ := id C0
  refine lv_aload_n hx hb dX8_neededBy_0 rfl (lv_at hl 1 rfl) ?_
  refine lv_iload_n hx hb dX8_neededBy_1 rfl (lv_at hl 2 rfl) ?_
  refine gCVi (rest := []) C0 cal_X5_visitedBy wl_X8_37 wi_X5_visitedBy ws_X5_visitedBy ⟨Nat.le_of_ble_eq_true rfl, Nat.le_of_ble_eq_true rfl⟩ ⟨Nat.le_of_ble_eq_true rfl, Nat.le_of_ble_eq_true rfl⟩ (grv_5 hr1) [.int a2] rfl (Nat.le_of_ble_eq_true rfl) hP hS hl.1 dX8_neededBy_2 h (fun u hu => m_X5_visitedBy l Γ hr1 a2 g u hu) (fun u1 H locs h hP hS => ?_) rfl
  refine lv_topi (fun x2 ex2 => ?_)
  replace h := gLetI ex2 h
  refine lv_istore_n (lv' := [(3, .int x2), (0, .ref (gB Γ + 156)), (1, .ref (gB Γ + r1)), (2, .int a2)]) hx hb dX8_neededBy_5 rfl hl (by decide) rfl (fun ls hl => ?_)
  refine lv_aload_n hx hb dX8_neededBy_6 rfl (lv_at hl 1 rfl) ?_
  refine lv_iload_n hx hb dX8_neededBy_7 rfl (lv_at hl 0 rfl) ?_
  refine lv_aload_n hx hb dX8_neededBy_8 rfl (lv_at hl 2 rfl) ?_
  refine gCVi (rest := [.int x2, .ref (gB Γ + 156)]) C0 cal_X5_easedPlaces wl_X8_43 wi_X5_easedPlaces ws_X5_easedPlaces ⟨Nat.le_of_ble_eq_true rfl, Nat.le_of_ble_eq_true rfl⟩ ⟨Nat.le_of_ble_eq_true rfl, Nat.le_of_ble_eq_true rfl⟩ (grv_5 hr1) [] rfl (Nat.le_of_ble_eq_true rfl) hP hS hl.1 dX8_neededBy_9 h (fun u hu => m_X5_easedPlaces l Γ hr1 u1.2 u hu) (fun u3 H locs h hP hS => ?_) rfl
  refine gCVv (rest := []) C0 cal_X8_lookFrom wl_X8_47 wi_X8_lookFrom ws_X8_lookFrom ⟨Nat.le_of_ble_eq_true rfl, Nat.le_of_ble_eq_true rfl⟩ ⟨Nat.le_of_ble_eq_true rfl, Nat.le_of_ble_eq_true rfl⟩ grv_8 [.int x2, .int u3.1] rfl (Nat.le_of_ble_eq_true rfl) hP hS hl.1 dX8_neededBy_12 h (fun u hu => m_X8_lookFrom l Γ x2 u3.1 u3.2 u hu) (fun u4 H locs h hP hS => ?_) rfl
  refine lv_aload_n hx hb dX8_neededBy_15 rfl (lv_at hl 1 rfl) ?_
  refine gf_8_3 hx hb hown hts hK hP wf_X8_18 dX8_neededBy_16 ?_
  refine lv_iload_n hx hb dX8_neededBy_19 rfl (lv_at hl 0 rfl) ?_
  refine gIld hx hb hK hP is_159 dX8_neededBy_20 h (fun h => ?_)
  refine lv_if_ne (tgt := 29) hx hb dX8_neededBy_21 (by decide) (fun c5 => ?_) (fun c5 => ?_)
  · replace h := gneg c5 h
    refine lv_aload_n hx hb dX8_neededBy_29 rfl (lv_at hl 1 rfl) ?_
    refine gf_8_5 hx hb hown hts hK hP wf_X8_24 dX8_neededBy_30 ?_
    refine lv_iload_n hx hb dX8_neededBy_33 rfl (lv_at hl 0 rfl) ?_
    refine gIld hx hb hK hP is_161 dX8_neededBy_34 h (fun h => ?_)
    exact giret hx hb hr hlk hP hS dX8_neededBy_35 h
  · replace h := gpos c5 h
    refine lv_bipush (v := -9) hx hb dX8_neededBy_24 (by decide) ?_
    refine lv_goto (tgt := 35) hx hb dX8_neededBy_26 (by decide) ?_
    exact giret hx hb hr hlk hP hS dX8_neededBy_35 h
set_option maxHeartbeats 2000000 in
set_option maxRecDepth 20000 in
theorem bs_X8_countDeadEnds_19 {p : Program} {l : Launch} {e : Env} {s : State} {m : MethodId} {args : Array Value} {below : List Frame} {meth : Method} {c : Code} {Γ : gE} (C0 : gCx p s m args meth c Γ RX8 cX8_countDeadEnds 5 (some .int))   {z : Int32 × gG} {F19 : Int32 → Int32 → Int32 → gG → Option (Int32 × gG)} {l2 : Int32} {l3 : Int32} {l4 : Int32} {g : gG} {H : Heap} {locs : List Loc} {ls : Array Slot} (hF19 : ∀ (l2 : Int32) (l3 : Int32) (l4 : Int32) (g : gG) (H : Heap) (locs : List Loc) (ls : Array Slot), F19 l2 l3 l4 g = some z → va_P (gD Γ) gcls (lay Γ g) H → va_S (gA Γ) s.heap H locs → lv_has ls 5 [(0, .ref (gB Γ + 156)), (2, .int l2), (3, .int l3), (4, .int l4)] → W p l e (gRm 3 73) s m args below meth c H locs 0 0 (MQ below (gQi Γ z) args s 0 0 (gA Γ)) (F0 m 19 ls [])) (h : fs_X8_countDeadEnds_19 F19 l2 l3 l4 g = some z) (hP : va_P (gD Γ) gcls (lay Γ g) H) (hS : va_S (gA Γ) s.heap H locs) (hl : lv_has ls 5 [(0, .ref (gB Γ + 156)), (2, .int l2), (3, .int l3), (4, .int l4)]) : W p l e (gRm 3 73) s m args below meth c H locs 0 0 (MQ below (gQi Γ z) args s 0 0 (gA Γ)) (F0 m 19 ls []) := by
  unfold fs_X8_countDeadEnds_19 at h
  obtain ⟨hx, hb, hml, hr, hown, hts, hK, hlk, hX⟩ := id C0
  refine lv_iload hx hb dX8_countDeadEnds_19 (lv_at hl 3 rfl) ?_
  refine lv_iload_n hx hb dX8_countDeadEnds_21 rfl (lv_at hl 1 rfl) ?_
  refine lv_icmp_gt (tgt := 55) hx hb dX8_countDeadEnds_22 (by decide) (fun c1 => ?_) (fun c1 => ?_)
  · replace h := gpos c1 h
    refine lv_iload_n hx hb dX8_countDeadEnds_55 rfl (lv_at hl 2 rfl) ?_
    exact giret hx hb hr hlk hP hS dX8_countDeadEnds_56 h
  · replace h := gneg c1 h
    refine lv_aload_n hx hb dX8_countDeadEnds_25 rfl (lv_at hl 0 rfl) ?_
    refine gf_8_1 hx hb hown hts hK hP wf_X8_9 dX8_countDeadEnds_26 ?_
    refine lv_iload hx hb dX8_countDeadEnds_29 (lv_at hl 3 rfl) ?_
    refine gIld hx hb hK hP is_157 dX8_countDeadEnds_31 h (fun h => ?_)
    refine lv_iconst (v := -1) hx hb dX8_countDeadEnds_32 (by decide) ?_
    refine lv_icmp_eq (tgt := 49) hx hb dX8_countDeadEnds_33 (by decide) (fun c2 => ?_) (fun c2 => ?_)
    · replace h := gpos c2 h
      obtain ⟨x3, ex3⟩ : ∃ y : Int32, y = l4 + (1 : Int32) := ⟨_, rfl⟩
      replace h := gLetI ex3 h
      refine lv_iinc (v := x3) (lv' := [(4, .int x3), (0, .ref (gB Γ + 156)), (2, .int l2), (3, .int l3)]) hx hb dX8_countDeadEnds_49 hl (k := 3) rfl (by rw [ex3]; rfl) (by decide) rfl (fun ls hl => ?_)
      refine lv_goto (tgt := 19) hx hb dX8_countDeadEnds_52 (by decide) ?_
      exact hF19 _ _ _ _ _ _ _ h hP hS (lv_sub hl [1, 2, 3, 0] rfl)
    · replace h := gneg c2 h
      refine lv_aload_n hx hb dX8_countDeadEnds_36 rfl (lv_at hl 0 rfl) ?_
      refine gf_8_3 hx hb hown hts hK hP wf_X8_18 dX8_countDeadEnds_37 ?_
      refine lv_iload hx hb dX8_countDeadEnds_40 (lv_at hl 3 rfl) ?_
      refine gIld hx hb hK hP is_159 dX8_countDeadEnds_42 h (fun h => ?_)
      refine lv_if_ne (tgt := 49) hx hb dX8_countDeadEnds_43 (by decide) (fun c4 => ?_) (fun c4 => ?_)
      · replace h := gneg c4 h
        obtain ⟨x5, ex5⟩ : ∃ y : Int32, y = l4 + (1 : Int32) := ⟨_, rfl⟩
        replace h := gLetI ex5 h
        refine lv_iinc (v := x5) (lv' := [(4, .int x5), (0, .ref (gB Γ + 156)), (2, .int l2), (3, .int l3)]) hx hb dX8_countDeadEnds_49 hl (k := 3) rfl (by rw [ex5]; rfl) (by decide) rfl (fun ls hl => ?_)
        refine lv_goto (tgt := 19) hx hb dX8_countDeadEnds_52 (by decide) ?_
        exact hF19 _ _ _ _ _ _ _ h hP hS (lv_sub hl [1, 2, 3, 0] rfl)
      · replace h := gpos c4 h
        obtain ⟨x6, ex6⟩ : ∃ y : Int32, y = l3 + (1 : Int32) := ⟨_, rfl⟩
        replace h := gLetI ex6 h
        refine lv_iinc (v := x6) (lv' := [(3, .int x6), (0, .ref (gB Γ + 156)), (2, .int l2), (4, .int l4)]) hx hb dX8_countDeadEnds_46 hl (k := 2) rfl (by rw [ex6]; rfl) (by decide) rfl (fun ls hl => ?_)
        obtain ⟨x7, ex7⟩ : ∃ y : Int32, y = l4 + (1 : Int32) := ⟨_, rfl⟩
        replace h := gLetI ex7 h
        refine lv_iinc (v := x7) (lv' := [(4, .int x7), (3, .int x6), (0, .ref (gB Γ + 156)), (2, .int l2)]) hx hb dX8_countDeadEnds_49 hl (k := 3) rfl (by rw [ex7]; rfl) (by decide) rfl (fun ls hl => ?_)
        refine lv_goto (tgt := 19) hx hb dX8_countDeadEnds_52 (by decide) ?_
        exact hF19 _ _ _ _ _ _ _ h hP hS (lv_sub hl [2, 3, 1, 0] rfl)
set_option maxHeartbeats 2000000 in
set_option maxRecDepth 20000 in
theorem bk_X8_countDeadEnds_19 {p : Program} {l : Launch} {e : Env} {s : State} {m : MethodId} {args : Array Value} {below : List Frame} {meth : Method} {c : Code} {Γ : gE} (C0 : gCx p s m args meth c Γ RX8 cX8_countDeadEnds 5 (some .int))   {z : Int32 × gG}   : ∀ (n : Nat) (l2 : Int32) (l3 : Int32) (l4 : Int32) (g : gG) (H : Heap) (locs : List Loc) (ls : Array Slot), fb_X8_countDeadEnds_19 n l2 l3 l4 g = some z → va_P (gD Γ) gcls (lay Γ g) H → va_S (gA Γ) s.heap H locs → lv_has ls 5 [(0, .ref (gB Γ + 156)), (2, .int l2), (3, .int l3), (4, .int l4)] → W p l e (gRm 3 73) s m args below meth c H locs 0 0 (MQ below (gQi Γ z) args s 0 0 (gA Γ)) (F0 m 19 ls []) := by
  intro n
  induction n with
  | zero => intro l2 l3 l4 g H locs ls h hP hS hl; cases h
  | succ n ih => intro l2 l3 l4 g H locs ls h hP hS hl; exact bs_X8_countDeadEnds_19 C0  ih h hP hS hl
set_option maxHeartbeats 2000000 in
set_option maxRecDepth 20000 in
theorem m_X8_countDeadEnds (l : Launch) (Γ : gE)   (a1 : Int32) (g : gG) (z : Int32 × gG) (h : f_X8_countDeadEnds a1 g = some z) : gMi l yX8_countDeadEnds cX8_countDeadEnds 5 (some .int) 3 73 Γ [.ref (gB Γ + 156), .int a1] g z := by
  unfold f_X8_countDeadEnds at h
  refine gStart (own := RX8) (by decide +kernel) rfl (Nat.le_of_ble_eq_true rfl) ?_
  intro p e s m below meth c C0 ls hl hP
  have hS : va_S (gA Γ) s.heap s.heap [] := va_S.rf
  have hl : lv_has ls 5 [(0, .ref (gB Γ + 156)), (1, .int a1)] := hl
  obtain ⟨hx, hb, hml, hr, hown, hts, hK, hlk, hX⟩ := id C0
  refine lv_aload_n hx hb dX8_countDeadEnds_0 rfl (lv_at hl 0 rfl) ?_
  refine lv_iconst (v := 0) hx hb dX8_countDeadEnds_1 (by decide) ?_
  refine lv_iload_n hx hb dX8_countDeadEnds_2 rfl (lv_at hl 1 rfl) ?_
  refine gCVv (rest := []) C0 cal_X8_lookFrom wl_X8_47 wi_X8_lookFrom ws_X8_lookFrom ⟨Nat.le_of_ble_eq_true rfl, Nat.le_of_ble_eq_true rfl⟩ ⟨Nat.le_of_ble_eq_true rfl, Nat.le_of_ble_eq_true rfl⟩ grv_8 [.int (0 : Int32), .int a1] rfl (Nat.le_of_ble_eq_true rfl) hP hS hl.1 dX8_countDeadEnds_3 h (fun u hu => m_X8_lookFrom l Γ (0 : Int32) a1 g u hu) (fun u1 H locs h hP hS => ?_) rfl
  refine lv_aload_n hx hb dX8_countDeadEnds_6 rfl (lv_at hl 0 rfl) ?_
  refine gf_8_0 hx hb hown hts hK hP wf_X8_33 dX8_countDeadEnds_7 ?_
  refine gCVi (rest := []) C0 cal_X0_allPlaces wl_X8_76 wi_X0_allPlaces ws_X0_allPlaces ⟨Nat.le_of_ble_eq_true rfl, Nat.le_of_ble_eq_true rfl⟩ ⟨Nat.le_of_ble_eq_true rfl, Nat.le_of_ble_eq_true rfl⟩ grv_0 [] rfl (Nat.le_of_ble_eq_true rfl) hP hS hl.1 dX8_countDeadEnds_10 h (fun u hu => m_X0_allPlaces l Γ u1.2 u hu) (fun u2 H locs h hP hS => ?_) rfl
  refine lv_topi (fun x3 ex3 => ?_)
  replace h := gLetI ex3 h
  refine lv_istore_n (lv' := [(2, .int x3), (0, .ref (gB Γ + 156)), (1, .int a1)]) hx hb dX8_countDeadEnds_13 rfl hl (by decide) rfl (fun ls hl => ?_)
  refine lv_iconst (v := 0) hx hb dX8_countDeadEnds_14 (by decide) ?_
  refine lv_istore_n (lv' := [(3, .int (0 : Int32)), (2, .int x3), (0, .ref (gB Γ + 156)), (1, .int a1)]) hx hb dX8_countDeadEnds_15 rfl hl (by decide) rfl (fun ls hl => ?_)
  refine lv_iconst (v := 0) hx hb dX8_countDeadEnds_16 (by decide) ?_
  refine lv_istore (lv' := [(4, .int (0 : Int32)), (3, .int (0 : Int32)), (2, .int x3), (0, .ref (gB Γ + 156)), (1, .int a1)]) hx hb dX8_countDeadEnds_17 hl (by decide) rfl (fun ls hl => ?_)
  exact bk_X8_countDeadEnds_19 C0  gFuel _ _ _ _ _ _ _ h hP hS (lv_sub hl [3, 2, 1, 0] rfl)
set_option maxHeartbeats 2000000 in
set_option maxRecDepth 20000 in
theorem m_X9_deadEnds (l : Launch) (Γ : gE)    (g : gG) (z : Int32 × gG) (h : f_X9_deadEnds g = some z) : gMi l yX9_deadEnds cX9_deadEnds 1 (some .int) 4 97 Γ [.ref (gB Γ + 0)] g z := by
  unfold f_X9_deadEnds at h
  refine gStart (own := RX9) (by decide +kernel) rfl (Nat.le_of_ble_eq_true rfl) ?_
  intro p e s m below meth c C0 ls hl hP
  have hS : va_S (gA Γ) s.heap s.heap [] := va_S.rf
  have hl : lv_has ls 1 [(0, .ref (gB Γ + 0))] := hl
  obtain ⟨hx, hb, hml, hr, hown, hts, hK, hlk, hX⟩ := id C0
  refine lv_aload_n hx hb dX9_deadEnds_0 rfl (lv_at hl 0 rfl) ?_
  refine gf_9_7 hx hb hown hts hK hP wf_X9_57 dX9_deadEnds_1 ?_
  refine lv_aload_n hx hb dX9_deadEnds_4 rfl (lv_at hl 0 rfl) ?_
  refine gf_9_3 hx hb hown hts hK hP wf_X9_35 dX9_deadEnds_5 ?_
  refine gCVi (rest := [.ref (gB Γ + 156)]) C0 cal_X5_easedPlaces wl_X9_163 wi_X5_easedPlaces ws_X5_easedPlaces ⟨Nat.le_of_ble_eq_true rfl, Nat.le_of_ble_eq_true rfl⟩ ⟨Nat.le_of_ble_eq_true rfl, Nat.le_of_ble_eq_true rfl⟩ (grv_5 isSt_c16) [] rfl (Nat.le_of_ble_eq_true rfl) hP hS hl.1 dX9_deadEnds_8 h (fun u hu => m_X5_easedPlaces l Γ isSt_c16 g u hu) (fun u1 H locs h hP hS => ?_) rfl
  refine gCVi (rest := []) C0 cal_X8_countDeadEnds wl_X9_275 wi_X8_countDeadEnds ws_X8_countDeadEnds ⟨Nat.le_of_ble_eq_true rfl, Nat.le_of_ble_eq_true rfl⟩ ⟨Nat.le_of_ble_eq_true rfl, Nat.le_of_ble_eq_true rfl⟩ grv_8 [.int u1.1] rfl (Nat.le_of_ble_eq_true rfl) hP hS hl.1 dX9_deadEnds_11 h (fun u hu => m_X8_countDeadEnds l Γ u1.1 u1.2 u hu) (fun u2 H locs h hP hS => ?_) rfl
  exact giret hx hb hr hlk hP hS dX9_deadEnds_14 h
set_option maxHeartbeats 2000000 in
set_option maxRecDepth 20000 in
theorem bs_X9_easeBy_24 {p : Program} {l : Launch} {e : Env} {s : State} {m : MethodId} {args : Array Value} {below : List Frame} {meth : Method} {c : Code} {Γ : gE} (C0 : gCx p s m args meth c Γ RX9 cX9_easeBy 3 (some .int))   {z : Int32 × gG} {F24 : Int32 → Int32 → gG → Option (Int32 × gG)} {l1 : Int32} {l2 : Int32} {g : gG} {H : Heap} {locs : List Loc} {ls : Array Slot} (hF24 : ∀ (l1 : Int32) (l2 : Int32) (g : gG) (H : Heap) (locs : List Loc) (ls : Array Slot), F24 l1 l2 g = some z → va_P (gD Γ) gcls (lay Γ g) H → va_S (gA Γ) s.heap H locs → lv_has ls 3 [(0, .ref (gB Γ + 0)), (1, .int l1), (2, .int l2)] → W p l e (gRm 4 97) s m args below meth c H locs 0 0 (MQ below (gQi Γ z) args s 0 0 (gA Γ)) (F0 m 24 ls [])) (h : fs_X9_easeBy_24 F24 l1 l2 g = some z) (hP : va_P (gD Γ) gcls (lay Γ g) H) (hS : va_S (gA Γ) s.heap H locs) (hl : lv_has ls 3 [(0, .ref (gB Γ + 0)), (1, .int l1), (2, .int l2)]) : W p l e (gRm 4 97) s m args below meth c H locs 0 0 (MQ below (gQi Γ z) args s 0 0 (gA Γ)) (F0 m 24 ls []) := by
  unfold fs_X9_easeBy_24 at h
  obtain ⟨hx, hb, hml, hr, hown, hts, hK, hlk, hX⟩ := id C0
  refine lv_iload_n hx hb dX9_easeBy_24 rfl (lv_at hl 2 rfl) ?_
  refine lv_aload_n hx hb dX9_easeBy_25 rfl (lv_at hl 0 rfl) ?_
  refine gf_9_2 hx hb hown hts hK hP wf_X9_26 dX9_easeBy_26 ?_
  refine gCVi (rest := [.int l2]) C0 cal_X0_count wl_X9_117 wi_X0_count ws_X0_count ⟨Nat.le_of_ble_eq_true rfl, Nat.le_of_ble_eq_true rfl⟩ ⟨Nat.le_of_ble_eq_true rfl, Nat.le_of_ble_eq_true rfl⟩ grv_0 [] rfl (Nat.le_of_ble_eq_true rfl) hP hS hl.1 dX9_easeBy_29 h (fun u hu => m_X0_count l Γ g u hu) (fun u1 H locs h hP hS => ?_) rfl
  refine lv_icmp_ge (tgt := 58) hx hb dX9_easeBy_32 (by decide) (fun c2 => ?_) (fun c2 => ?_)
  · replace h := gpos c2 h
    refine lv_bipush (v := -9) hx hb dX9_easeBy_58 (by decide) ?_
    exact giret hx hb hr hlk hP hS dX9_easeBy_60 h
  · replace h := gneg c2 h
    refine lv_aload_n hx hb dX9_easeBy_35 rfl (lv_at hl 0 rfl) ?_
    refine gf_9_7 hx hb hown hts hK hP wf_X9_57 dX9_easeBy_36 ?_
    refine lv_iload_n hx hb dX9_easeBy_39 rfl (lv_at hl 1 rfl) ?_
    refine lv_iconst (v := 1) hx hb dX9_easeBy_40 (by decide) ?_
    refine lv_iload_n hx hb dX9_easeBy_41 rfl (lv_at hl 2 rfl) ?_
    refine lv_ishl hx hb dX9_easeBy_42 ?_
    refine lv_ior hx hb dX9_easeBy_43 ?_
    refine gCVi (rest := []) C0 cal_X8_countDeadEnds wl_X9_275 wi_X8_countDeadEnds ws_X8_countDeadEnds ⟨Nat.le_of_ble_eq_true rfl, Nat.le_of_ble_eq_true rfl⟩ ⟨Nat.le_of_ble_eq_true rfl, Nat.le_of_ble_eq_true rfl⟩ grv_8 [.int (l1 ||| ((1 : Int32) <<< (l2 &&& 31)))] rfl (Nat.le_of_ble_eq_true rfl) hP hS hl.1 dX9_easeBy_44 h (fun u hu => m_X8_countDeadEnds l Γ (l1 ||| ((1 : Int32) <<< (l2 &&& 31))) u1.2 u hu) (fun u3 H locs h hP hS => ?_) rfl
    refine lv_if_ne (tgt := 52) hx hb dX9_easeBy_47 (by decide) (fun c4 => ?_) (fun c4 => ?_)
    · replace h := gneg c4 h
      obtain ⟨x5, ex5⟩ : ∃ y : Int32, y = l2 + (1 : Int32) := ⟨_, rfl⟩
      replace h := gLetI ex5 h
      refine lv_iinc (v := x5) (lv' := [(2, .int x5), (0, .ref (gB Γ + 0)), (1, .int l1)]) hx hb dX9_easeBy_52 hl (k := 2) rfl (by rw [ex5]; rfl) (by decide) rfl (fun ls hl => ?_)
      refine lv_goto (tgt := 24) hx hb dX9_easeBy_55 (by decide) ?_
      exact hF24 _ _ _ _ _ _ h hP hS (lv_sub hl [1, 2, 0] rfl)
    · replace h := gpos c4 h
      refine lv_iload_n hx hb dX9_easeBy_50 rfl (lv_at hl 2 rfl) ?_
      exact giret hx hb hr hlk hP hS dX9_easeBy_51 h
set_option maxHeartbeats 2000000 in
set_option maxRecDepth 20000 in
theorem bk_X9_easeBy_24 {p : Program} {l : Launch} {e : Env} {s : State} {m : MethodId} {args : Array Value} {below : List Frame} {meth : Method} {c : Code} {Γ : gE} (C0 : gCx p s m args meth c Γ RX9 cX9_easeBy 3 (some .int))   {z : Int32 × gG}   : ∀ (n : Nat) (l1 : Int32) (l2 : Int32) (g : gG) (H : Heap) (locs : List Loc) (ls : Array Slot), fb_X9_easeBy_24 n l1 l2 g = some z → va_P (gD Γ) gcls (lay Γ g) H → va_S (gA Γ) s.heap H locs → lv_has ls 3 [(0, .ref (gB Γ + 0)), (1, .int l1), (2, .int l2)] → W p l e (gRm 4 97) s m args below meth c H locs 0 0 (MQ below (gQi Γ z) args s 0 0 (gA Γ)) (F0 m 24 ls []) := by
  intro n
  induction n with
  | zero => intro l1 l2 g H locs ls h hP hS hl; cases h
  | succ n ih => intro l1 l2 g H locs ls h hP hS hl; exact bs_X9_easeBy_24 C0  ih h hP hS hl
set_option maxHeartbeats 2000000 in
set_option maxRecDepth 20000 in
theorem m_X9_easeBy (l : Launch) (Γ : gE)    (g : gG) (z : Int32 × gG) (h : f_X9_easeBy g = some z) : gMi l yX9_easeBy cX9_easeBy 3 (some .int) 4 97 Γ [.ref (gB Γ + 0)] g z := by
  unfold f_X9_easeBy at h
  refine gStart (own := RX9) (by decide +kernel) rfl (Nat.le_of_ble_eq_true rfl) ?_
  intro p e s m below meth c C0 ls hl hP
  have hS : va_S (gA Γ) s.heap s.heap [] := va_S.rf
  have hl : lv_has ls 3 [(0, .ref (gB Γ + 0))] := hl
  obtain ⟨hx, hb, hml, hr, hown, hts, hK, hlk, hX⟩ := id C0
  refine lv_aload_n hx hb dX9_easeBy_0 rfl (lv_at hl 0 rfl) ?_
  refine gf_9_3 hx hb hown hts hK hP wf_X9_35 dX9_easeBy_1 ?_
  refine gCVi (rest := []) C0 cal_X5_easedPlaces wl_X9_163 wi_X5_easedPlaces ws_X5_easedPlaces ⟨Nat.le_of_ble_eq_true rfl, Nat.le_of_ble_eq_true rfl⟩ ⟨Nat.le_of_ble_eq_true rfl, Nat.le_of_ble_eq_true rfl⟩ (grv_5 isSt_c16) [] rfl (Nat.le_of_ble_eq_true rfl) hP hS hl.1 dX9_easeBy_4 h (fun u hu => m_X5_easedPlaces l Γ isSt_c16 g u hu) (fun u1 H locs h hP hS => ?_) rfl
  refine lv_topi (fun x2 ex2 => ?_)
  replace h := gLetI ex2 h
  refine lv_istore_n (lv' := [(1, .int x2), (0, .ref (gB Γ + 0))]) hx hb dX9_easeBy_7 rfl hl (by decide) rfl (fun ls hl => ?_)
  refine lv_aload_n hx hb dX9_easeBy_8 rfl (lv_at hl 1 rfl) ?_
  refine gf_9_7 hx hb hown hts hK hP wf_X9_57 dX9_easeBy_9 ?_
  refine lv_iload_n hx hb dX9_easeBy_12 rfl (lv_at hl 0 rfl) ?_
  refine gCVi (rest := []) C0 cal_X8_countDeadEnds wl_X9_275 wi_X8_countDeadEnds ws_X8_countDeadEnds ⟨Nat.le_of_ble_eq_true rfl, Nat.le_of_ble_eq_true rfl⟩ ⟨Nat.le_of_ble_eq_true rfl, Nat.le_of_ble_eq_true rfl⟩ grv_8 [.int x2] rfl (Nat.le_of_ble_eq_true rfl) hP hS hl.1 dX9_easeBy_13 h (fun u hu => m_X8_countDeadEnds l Γ x2 u1.2 u hu) (fun u3 H locs h hP hS => ?_) rfl
  refine lv_if_ne (tgt := 22) hx hb dX9_easeBy_16 (by decide) (fun c4 => ?_) (fun c4 => ?_)
  · replace h := gneg c4 h
    refine lv_iconst (v := 0) hx hb dX9_easeBy_22 (by decide) ?_
    refine lv_istore_n (lv' := [(2, .int (0 : Int32)), (1, .int x2), (0, .ref (gB Γ + 0))]) hx hb dX9_easeBy_23 rfl hl (by decide) rfl (fun ls hl => ?_)
    exact bk_X9_easeBy_24 C0  gFuel _ _ _ _ _ _ h hP hS (lv_sub hl [2, 1, 0] rfl)
  · replace h := gpos c4 h
    refine lv_bipush (v := -9) hx hb dX9_easeBy_19 (by decide) ?_
    exact giret hx hb hr hlk hP hS dX9_easeBy_21 h
set_option maxHeartbeats 2000000 in
set_option maxRecDepth 20000 in
theorem bs_X3_pastEnd_4 {p : Program} {l : Launch} {e : Env} {s : State} {m : MethodId} {args : Array Value} {below : List Frame} {meth : Method} {c : Code} {Γ : gE} (C0 : gCx p s m args meth c Γ RX3 cX3_pastEnd 4 (some .long))   {z : Int64 × gG} {F4 : Int32 → Int64 → Int32 → gG → Option (Int64 × gG)} {l0 : Int32} {l1 : Int64} {l3 : Int32} {g : gG} {H : Heap} {locs : List Loc} {ls : Array Slot} (hF4 : ∀ (l0 : Int32) (l1 : Int64) (l3 : Int32) (g : gG) (H : Heap) (locs : List Loc) (ls : Array Slot), F4 l0 l1 l3 g = some z → va_P (gD Γ) gcls (lay Γ g) H → va_S (gA Γ) s.heap H locs → lv_has ls 4 [(0, .int l0), (1, .long l1), (3, .int l3)] → W p l e (gRm 0 0) s m args below meth c H locs 0 0 (MQ below (gQl Γ z) args s 0 0 (gA Γ)) (F0 m 4 ls [])) (h : fs_X3_pastEnd_4 F4 l0 l1 l3 g = some z) (hP : va_P (gD Γ) gcls (lay Γ g) H) (hS : va_S (gA Γ) s.heap H locs) (hl : lv_has ls 4 [(0, .int l0), (1, .long l1), (3, .int l3)]) : W p l e (gRm 0 0) s m args below meth c H locs 0 0 (MQ below (gQl Γ z) args s 0 0 (gA Γ)) (F0 m 4 ls []) := by
  unfold fs_X3_pastEnd_4 at h
  obtain ⟨hx, hb, hml, hr, hown, hts, hK, hlk, hX⟩ := id C0
  refine lv_iload_n hx hb dX3_pastEnd_4 rfl (lv_at hl 2 rfl) ?_
  refine lv_iload_n hx hb dX3_pastEnd_5 rfl (lv_at hl 0 rfl) ?_
  refine lv_icmp_ge (tgt := 26) hx hb dX3_pastEnd_6 (by decide) (fun c1 => ?_) (fun c1 => ?_)
  · replace h := gpos c1 h
    refine lv_lload_n hx hb dX3_pastEnd_26 rfl (lv_at hl 1 rfl) ?_
    exact glret hx hb hr hlk hP hS dX3_pastEnd_27 h
  · replace h := gneg c1 h
    refine lv_iload_n hx hb dX3_pastEnd_9 rfl (lv_at hl 2 rfl) ?_
    refine lv_iconst (v := 4) hx hb dX3_pastEnd_10 (by decide) ?_
    refine lv_icmp_ge (tgt := 26) hx hb dX3_pastEnd_11 (by decide) (fun c2 => ?_) (fun c2 => ?_)
    · replace h := gpos c2 h
      refine lv_lload_n hx hb dX3_pastEnd_26 rfl (lv_at hl 1 rfl) ?_
      exact glret hx hb hr hlk hP hS dX3_pastEnd_27 h
    · replace h := gneg c2 h
      refine lv_lload_n hx hb dX3_pastEnd_14 rfl (lv_at hl 1 rfl) ?_
      refine lv_ldc2 (v := 10000) hx hb hown (hts _ wkl_X3_28) dX3_pastEnd_15 ?_
      refine lv_lmul hx hb dX3_pastEnd_18 ?_
      refine lv_topl (fun x3 ex3 => ?_)
      replace h := gLetI ex3 h
      refine lv_lstore_n (lv' := [(1, .long x3), (0, .int l0), (3, .int l3)]) hx hb dX3_pastEnd_19 rfl hl (by decide) rfl (fun ls hl => ?_)
      obtain ⟨x4, ex4⟩ : ∃ y : Int32, y = l3 + (1 : Int32) := ⟨_, rfl⟩
      replace h := gLetI ex4 h
      refine lv_iinc (v := x4) (lv' := [(3, .int x4), (1, .long x3), (0, .int l0)]) hx hb dX3_pastEnd_20 hl (k := 2) rfl (by rw [ex4]; rfl) (by decide) rfl (fun ls hl => ?_)
      refine lv_goto (tgt := 4) hx hb dX3_pastEnd_23 (by decide) ?_
      exact hF4 _ _ _ _ _ _ _ h hP hS (lv_sub hl [2, 1, 0] rfl)
set_option maxHeartbeats 2000000 in
set_option maxRecDepth 20000 in
theorem bk_X3_pastEnd_4 {p : Program} {l : Launch} {e : Env} {s : State} {m : MethodId} {args : Array Value} {below : List Frame} {meth : Method} {c : Code} {Γ : gE} (C0 : gCx p s m args meth c Γ RX3 cX3_pastEnd 4 (some .long))   {z : Int64 × gG}   : ∀ (n : Nat) (l0 : Int32) (l1 : Int64) (l3 : Int32) (g : gG) (H : Heap) (locs : List Loc) (ls : Array Slot), fb_X3_pastEnd_4 n l0 l1 l3 g = some z → va_P (gD Γ) gcls (lay Γ g) H → va_S (gA Γ) s.heap H locs → lv_has ls 4 [(0, .int l0), (1, .long l1), (3, .int l3)] → W p l e (gRm 0 0) s m args below meth c H locs 0 0 (MQ below (gQl Γ z) args s 0 0 (gA Γ)) (F0 m 4 ls []) := by
  intro n
  induction n with
  | zero => intro l0 l1 l3 g H locs ls h hP hS hl; cases h
  | succ n ih => intro l0 l1 l3 g H locs ls h hP hS hl; exact bs_X3_pastEnd_4 C0  ih h hP hS hl
set_option maxHeartbeats 2000000 in
set_option maxRecDepth 20000 in
theorem m_X3_pastEnd (l : Launch) (Γ : gE)   (a0 : Int32) (g : gG) (z : Int64 × gG) (h : f_X3_pastEnd a0 g = some z) : gMl l yX3_pastEnd cX3_pastEnd 4 (some .long) 0 0 Γ [.int a0] g z := by
  unfold f_X3_pastEnd at h
  refine gStart (own := RX3) (by decide +kernel) rfl (Nat.le_of_ble_eq_true rfl) ?_
  intro p e s m below meth c C0 ls hl hP
  have hS : va_S (gA Γ) s.heap s.heap [] := va_S.rf
  have hl : lv_has ls 4 [(0, .int a0)] := hl
  obtain ⟨hx, hb, hml, hr, hown, hts, hK, hlk, hX⟩ := id C0
  refine lv_lconst (v := 1) hx hb dX3_pastEnd_0 (by decide) ?_
  refine lv_lstore_n (lv' := [(1, .long (1 : Int64)), (0, .int a0)]) hx hb dX3_pastEnd_1 rfl hl (by decide) rfl (fun ls hl => ?_)
  refine lv_iconst (v := 0) hx hb dX3_pastEnd_2 (by decide) ?_
  refine lv_istore_n (lv' := [(3, .int (0 : Int32)), (1, .long (1 : Int64)), (0, .int a0)]) hx hb dX3_pastEnd_3 rfl hl (by decide) rfl (fun ls hl => ?_)
  exact bk_X3_pastEnd_4 C0  gFuel _ _ _ _ _ _ _ h hP hS (lv_sub hl [2, 1, 0] rfl)
set_option maxHeartbeats 2000000 in
set_option maxRecDepth 20000 in
theorem m_X3_begin (l : Launch) (Γ : gE) {r1 : Nat} (hr1 : isSt r1)  (g : gG) (z : Unit × gG) (h : f_X3_begin r1 g = some z) : gMv l yX3_begin cX3_begin 2 none 2 39 Γ [.ref (gB Γ + 164), .ref (gB Γ + r1)] g z := by
  unfold f_X3_begin at h
  refine gStart (own := RX3) (by decide +kernel) rfl (Nat.le_of_ble_eq_true rfl) ?_
  intro p e s m below meth c C0 ls hl hP
  have hS : va_S (gA Γ) s.heap s.heap [] := va_S.rf
  have hl : lv_has ls 2 [(0, .ref (gB Γ + 164)), (1, .ref (gB Γ + r1))] := hl
  obtain ⟨hx, hb, hml, hr, hown, hts, hK, hlk, hX⟩ := id C0
  refine lv_aload_n hx hb dX3_begin_0 rfl (lv_at hl 0 rfl) ?_
  refine gf_3_2 hx hb hown hts hK hP wf_X3_24 dX3_begin_1 ?_
  refine lv_aload_n hx hb dX3_begin_4 rfl (lv_at hl 1 rfl) ?_
  refine gCVv (rest := []) C0 cal_X5_copyFrom wl_X3_30 wi_X5_copyFrom ws_X5_copyFrom ⟨Nat.le_of_ble_eq_true rfl, Nat.le_of_ble_eq_true rfl⟩ ⟨Nat.le_of_ble_eq_true rfl, Nat.le_of_ble_eq_true rfl⟩ (grv_5 isSt_c165) [.ref (gB Γ + r1)] rfl (Nat.le_of_ble_eq_true rfl) hP hS hl.1 dX3_begin_5 h (fun u hu => m_X5_copyFrom l Γ isSt_c165 hr1 g u hu) (fun u1 H locs h hP hS => ?_) rfl
  exact gvret hx hb hr hlk hP hS dX3_begin_8 h
set_option maxHeartbeats 2000000 in
set_option maxRecDepth 20000 in
theorem bs_X3_groupAt_8 {p : Program} {l : Launch} {e : Env} {s : State} {m : MethodId} {args : Array Value} {below : List Frame} {meth : Method} {c : Code} {Γ : gE} (C0 : gCx p s m args meth c Γ RX3 cX3_groupAt 7 (some .int))   {z : Int32 × gG} {F8 : Int32 → Int64 → Int32 → gG → Option (Int32 × gG)} {l0 : Int32} {l4 : Int64} {l6 : Int32} {g : gG} {H : Heap} {locs : List Loc} {ls : Array Slot} (hF8 : ∀ (l0 : Int32) (l4 : Int64) (l6 : Int32) (g : gG) (H : Heap) (locs : List Loc) (ls : Array Slot), F8 l0 l4 l6 g = some z → va_P (gD Γ) gcls (lay Γ g) H → va_S (gA Γ) s.heap H locs → lv_has ls 7 [(0, .int l0), (4, .long l4), (6, .int l6)] → W p l e (gRm 0 0) s m args below meth c H locs 0 0 (MQ below (gQi Γ z) args s 0 0 (gA Γ)) (F0 m 8 ls [])) (h : fs_X3_groupAt_8 F8 l0 l4 l6 g = some z) (hP : va_P (gD Γ) gcls (lay Γ g) H) (hS : va_S (gA Γ) s.heap H locs) (hl : lv_has ls 7 [(0, .int l0), (4, .long l4), (6, .int l6)]) : W p l e (gRm 0 0) s m args below meth c H locs 0 0 (MQ below (gQi Γ z) args s 0 0 (gA Γ)) (F0 m 8 ls []) := by
  unfold fs_X3_groupAt_8 at h
  obtain ⟨hx, hb, hml, hr, hown, hts, hK, hlk, hX⟩ := id C0
  refine lv_iload hx hb dX3_groupAt_8 (lv_at hl 2 rfl) ?_
  refine lv_iload_n hx hb dX3_groupAt_10 rfl (lv_at hl 0 rfl) ?_
  refine lv_icmp_le (tgt := 28) hx hb dX3_groupAt_11 (by decide) (fun c1 => ?_) (fun c1 => ?_)
  · replace h := gpos c1 h
    refine lv_lload hx hb dX3_groupAt_28 (lv_at hl 1 rfl) ?_
    refine lv_ldc2 (v := 10000) hx hb hown (hts _ wkl_X3_28) dX3_groupAt_30 ?_
    refine lv_lrem hx hb dX3_groupAt_33 (by decide) ?_
    refine lv_l2i hx hb dX3_groupAt_34 rfl ?_
    exact giret hx hb hr hlk hP hS dX3_groupAt_35 h
  · replace h := gneg c1 h
    refine lv_lload hx hb dX3_groupAt_14 (lv_at hl 1 rfl) ?_
    refine lv_ldc2 (v := 10000) hx hb hown (hts _ wkl_X3_28) dX3_groupAt_16 ?_
    refine lv_ldiv hx hb dX3_groupAt_19 (by decide) ?_
    refine lv_topl (fun x2 ex2 => ?_)
    replace h := gLetI ex2 h
    refine lv_lstore (lv' := [(4, .long x2), (0, .int l0), (6, .int l6)]) hx hb dX3_groupAt_20 hl (by decide) rfl (fun ls hl => ?_)
    obtain ⟨x3, ex3⟩ : ∃ y : Int32, y = l6 + (-1 : Int32) := ⟨_, rfl⟩
    replace h := gLetI ex3 h
    refine lv_iinc (v := x3) (lv' := [(6, .int x3), (4, .long x2), (0, .int l0)]) hx hb dX3_groupAt_22 hl (k := 2) rfl (by rw [ex3]; rfl) (by decide) rfl (fun ls hl => ?_)
    refine lv_goto (tgt := 8) hx hb dX3_groupAt_25 (by decide) ?_
    exact hF8 _ _ _ _ _ _ _ h hP hS (lv_sub hl [2, 1, 0] rfl)
set_option maxHeartbeats 2000000 in
set_option maxRecDepth 20000 in
theorem bk_X3_groupAt_8 {p : Program} {l : Launch} {e : Env} {s : State} {m : MethodId} {args : Array Value} {below : List Frame} {meth : Method} {c : Code} {Γ : gE} (C0 : gCx p s m args meth c Γ RX3 cX3_groupAt 7 (some .int))   {z : Int32 × gG}   : ∀ (n : Nat) (l0 : Int32) (l4 : Int64) (l6 : Int32) (g : gG) (H : Heap) (locs : List Loc) (ls : Array Slot), fb_X3_groupAt_8 n l0 l4 l6 g = some z → va_P (gD Γ) gcls (lay Γ g) H → va_S (gA Γ) s.heap H locs → lv_has ls 7 [(0, .int l0), (4, .long l4), (6, .int l6)] → W p l e (gRm 0 0) s m args below meth c H locs 0 0 (MQ below (gQi Γ z) args s 0 0 (gA Γ)) (F0 m 8 ls []) := by
  intro n
  induction n with
  | zero => intro l0 l4 l6 g H locs ls h hP hS hl; cases h
  | succ n ih => intro l0 l4 l6 g H locs ls h hP hS hl; exact bs_X3_groupAt_8 C0  ih h hP hS hl
set_option maxHeartbeats 2000000 in
set_option maxRecDepth 20000 in
theorem m_X3_groupAt (l : Launch) (Γ : gE)   (a0 : Int32) (a1 : Int32) (a2 : Int64) (g : gG) (z : Int32 × gG) (h : f_X3_groupAt a0 a1 a2 g = some z) : gMi l yX3_groupAt cX3_groupAt 7 (some .int) 0 0 Γ [.int a0, .int a1, .long a2] g z := by
  unfold f_X3_groupAt at h
  refine gStart (own := RX3) (by decide +kernel) rfl (Nat.le_of_ble_eq_true rfl) ?_
  intro p e s m below meth c C0 ls hl hP
  have hS : va_S (gA Γ) s.heap s.heap [] := va_S.rf
  have hl : lv_has ls 7 [(0, .int a0), (1, .int a1), (2, .long a2)] := hl
  obtain ⟨hx, hb, hml, hr, hown, hts, hK, hlk, hX⟩ := id C0
  refine lv_lload_n hx hb dX3_groupAt_0 rfl (lv_at hl 2 rfl) ?_
  refine lv_lstore (lv' := [(4, .long a2), (0, .int a0), (1, .int a1), (2, .long a2)]) hx hb dX3_groupAt_1 hl (by decide) rfl (fun ls hl => ?_)
  refine lv_iload_n hx hb dX3_groupAt_3 rfl (lv_at hl 2 rfl) ?_
  refine lv_iconst (v := 1) hx hb dX3_groupAt_4 (by decide) ?_
  refine lv_isub hx hb dX3_groupAt_5 ?_
  refine lv_topi (fun x1 ex1 => ?_)
  replace h := gLetI ex1 h
  refine lv_istore (lv' := [(6, .int x1), (4, .long a2), (0, .int a0), (1, .int a1), (2, .long a2)]) hx hb dX3_groupAt_6 hl (by decide) rfl (fun ls hl => ?_)
  exact bk_X3_groupAt_8 C0  gFuel _ _ _ _ _ _ _ h hP hS (lv_sub hl [2, 1, 0] rfl)
set_option maxHeartbeats 2000000 in
set_option maxRecDepth 20000 in
theorem m_X3_visits (l : Launch) (Γ : gE)   (a1 : Int32) (a2 : Int32) (g : gG) (z : Int32 × gG) (h : f_X3_visits a1 a2 g = some z) : gMi l yX3_visits cX3_visits 3 (some .boolean) 4 88 Γ [.ref (gB Γ + 164), .int a1, .int a2] g z := by
  unfold f_X3_visits at h
  refine gStart (own := RX3) (by decide +kernel) rfl (Nat.le_of_ble_eq_true rfl) ?_
  intro p e s m below meth c C0 ls hl hP
  have hS : va_S (gA Γ) s.heap s.heap [] := va_S.rf
  have hl : lv_has ls 3 [(0, .ref (gB Γ + 164)), (1, .int a1), (2, .int a2)] := hl
  obtain ⟨hx, hb, hml, hr, hown, hts, hK, hlk, hX⟩ := id C0
  refine lv_aload_n hx hb dX3_visits_0 rfl (lv_at hl 0 rfl) ?_
  refine gf_3_2 hx hb hown hts hK hP wf_X3_24 dX3_visits_1 ?_
  refine lv_iload_n hx hb dX3_visits_4 rfl (lv_at hl 1 rfl) ?_
  refine lv_iload_n hx hb dX3_visits_5 rfl (lv_at hl 2 rfl) ?_
  refine gCVi (rest := []) C0 cal_X5_canVisit wl_X3_69 wi_X5_canVisit ws_X5_canVisit ⟨Nat.le_of_ble_eq_true rfl, Nat.le_of_ble_eq_true rfl⟩ ⟨Nat.le_of_ble_eq_true rfl, Nat.le_of_ble_eq_true rfl⟩ (grv_5 isSt_c165) [.int a1, .int a2] rfl (Nat.le_of_ble_eq_true rfl) hP hS hl.1 dX3_visits_6 h (fun u hu => m_X5_canVisit l Γ isSt_c165 a1 a2 g u hu) (fun u1 H locs h hP hS => ?_) rfl
  refine lv_if_ne (tgt := 14) hx hb dX3_visits_9 (by decide) (fun c2 => ?_) (fun c2 => ?_)
  · replace h := gneg c2 h
    refine lv_aload_n hx hb dX3_visits_14 rfl (lv_at hl 0 rfl) ?_
    refine gf_3_2 hx hb hown hts hK hP wf_X3_24 dX3_visits_15 ?_
    refine lv_iload_n hx hb dX3_visits_18 rfl (lv_at hl 1 rfl) ?_
    refine lv_iload_n hx hb dX3_visits_19 rfl (lv_at hl 2 rfl) ?_
    refine gCVi (rest := []) C0 cal_X5_visit wl_X3_72 wi_X5_visit ws_X5_visit ⟨Nat.le_of_ble_eq_true rfl, Nat.le_of_ble_eq_true rfl⟩ ⟨Nat.le_of_ble_eq_true rfl, Nat.le_of_ble_eq_true rfl⟩ (grv_5 isSt_c165) [.int a1, .int a2] rfl (Nat.le_of_ble_eq_true rfl) hP hS hl.1 dX3_visits_20 h (fun u hu => m_X5_visit l Γ isSt_c165 a1 a2 u1.2 u hu) (fun u3 H locs h hP hS => ?_) rfl
    refine lv_pop hx hb dX3_visits_23 rfl ?_
    refine lv_iconst (v := 1) hx hb dX3_visits_24 (by decide) ?_
    exact gzret0 hx hb hr hlk hP hS rfl dX3_visits_25 h
  · replace h := gpos c2 h
    refine lv_iconst (v := 0) hx hb dX3_visits_12 (by decide) ?_
    exact gzret0 hx hb hr hlk hP hS rfl dX3_visits_13 h
set_option maxHeartbeats 2000000 in
set_option maxRecDepth 20000 in
theorem m_X3_getsHint (l : Launch) (Γ : gE)   (a1 : Int32) (g : gG) (z : Int32 × gG) (h : f_X3_getsHint a1 g = some z) : gMi l yX3_getsHint cX3_getsHint 2 (some .boolean) 4 96 Γ [.ref (gB Γ + 164), .int a1] g z := by
  unfold f_X3_getsHint at h
  refine gStart (own := RX3) (by decide +kernel) rfl (Nat.le_of_ble_eq_true rfl) ?_
  intro p e s m below meth c C0 ls hl hP
  have hS : va_S (gA Γ) s.heap s.heap [] := va_S.rf
  have hl : lv_has ls 2 [(0, .ref (gB Γ + 164)), (1, .int a1)] := hl
  obtain ⟨hx, hb, hml, hr, hown, hts, hK, hlk, hX⟩ := id C0
  refine lv_aload_n hx hb dX3_getsHint_0 rfl (lv_at hl 0 rfl) ?_
  refine gf_3_2 hx hb hown hts hK hP wf_X3_24 dX3_getsHint_1 ?_
  refine lv_iload_n hx hb dX3_getsHint_4 rfl (lv_at hl 1 rfl) ?_
  refine gCVi (rest := []) C0 cal_X5_hasTeam wl_X3_52 wi_X5_hasTeam ws_X5_hasTeam ⟨Nat.le_of_ble_eq_true rfl, Nat.le_of_ble_eq_true rfl⟩ ⟨Nat.le_of_ble_eq_true rfl, Nat.le_of_ble_eq_true rfl⟩ (grv_5 isSt_c165) [.int a1] rfl (Nat.le_of_ble_eq_true rfl) hP hS hl.1 dX3_getsHint_5 h (fun u hu => m_X5_hasTeam l Γ isSt_c165 a1 g u hu) (fun u1 H locs h hP hS => ?_) rfl
  refine lv_if_eq (tgt := 26) hx hb dX3_getsHint_8 (by decide) (fun c2 => ?_) (fun c2 => ?_)
  · replace h := gpos c2 h
    refine lv_iconst (v := 0) hx hb dX3_getsHint_26 (by decide) ?_
    exact gzret0 hx hb hr hlk hP hS rfl dX3_getsHint_27 h
  · replace h := gneg c2 h
    refine lv_aload_n hx hb dX3_getsHint_11 rfl (lv_at hl 0 rfl) ?_
    refine gf_3_1 hx hb hown hts hK hP wf_X3_15 dX3_getsHint_12 ?_
    refine lv_aload_n hx hb dX3_getsHint_15 rfl (lv_at hl 0 rfl) ?_
    refine gf_3_2 hx hb hown hts hK hP wf_X3_24 dX3_getsHint_16 ?_
    refine lv_iload_n hx hb dX3_getsHint_19 rfl (lv_at hl 1 rfl) ?_
    refine gCVi (rest := []) C0 cal_X8_safeFor wl_X3_76 wi_X8_safeFor ws_X8_safeFor ⟨Nat.le_of_ble_eq_true rfl, Nat.le_of_ble_eq_true rfl⟩ ⟨Nat.le_of_ble_eq_true rfl, Nat.le_of_ble_eq_true rfl⟩ grv_8 [.ref (gB Γ + 165), .int a1] rfl (Nat.le_of_ble_eq_true rfl) hP hS hl.1 dX3_getsHint_20 h (fun u hu => m_X8_safeFor l Γ isSt_c165 a1 u1.2 u hu) (fun u3 H locs h hP hS => ?_) rfl
    refine lv_if_ne (tgt := 28) hx hb dX3_getsHint_23 (by decide) (fun c4 => ?_) (fun c4 => ?_)
    · replace h := gneg c4 h
      refine lv_aload_n hx hb dX3_getsHint_28 rfl (lv_at hl 0 rfl) ?_
      refine gf_3_2 hx hb hown hts hK hP wf_X3_24 dX3_getsHint_29 ?_
      refine lv_iload_n hx hb dX3_getsHint_32 rfl (lv_at hl 1 rfl) ?_
      refine gCVv (rest := []) C0 cal_X5_countHint wl_X3_82 wi_X5_countHint ws_X5_countHint ⟨Nat.le_of_ble_eq_true rfl, Nat.le_of_ble_eq_true rfl⟩ ⟨Nat.le_of_ble_eq_true rfl, Nat.le_of_ble_eq_true rfl⟩ (grv_5 isSt_c165) [.int a1] rfl (Nat.le_of_ble_eq_true rfl) hP hS hl.1 dX3_getsHint_33 h (fun u hu => m_X5_countHint l Γ isSt_c165 a1 u3.2 u hu) (fun u5 H locs h hP hS => ?_) rfl
      refine lv_iconst (v := 1) hx hb dX3_getsHint_36 (by decide) ?_
      exact gzret0 hx hb hr hlk hP hS rfl dX3_getsHint_37 h
    · replace h := gpos c4 h
      refine lv_iconst (v := 0) hx hb dX3_getsHint_26 (by decide) ?_
      exact gzret0 hx hb hr hlk hP hS rfl dX3_getsHint_27 h
set_option maxHeartbeats 2000000 in
set_option maxRecDepth 20000 in
theorem m_X3_enrols (l : Launch) (Γ : gE)    (g : gG) (z : Int32 × gG) (h : f_X3_enrols g = some z) : gMi l yX3_enrols cX3_enrols 1 (some .boolean) 2 40 Γ [.ref (gB Γ + 164)] g z := by
  unfold f_X3_enrols at h
  refine gStart (own := RX3) (by decide +kernel) rfl (Nat.le_of_ble_eq_true rfl) ?_
  intro p e s m below meth c C0 ls hl hP
  have hS : va_S (gA Γ) s.heap s.heap [] := va_S.rf
  have hl : lv_has ls 1 [(0, .ref (gB Γ + 164))] := hl
  obtain ⟨hx, hb, hml, hr, hown, hts, hK, hlk, hX⟩ := id C0
  refine lv_aload_n hx hb dX3_enrols_0 rfl (lv_at hl 0 rfl) ?_
  refine gf_3_2 hx hb hown hts hK hP wf_X3_24 dX3_enrols_1 ?_
  refine gCVi (rest := []) C0 cal_X5_hasRoom wl_X3_86 wi_X5_hasRoom ws_X5_hasRoom ⟨Nat.le_of_ble_eq_true rfl, Nat.le_of_ble_eq_true rfl⟩ ⟨Nat.le_of_ble_eq_true rfl, Nat.le_of_ble_eq_true rfl⟩ (grv_5 isSt_c165) [] rfl (Nat.le_of_ble_eq_true rfl) hP hS hl.1 dX3_enrols_4 h (fun u hu => m_X5_hasRoom l Γ isSt_c165 g u hu) (fun u1 H locs h hP hS => ?_) rfl
  refine lv_if_ne (tgt := 12) hx hb dX3_enrols_7 (by decide) (fun c2 => ?_) (fun c2 => ?_)
  · replace h := gneg c2 h
    refine lv_aload_n hx hb dX3_enrols_12 rfl (lv_at hl 0 rfl) ?_
    refine gf_3_2 hx hb hown hts hK hP wf_X3_24 dX3_enrols_13 ?_
    refine gCVi (rest := []) C0 cal_X5_enrol wl_X3_89 wi_X5_enrol ws_X5_enrol ⟨Nat.le_of_ble_eq_true rfl, Nat.le_of_ble_eq_true rfl⟩ ⟨Nat.le_of_ble_eq_true rfl, Nat.le_of_ble_eq_true rfl⟩ (grv_5 isSt_c165) [] rfl (Nat.le_of_ble_eq_true rfl) hP hS hl.1 dX3_enrols_16 h (fun u hu => m_X5_enrol l Γ isSt_c165 u1.2 u hu) (fun u3 H locs h hP hS => ?_) rfl
    refine lv_pop hx hb dX3_enrols_19 rfl ?_
    refine lv_iconst (v := 1) hx hb dX3_enrols_20 (by decide) ?_
    exact gzret0 hx hb hr hlk hP hS rfl dX3_enrols_21 h
  · replace h := gpos c2 h
    refine lv_iconst (v := 0) hx hb dX3_enrols_10 (by decide) ?_
    exact gzret0 hx hb hr hlk hP hS rfl dX3_enrols_11 h
set_option maxHeartbeats 2000000 in
set_option maxRecDepth 20000 in
theorem m_X3_givesUp (l : Launch) (Γ : gE)   (a1 : Int32) (g : gG) (z : Int32 × gG) (h : f_X3_givesUp a1 g = some z) : gMi l yX3_givesUp cX3_givesUp 2 (some .boolean) 3 62 Γ [.ref (gB Γ + 164), .int a1] g z := by
  unfold f_X3_givesUp at h
  refine gStart (own := RX3) (by decide +kernel) rfl (Nat.le_of_ble_eq_true rfl) ?_
  intro p e s m below meth c C0 ls hl hP
  have hS : va_S (gA Γ) s.heap s.heap [] := va_S.rf
  have hl : lv_has ls 2 [(0, .ref (gB Γ + 164)), (1, .int a1)] := hl
  obtain ⟨hx, hb, hml, hr, hown, hts, hK, hlk, hX⟩ := id C0
  refine lv_aload_n hx hb dX3_givesUp_0 rfl (lv_at hl 0 rfl) ?_
  refine gf_3_2 hx hb hown hts hK hP wf_X3_24 dX3_givesUp_1 ?_
  refine lv_iload_n hx hb dX3_givesUp_4 rfl (lv_at hl 1 rfl) ?_
  refine gCVi (rest := []) C0 cal_X5_hasTeam wl_X3_52 wi_X5_hasTeam ws_X5_hasTeam ⟨Nat.le_of_ble_eq_true rfl, Nat.le_of_ble_eq_true rfl⟩ ⟨Nat.le_of_ble_eq_true rfl, Nat.le_of_ble_eq_true rfl⟩ (grv_5 isSt_c165) [.int a1] rfl (Nat.le_of_ble_eq_true rfl) hP hS hl.1 dX3_givesUp_5 h (fun u hu => m_X5_hasTeam l Γ isSt_c165 a1 g u hu) (fun u1 H locs h hP hS => ?_) rfl
  refine lv_if_ne (tgt := 13) hx hb dX3_givesUp_8 (by decide) (fun c2 => ?_) (fun c2 => ?_)
  · replace h := gneg c2 h
    refine lv_aload_n hx hb dX3_givesUp_13 rfl (lv_at hl 0 rfl) ?_
    refine gf_3_2 hx hb hown hts hK hP wf_X3_24 dX3_givesUp_14 ?_
    refine lv_iload_n hx hb dX3_givesUp_17 rfl (lv_at hl 1 rfl) ?_
    refine gCVi (rest := []) C0 cal_X5_dismiss wl_X3_93 wi_X5_dismiss ws_X5_dismiss ⟨Nat.le_of_ble_eq_true rfl, Nat.le_of_ble_eq_true rfl⟩ ⟨Nat.le_of_ble_eq_true rfl, Nat.le_of_ble_eq_true rfl⟩ (grv_5 isSt_c165) [.int a1] rfl (Nat.le_of_ble_eq_true rfl) hP hS hl.1 dX3_givesUp_18 h (fun u hu => m_X5_dismiss l Γ isSt_c165 a1 u1.2 u hu) (fun u3 H locs h hP hS => ?_) rfl
    refine lv_pop hx hb dX3_givesUp_21 rfl ?_
    refine lv_iconst (v := 1) hx hb dX3_givesUp_22 (by decide) ?_
    exact gzret0 hx hb hr hlk hP hS rfl dX3_givesUp_23 h
  · replace h := gpos c2 h
    refine lv_iconst (v := 0) hx hb dX3_givesUp_11 (by decide) ?_
    exact gzret0 hx hb hr hlk hP hS rfl dX3_givesUp_12 h
set_option maxHeartbeats 2000000 in
set_option maxRecDepth 20000 in
theorem m_X3_isSafe (l : Launch) (Γ : gE)   (a1 : Int32) (a2 : Int32) (g : gG) (z : Int32 × gG) (h : f_X3_isSafe a1 a2 g = some z) : gMi l yX3_isSafe cX3_isSafe 3 (some .boolean) 4 96 Γ [.ref (gB Γ + 164), .int a1, .int a2] g z := by
  unfold f_X3_isSafe at h
  refine gStart (own := RX3) (by decide +kernel) rfl (Nat.le_of_ble_eq_true rfl) ?_
  intro p e s m below meth c C0 ls hl hP
  have hS : va_S (gA Γ) s.heap s.heap [] := va_S.rf
  have hl : lv_has ls 3 [(0, .ref (gB Γ + 164)), (1, .int a1), (2, .int a2)] := hl
  obtain ⟨hx, hb, hml, hr, hown, hts, hK, hlk, hX⟩ := id C0
  refine lv_aload_n hx hb dX3_isSafe_0 rfl (lv_at hl 0 rfl) ?_
  refine gf_3_2 hx hb hown hts hK hP wf_X3_24 dX3_isSafe_1 ?_
  refine lv_iload_n hx hb dX3_isSafe_4 rfl (lv_at hl 1 rfl) ?_
  refine gCVi (rest := []) C0 cal_X5_hasTeam wl_X3_52 wi_X5_hasTeam ws_X5_hasTeam ⟨Nat.le_of_ble_eq_true rfl, Nat.le_of_ble_eq_true rfl⟩ ⟨Nat.le_of_ble_eq_true rfl, Nat.le_of_ble_eq_true rfl⟩ (grv_5 isSt_c165) [.int a1] rfl (Nat.le_of_ble_eq_true rfl) hP hS hl.1 dX3_isSafe_5 h (fun u hu => m_X5_hasTeam l Γ isSt_c165 a1 g u hu) (fun u1 H locs h hP hS => ?_) rfl
  refine lv_if_eq (tgt := 45) hx hb dX3_isSafe_8 (by decide) (fun c2 => ?_) (fun c2 => ?_)
  · replace h := gpos c2 h
    refine lv_iconst (v := 0) hx hb dX3_isSafe_45 (by decide) ?_
    exact gzret0 hx hb hr hlk hP hS rfl dX3_isSafe_46 h
  · replace h := gneg c2 h
    refine lv_aload_n hx hb dX3_isSafe_11 rfl (lv_at hl 0 rfl) ?_
    refine gf_3_0 hx hb hown hts hK hP wf_X3_9 dX3_isSafe_12 ?_
    refine lv_iload_n hx hb dX3_isSafe_15 rfl (lv_at hl 2 rfl) ?_
    refine gCVi (rest := []) C0 cal_X0_hasPlace wl_X3_96 wi_X0_hasPlace ws_X0_hasPlace ⟨Nat.le_of_ble_eq_true rfl, Nat.le_of_ble_eq_true rfl⟩ ⟨Nat.le_of_ble_eq_true rfl, Nat.le_of_ble_eq_true rfl⟩ grv_0 [.int a2] rfl (Nat.le_of_ble_eq_true rfl) hP hS hl.1 dX3_isSafe_16 h (fun u hu => m_X0_hasPlace l Γ a2 u1.2 u hu) (fun u3 H locs h hP hS => ?_) rfl
    refine lv_if_eq (tgt := 45) hx hb dX3_isSafe_19 (by decide) (fun c4 => ?_) (fun c4 => ?_)
    · replace h := gpos c4 h
      refine lv_iconst (v := 0) hx hb dX3_isSafe_45 (by decide) ?_
      exact gzret0 hx hb hr hlk hP hS rfl dX3_isSafe_46 h
    · replace h := gneg c4 h
      refine lv_iload_n hx hb dX3_isSafe_22 rfl (lv_at hl 2 rfl) ?_
      refine lv_aload_n hx hb dX3_isSafe_23 rfl (lv_at hl 0 rfl) ?_
      refine gf_3_1 hx hb hown hts hK hP wf_X3_15 dX3_isSafe_24 ?_
      refine lv_aload_n hx hb dX3_isSafe_27 rfl (lv_at hl 0 rfl) ?_
      refine gf_3_2 hx hb hown hts hK hP wf_X3_24 dX3_isSafe_28 ?_
      refine lv_iload_n hx hb dX3_isSafe_31 rfl (lv_at hl 1 rfl) ?_
      refine gCVi (rest := [.int a2]) C0 cal_X8_safeFor wl_X3_76 wi_X8_safeFor ws_X8_safeFor ⟨Nat.le_of_ble_eq_true rfl, Nat.le_of_ble_eq_true rfl⟩ ⟨Nat.le_of_ble_eq_true rfl, Nat.le_of_ble_eq_true rfl⟩ grv_8 [.ref (gB Γ + 165), .int a1] rfl (Nat.le_of_ble_eq_true rfl) hP hS hl.1 dX3_isSafe_32 h (fun u hu => m_X8_safeFor l Γ isSt_c165 a1 u3.2 u hu) (fun u5 H locs h hP hS => ?_) rfl
      refine gCNi (rest := []) C0 cal_X9_isIn wln_X3_101 wt_X9_isIn ⟨Nat.le_of_ble_eq_true rfl, Nat.le_of_ble_eq_true rfl⟩ ⟨Nat.le_of_ble_eq_true rfl, Nat.le_of_ble_eq_true rfl⟩ [.int a2, .int u5.1] rfl (Nat.le_of_ble_eq_true rfl) hP hS hl.1 dX3_isSafe_35 h (fun u hu => m_X9_isIn l Γ a2 u5.1 u5.2 u hu) (fun u6 H locs h hP hS => ?_) rfl
      refine lv_if_eq (tgt := 45) hx hb dX3_isSafe_38 (by decide) (fun c7 => ?_) (fun c7 => ?_)
      · replace h := gpos c7 h
        refine lv_iconst (v := 0) hx hb dX3_isSafe_45 (by decide) ?_
        exact gzret0 hx hb hr hlk hP hS rfl dX3_isSafe_46 h
      · replace h := gneg c7 h
        refine lv_iconst (v := 1) hx hb dX3_isSafe_41 (by decide) ?_
        refine lv_goto (tgt := 46) hx hb dX3_isSafe_42 (by decide) ?_
        exact gzret0 hx hb hr hlk hP hS rfl dX3_isSafe_46 h
set_option maxHeartbeats 2000000 in
set_option maxRecDepth 20000 in
theorem m_X3_moves (l : Launch) (Γ : gE)   (a1 : Int32) (a2 : Int32) (a3 : Int32) (g : gG) (z : Int32 × gG) (h : f_X3_moves a1 a2 a3 g = some z) : gMi l yX3_moves cX3_moves 4 (some .boolean) 2 45 Γ [.ref (gB Γ + 164), .int a1, .int a2, .int a3] g z := by
  unfold f_X3_moves at h
  refine gStart (own := RX3) (by decide +kernel) rfl (Nat.le_of_ble_eq_true rfl) ?_
  intro p e s m below meth c C0 ls hl hP
  have hS : va_S (gA Γ) s.heap s.heap [] := va_S.rf
  have hl : lv_has ls 4 [(0, .ref (gB Γ + 164)), (1, .int a1), (2, .int a2), (3, .int a3)] := hl
  obtain ⟨hx, hb, hml, hr, hown, hts, hK, hlk, hX⟩ := id C0
  refine lv_aload_n hx hb dX3_moves_0 rfl (lv_at hl 0 rfl) ?_
  refine gf_3_0 hx hb hown hts hK hP wf_X3_9 dX3_moves_1 ?_
  refine lv_iload_n hx hb dX3_moves_4 rfl (lv_at hl 1 rfl) ?_
  refine gCVi (rest := []) C0 cal_X0_hasPlace wl_X3_96 wi_X0_hasPlace ws_X0_hasPlace ⟨Nat.le_of_ble_eq_true rfl, Nat.le_of_ble_eq_true rfl⟩ ⟨Nat.le_of_ble_eq_true rfl, Nat.le_of_ble_eq_true rfl⟩ grv_0 [.int a1] rfl (Nat.le_of_ble_eq_true rfl) hP hS hl.1 dX3_moves_5 h (fun u hu => m_X0_hasPlace l Γ a1 g u hu) (fun u1 H locs h hP hS => ?_) rfl
  refine lv_if_ne (tgt := 13) hx hb dX3_moves_8 (by decide) (fun c2 => ?_) (fun c2 => ?_)
  · replace h := gneg c2 h
    refine lv_aload_n hx hb dX3_moves_13 rfl (lv_at hl 0 rfl) ?_
    refine gf_3_2 hx hb hown hts hK hP wf_X3_24 dX3_moves_14 ?_
    refine lv_iload_n hx hb dX3_moves_17 rfl (lv_at hl 1 rfl) ?_
    refine lv_iload_n hx hb dX3_moves_18 rfl (lv_at hl 2 rfl) ?_
    refine lv_iload_n hx hb dX3_moves_19 rfl (lv_at hl 3 rfl) ?_
    refine gCVi (rest := []) C0 cal_X5_put wl_X3_104 wi_X5_put ws_X5_put ⟨Nat.le_of_ble_eq_true rfl, Nat.le_of_ble_eq_true rfl⟩ ⟨Nat.le_of_ble_eq_true rfl, Nat.le_of_ble_eq_true rfl⟩ (grv_5 isSt_c165) [.int a1, .int a2, .int a3] rfl (Nat.le_of_ble_eq_true rfl) hP hS hl.1 dX3_moves_20 h (fun u hu => m_X5_put l Γ isSt_c165 a1 a2 a3 u1.2 u hu) (fun u3 H locs h hP hS => ?_) rfl
    refine lv_pop hx hb dX3_moves_23 rfl ?_
    refine lv_iconst (v := 1) hx hb dX3_moves_24 (by decide) ?_
    exact gzret0 hx hb hr hlk hP hS rfl dX3_moves_25 h
  · replace h := gpos c2 h
    refine lv_iconst (v := 0) hx hb dX3_moves_11 (by decide) ?_
    exact gzret0 hx hb hr hlk hP hS rfl dX3_moves_12 h
set_option maxHeartbeats 2000000 in
set_option maxRecDepth 20000 in
theorem m_X3_eases (l : Launch) (Γ : gE)   (a1 : Int32) (g : gG) (z : Int32 × gG) (h : f_X3_eases a1 g = some z) : gMi l yX3_eases cX3_eases 2 (some .boolean) 2 42 Γ [.ref (gB Γ + 164), .int a1] g z := by
  unfold f_X3_eases at h
  refine gStart (own := RX3) (by decide +kernel) rfl (Nat.le_of_ble_eq_true rfl) ?_
  intro p e s m below meth c C0 ls hl hP
  have hS : va_S (gA Γ) s.heap s.heap [] := va_S.rf
  have hl : lv_has ls 2 [(0, .ref (gB Γ + 164)), (1, .int a1)] := hl
  obtain ⟨hx, hb, hml, hr, hown, hts, hK, hlk, hX⟩ := id C0
  refine lv_aload_n hx hb dX3_eases_0 rfl (lv_at hl 0 rfl) ?_
  refine gf_3_0 hx hb hown hts hK hP wf_X3_9 dX3_eases_1 ?_
  refine lv_iload_n hx hb dX3_eases_4 rfl (lv_at hl 1 rfl) ?_
  refine gCVi (rest := []) C0 cal_X0_hasPlace wl_X3_96 wi_X0_hasPlace ws_X0_hasPlace ⟨Nat.le_of_ble_eq_true rfl, Nat.le_of_ble_eq_true rfl⟩ ⟨Nat.le_of_ble_eq_true rfl, Nat.le_of_ble_eq_true rfl⟩ grv_0 [.int a1] rfl (Nat.le_of_ble_eq_true rfl) hP hS hl.1 dX3_eases_5 h (fun u hu => m_X0_hasPlace l Γ a1 g u hu) (fun u1 H locs h hP hS => ?_) rfl
  refine lv_if_ne (tgt := 13) hx hb dX3_eases_8 (by decide) (fun c2 => ?_) (fun c2 => ?_)
  · replace h := gneg c2 h
    refine lv_aload_n hx hb dX3_eases_13 rfl (lv_at hl 0 rfl) ?_
    refine gf_3_2 hx hb hown hts hK hP wf_X3_24 dX3_eases_14 ?_
    refine lv_iload_n hx hb dX3_eases_17 rfl (lv_at hl 1 rfl) ?_
    refine gCVv (rest := []) C0 cal_X5_makeEasy wl_X3_108 wi_X5_makeEasy ws_X5_makeEasy ⟨Nat.le_of_ble_eq_true rfl, Nat.le_of_ble_eq_true rfl⟩ ⟨Nat.le_of_ble_eq_true rfl, Nat.le_of_ble_eq_true rfl⟩ (grv_5 isSt_c165) [.int a1] rfl (Nat.le_of_ble_eq_true rfl) hP hS hl.1 dX3_eases_18 h (fun u hu => m_X5_makeEasy l Γ isSt_c165 a1 u1.2 u hu) (fun u3 H locs h hP hS => ?_) rfl
    refine lv_iconst (v := 1) hx hb dX3_eases_21 (by decide) ?_
    exact gzret0 hx hb hr hlk hP hS rfl dX3_eases_22 h
  · replace h := gpos c2 h
    refine lv_iconst (v := 0) hx hb dX3_eases_11 (by decide) ?_
    exact gzret0 hx hb hr hlk hP hS rfl dX3_eases_12 h
set_option maxHeartbeats 2000000 in
set_option maxRecDepth 20000 in
theorem m_X3_succeeds (l : Launch) (Γ : gE)   (a1 : Int32) (g : gG) (z : Int32 × gG) (h : f_X3_succeeds a1 g = some z) : gMi l yX3_succeeds cX3_succeeds 5 (some .boolean) 5 118 Γ [.ref (gB Γ + 164), .int a1] g z := by
  unfold f_X3_succeeds at h
  refine gStart (own := RX3) (by decide +kernel) rfl (Nat.le_of_ble_eq_true rfl) ?_
  intro p e s m below meth c C0 ls hl hP
  have hS : va_S (gA Γ) s.heap s.heap [] := va_S.rf
  have hl : lv_has ls 5 [(0, .ref (gB Γ + 164)), (1, .int a1)] := hl
  obtain ⟨hx, hb, hml, hr, hown, hts, hK, hlk, hX⟩ := id C0
  refine lv_iload_n hx hb dX3_succeeds_0 rfl (lv_at hl 1 rfl) ?_
  refine lv_bipush (v := 100) hx hb dX3_succeeds_1 (by decide) ?_
  refine lv_idiv hx hb dX3_succeeds_3 (by decide) ?_
  refine lv_bipush (v := 10) hx hb dX3_succeeds_4 (by decide) ?_
  refine lv_irem hx hb dX3_succeeds_6 (by decide) ?_
  refine lv_topi (fun x1 ex1 => ?_)
  replace h := gLetI ex1 h
  refine lv_istore_n (lv' := [(2, .int x1), (0, .ref (gB Γ + 164)), (1, .int a1)]) hx hb dX3_succeeds_7 rfl hl (by decide) rfl (fun ls hl => ?_)
  refine lv_iload_n hx hb dX3_succeeds_8 rfl (lv_at hl 2 rfl) ?_
  refine lv_bipush (v := 10) hx hb dX3_succeeds_9 (by decide) ?_
  refine lv_idiv hx hb dX3_succeeds_11 (by decide) ?_
  refine lv_bipush (v := 10) hx hb dX3_succeeds_12 (by decide) ?_
  refine lv_irem hx hb dX3_succeeds_14 (by decide) ?_
  refine lv_topi (fun x2 ex2 => ?_)
  replace h := gLetI ex2 h
  refine lv_istore_n (lv' := [(3, .int x2), (2, .int x1), (0, .ref (gB Γ + 164)), (1, .int a1)]) hx hb dX3_succeeds_15 rfl hl (by decide) rfl (fun ls hl => ?_)
  refine lv_iload_n hx hb dX3_succeeds_16 rfl (lv_at hl 3 rfl) ?_
  refine lv_bipush (v := 10) hx hb dX3_succeeds_17 (by decide) ?_
  refine lv_irem hx hb dX3_succeeds_19 (by decide) ?_
  refine lv_topi (fun x3 ex3 => ?_)
  replace h := gLetI ex3 h
  refine lv_istore (lv' := [(4, .int x3), (3, .int x2), (2, .int x1), (0, .ref (gB Γ + 164)), (1, .int a1)]) hx hb dX3_succeeds_20 hl (by decide) rfl (fun ls hl => ?_)
  refine lv_iload_n hx hb dX3_succeeds_22 rfl (lv_at hl 4 rfl) ?_
  refine lv_sipush (v := 1000) hx hb dX3_succeeds_23 (by decide) ?_
  refine lv_idiv hx hb dX3_succeeds_26 (by decide) ?_
  by_cases c4 : (a1 / (1000 : Int32)) = (1 : Int32)
  · replace h := gpos c4 h
    refine lv_tableIn (tgt := 76) hx hb dX3_succeeds_27 (by rw [c4]; decide) (by rw [c4]; decide) (by rw [c4]; rfl) (by decide) ?_
    refine lv_iload hx hb dX3_succeeds_76 (lv_at hl 0 rfl) ?_
    refine lv_if_ne (tgt := 94) hx hb dX3_succeeds_78 (by decide) (fun c5 => ?_) (fun c5 => ?_)
    · replace h := gneg c5 h
      refine lv_iconst (v := 0) hx hb dX3_succeeds_94 (by decide) ?_
      exact gzret0 hx hb hr hlk hP hS rfl dX3_succeeds_95 h
    · replace h := gpos c5 h
      refine lv_aload_n hx hb dX3_succeeds_81 rfl (lv_at hl 3 rfl) ?_
      refine lv_iload_n hx hb dX3_succeeds_82 rfl (lv_at hl 2 rfl) ?_
      refine lv_iload_n hx hb dX3_succeeds_83 rfl (lv_at hl 1 rfl) ?_
      refine gCVi (rest := []) C0 cal_X3_visits wl_X3_34 wi_X3_visits ws_X3_visits ⟨Nat.le_of_ble_eq_true rfl, Nat.le_of_ble_eq_true rfl⟩ ⟨Nat.le_of_ble_eq_true rfl, Nat.le_of_ble_eq_true rfl⟩ grv_3 [.int x1, .int x2] rfl (Nat.le_of_ble_eq_true rfl) hP hS hl.1 dX3_succeeds_84 h (fun u hu => m_X3_visits l Γ x1 x2 g u hu) (fun u6 H locs h hP hS => ?_) rfl
      refine lv_if_eq (tgt := 94) hx hb dX3_succeeds_87 (by decide) (fun c7 => ?_) (fun c7 => ?_)
      · replace h := gpos c7 h
        refine lv_iconst (v := 0) hx hb dX3_succeeds_94 (by decide) ?_
        exact gzret0 hx hb hr hlk hP hS rfl dX3_succeeds_95 h
      · replace h := gneg c7 h
        refine lv_iconst (v := 1) hx hb dX3_succeeds_90 (by decide) ?_
        refine lv_goto (tgt := 95) hx hb dX3_succeeds_91 (by decide) ?_
        exact gzret0 hx hb hr hlk hP hS rfl dX3_succeeds_95 h
  replace h := gneg c4 h
  by_cases c8 : (a1 / (1000 : Int32)) = (2 : Int32)
  · replace h := gpos c8 h
    refine lv_tableIn (tgt := 96) hx hb dX3_succeeds_27 (by rw [c8]; decide) (by rw [c8]; decide) (by rw [c8]; rfl) (by decide) ?_
    refine lv_iload_n hx hb dX3_succeeds_96 rfl (lv_at hl 1 rfl) ?_
    refine lv_if_ne (tgt := 117) hx hb dX3_succeeds_97 (by decide) (fun c9 => ?_) (fun c9 => ?_)
    · replace h := gneg c9 h
      refine lv_iconst (v := 0) hx hb dX3_succeeds_117 (by decide) ?_
      exact gzret0 hx hb hr hlk hP hS rfl dX3_succeeds_118 h
    · replace h := gpos c9 h
      refine lv_iload hx hb dX3_succeeds_100 (lv_at hl 0 rfl) ?_
      refine lv_if_ne (tgt := 117) hx hb dX3_succeeds_102 (by decide) (fun c10 => ?_) (fun c10 => ?_)
      · replace h := gneg c10 h
        refine lv_iconst (v := 0) hx hb dX3_succeeds_117 (by decide) ?_
        exact gzret0 hx hb hr hlk hP hS rfl dX3_succeeds_118 h
      · replace h := gpos c10 h
        refine lv_aload_n hx hb dX3_succeeds_105 rfl (lv_at hl 3 rfl) ?_
        refine lv_iload_n hx hb dX3_succeeds_106 rfl (lv_at hl 2 rfl) ?_
        refine gCVi (rest := []) C0 cal_X3_getsHint wl_X3_38 wi_X3_getsHint ws_X3_getsHint ⟨Nat.le_of_ble_eq_true rfl, Nat.le_of_ble_eq_true rfl⟩ ⟨Nat.le_of_ble_eq_true rfl, Nat.le_of_ble_eq_true rfl⟩ grv_3 [.int x1] rfl (Nat.le_of_ble_eq_true rfl) hP hS hl.1 dX3_succeeds_107 h (fun u hu => m_X3_getsHint l Γ x1 g u hu) (fun u11 H locs h hP hS => ?_) rfl
        refine lv_if_eq (tgt := 117) hx hb dX3_succeeds_110 (by decide) (fun c12 => ?_) (fun c12 => ?_)
        · replace h := gpos c12 h
          refine lv_iconst (v := 0) hx hb dX3_succeeds_117 (by decide) ?_
          exact gzret0 hx hb hr hlk hP hS rfl dX3_succeeds_118 h
        · replace h := gneg c12 h
          refine lv_iconst (v := 1) hx hb dX3_succeeds_113 (by decide) ?_
          refine lv_goto (tgt := 118) hx hb dX3_succeeds_114 (by decide) ?_
          exact gzret0 hx hb hr hlk hP hS rfl dX3_succeeds_118 h
  replace h := gneg c8 h
  by_cases c13 : (a1 / (1000 : Int32)) = (3 : Int32)
  · replace h := gpos c13 h
    refine lv_tableIn (tgt := 119) hx hb dX3_succeeds_27 (by rw [c13]; decide) (by rw [c13]; decide) (by rw [c13]; rfl) (by decide) ?_
    refine lv_iload_n hx hb dX3_succeeds_119 rfl (lv_at hl 2 rfl) ?_
    refine lv_if_ne (tgt := 143) hx hb dX3_succeeds_120 (by decide) (fun c14 => ?_) (fun c14 => ?_)
    · replace h := gneg c14 h
      refine lv_iconst (v := 0) hx hb dX3_succeeds_143 (by decide) ?_
      exact gzret0 hx hb hr hlk hP hS rfl dX3_succeeds_144 h
    · replace h := gpos c14 h
      refine lv_iload_n hx hb dX3_succeeds_123 rfl (lv_at hl 1 rfl) ?_
      refine lv_if_ne (tgt := 143) hx hb dX3_succeeds_124 (by decide) (fun c15 => ?_) (fun c15 => ?_)
      · replace h := gneg c15 h
        refine lv_iconst (v := 0) hx hb dX3_succeeds_143 (by decide) ?_
        exact gzret0 hx hb hr hlk hP hS rfl dX3_succeeds_144 h
      · replace h := gpos c15 h
        refine lv_iload hx hb dX3_succeeds_127 (lv_at hl 0 rfl) ?_
        refine lv_if_ne (tgt := 143) hx hb dX3_succeeds_129 (by decide) (fun c16 => ?_) (fun c16 => ?_)
        · replace h := gneg c16 h
          refine lv_iconst (v := 0) hx hb dX3_succeeds_143 (by decide) ?_
          exact gzret0 hx hb hr hlk hP hS rfl dX3_succeeds_144 h
        · replace h := gpos c16 h
          refine lv_aload_n hx hb dX3_succeeds_132 rfl (lv_at hl 3 rfl) ?_
          refine gCVi (rest := []) C0 cal_X3_enrols wl_X3_42 wi_X3_enrols ws_X3_enrols ⟨Nat.le_of_ble_eq_true rfl, Nat.le_of_ble_eq_true rfl⟩ ⟨Nat.le_of_ble_eq_true rfl, Nat.le_of_ble_eq_true rfl⟩ grv_3 [] rfl (Nat.le_of_ble_eq_true rfl) hP hS hl.1 dX3_succeeds_133 h (fun u hu => m_X3_enrols l Γ g u hu) (fun u17 H locs h hP hS => ?_) rfl
          refine lv_if_eq (tgt := 143) hx hb dX3_succeeds_136 (by decide) (fun c18 => ?_) (fun c18 => ?_)
          · replace h := gpos c18 h
            refine lv_iconst (v := 0) hx hb dX3_succeeds_143 (by decide) ?_
            exact gzret0 hx hb hr hlk hP hS rfl dX3_succeeds_144 h
          · replace h := gneg c18 h
            refine lv_iconst (v := 1) hx hb dX3_succeeds_139 (by decide) ?_
            refine lv_goto (tgt := 144) hx hb dX3_succeeds_140 (by decide) ?_
            exact gzret0 hx hb hr hlk hP hS rfl dX3_succeeds_144 h
  replace h := gneg c13 h
  by_cases c19 : (a1 / (1000 : Int32)) = (4 : Int32)
  · replace h := gpos c19 h
    refine lv_tableIn (tgt := 145) hx hb dX3_succeeds_27 (by rw [c19]; decide) (by rw [c19]; decide) (by rw [c19]; rfl) (by decide) ?_
    refine lv_iload_n hx hb dX3_succeeds_145 rfl (lv_at hl 1 rfl) ?_
    refine lv_if_ne (tgt := 166) hx hb dX3_succeeds_146 (by decide) (fun c20 => ?_) (fun c20 => ?_)
    · replace h := gneg c20 h
      refine lv_iconst (v := 0) hx hb dX3_succeeds_166 (by decide) ?_
      exact gzret0 hx hb hr hlk hP hS rfl dX3_succeeds_167 h
    · replace h := gpos c20 h
      refine lv_iload hx hb dX3_succeeds_149 (lv_at hl 0 rfl) ?_
      refine lv_if_ne (tgt := 166) hx hb dX3_succeeds_151 (by decide) (fun c21 => ?_) (fun c21 => ?_)
      · replace h := gneg c21 h
        refine lv_iconst (v := 0) hx hb dX3_succeeds_166 (by decide) ?_
        exact gzret0 hx hb hr hlk hP hS rfl dX3_succeeds_167 h
      · replace h := gpos c21 h
        refine lv_aload_n hx hb dX3_succeeds_154 rfl (lv_at hl 3 rfl) ?_
        refine lv_iload_n hx hb dX3_succeeds_155 rfl (lv_at hl 2 rfl) ?_
        refine gCVi (rest := []) C0 cal_X3_givesUp wl_X3_46 wi_X3_givesUp ws_X3_givesUp ⟨Nat.le_of_ble_eq_true rfl, Nat.le_of_ble_eq_true rfl⟩ ⟨Nat.le_of_ble_eq_true rfl, Nat.le_of_ble_eq_true rfl⟩ grv_3 [.int x1] rfl (Nat.le_of_ble_eq_true rfl) hP hS hl.1 dX3_succeeds_156 h (fun u hu => m_X3_givesUp l Γ x1 g u hu) (fun u22 H locs h hP hS => ?_) rfl
        refine lv_if_eq (tgt := 166) hx hb dX3_succeeds_159 (by decide) (fun c23 => ?_) (fun c23 => ?_)
        · replace h := gpos c23 h
          refine lv_iconst (v := 0) hx hb dX3_succeeds_166 (by decide) ?_
          exact gzret0 hx hb hr hlk hP hS rfl dX3_succeeds_167 h
        · replace h := gneg c23 h
          refine lv_iconst (v := 1) hx hb dX3_succeeds_162 (by decide) ?_
          refine lv_goto (tgt := 167) hx hb dX3_succeeds_163 (by decide) ?_
          exact gzret0 hx hb hr hlk hP hS rfl dX3_succeeds_167 h
  replace h := gneg c19 h
  by_cases c24 : (a1 / (1000 : Int32)) = (5 : Int32)
  · replace h := gpos c24 h
    refine lv_tableIn (tgt := 168) hx hb dX3_succeeds_27 (by rw [c24]; decide) (by rw [c24]; decide) (by rw [c24]; rfl) (by decide) ?_
    refine lv_iload hx hb dX3_succeeds_168 (lv_at hl 0 rfl) ?_
    refine lv_if_ne (tgt := 186) hx hb dX3_succeeds_170 (by decide) (fun c25 => ?_) (fun c25 => ?_)
    · replace h := gneg c25 h
      refine lv_iconst (v := 0) hx hb dX3_succeeds_186 (by decide) ?_
      exact gzret0 hx hb hr hlk hP hS rfl dX3_succeeds_187 h
    · replace h := gpos c25 h
      refine lv_aload_n hx hb dX3_succeeds_173 rfl (lv_at hl 3 rfl) ?_
      refine lv_iload_n hx hb dX3_succeeds_174 rfl (lv_at hl 2 rfl) ?_
      refine lv_iload_n hx hb dX3_succeeds_175 rfl (lv_at hl 1 rfl) ?_
      refine gCVi (rest := []) C0 cal_X3_isSafe wl_X3_49 wi_X3_isSafe ws_X3_isSafe ⟨Nat.le_of_ble_eq_true rfl, Nat.le_of_ble_eq_true rfl⟩ ⟨Nat.le_of_ble_eq_true rfl, Nat.le_of_ble_eq_true rfl⟩ grv_3 [.int x1, .int x2] rfl (Nat.le_of_ble_eq_true rfl) hP hS hl.1 dX3_succeeds_176 h (fun u hu => m_X3_isSafe l Γ x1 x2 g u hu) (fun u26 H locs h hP hS => ?_) rfl
      refine lv_if_eq (tgt := 186) hx hb dX3_succeeds_179 (by decide) (fun c27 => ?_) (fun c27 => ?_)
      · replace h := gpos c27 h
        refine lv_iconst (v := 0) hx hb dX3_succeeds_186 (by decide) ?_
        exact gzret0 hx hb hr hlk hP hS rfl dX3_succeeds_187 h
      · replace h := gneg c27 h
        refine lv_iconst (v := 1) hx hb dX3_succeeds_182 (by decide) ?_
        refine lv_goto (tgt := 187) hx hb dX3_succeeds_183 (by decide) ?_
        exact gzret0 hx hb hr hlk hP hS rfl dX3_succeeds_187 h
  replace h := gneg c24 h
  by_cases c28 : (a1 / (1000 : Int32)) = (6 : Int32)
  · replace h := gpos c28 h
    refine lv_tableIn (tgt := 188) hx hb dX3_succeeds_27 (by rw [c28]; decide) (by rw [c28]; decide) (by rw [c28]; rfl) (by decide) ?_
    refine lv_aload_n hx hb dX3_succeeds_188 rfl (lv_at hl 3 rfl) ?_
    refine gf_3_2 hx hb hown hts hK hP wf_X3_24 dX3_succeeds_189 ?_
    refine lv_iload_n hx hb dX3_succeeds_192 rfl (lv_at hl 2 rfl) ?_
    refine gCVi (rest := []) C0 cal_X5_hasTeam wl_X3_52 wi_X5_hasTeam ws_X5_hasTeam ⟨Nat.le_of_ble_eq_true rfl, Nat.le_of_ble_eq_true rfl⟩ ⟨Nat.le_of_ble_eq_true rfl, Nat.le_of_ble_eq_true rfl⟩ (grv_5 isSt_c165) [.int x1] rfl (Nat.le_of_ble_eq_true rfl) hP hS hl.1 dX3_succeeds_193 h (fun u hu => m_X5_hasTeam l Γ isSt_c165 x1 g u hu) (fun u29 H locs h hP hS => ?_) rfl
    refine lv_if_eq (tgt := 221) hx hb dX3_succeeds_196 (by decide) (fun c30 => ?_) (fun c30 => ?_)
    · replace h := gpos c30 h
      refine lv_iconst (v := 0) hx hb dX3_succeeds_221 (by decide) ?_
      exact gzret0 hx hb hr hlk hP hS rfl dX3_succeeds_222 h
    · replace h := gneg c30 h
      refine lv_aload_n hx hb dX3_succeeds_199 rfl (lv_at hl 3 rfl) ?_
      refine gf_3_2 hx hb hown hts hK hP wf_X3_24 dX3_succeeds_200 ?_
      refine lv_iload_n hx hb dX3_succeeds_203 rfl (lv_at hl 2 rfl) ?_
      refine gCVi (rest := []) C0 cal_X5_minutesOf wl_X3_55 wi_X5_minutesOf ws_X5_minutesOf ⟨Nat.le_of_ble_eq_true rfl, Nat.le_of_ble_eq_true rfl⟩ ⟨Nat.le_of_ble_eq_true rfl, Nat.le_of_ble_eq_true rfl⟩ (grv_5 isSt_c165) [.int x1] rfl (Nat.le_of_ble_eq_true rfl) hP hS hl.1 dX3_succeeds_204 h (fun u hu => m_X5_minutesOf l Γ isSt_c165 x1 u29.2 u hu) (fun u31 H locs h hP hS => ?_) rfl
      refine lv_bipush (v := 10) hx hb dX3_succeeds_207 (by decide) ?_
      refine lv_iload_n hx hb dX3_succeeds_209 rfl (lv_at hl 1 rfl) ?_
      refine lv_imul hx hb dX3_succeeds_210 ?_
      refine lv_iload hx hb dX3_succeeds_211 (lv_at hl 0 rfl) ?_
      refine lv_iadd hx hb dX3_succeeds_213 ?_
      refine lv_icmp_gt (tgt := 221) hx hb dX3_succeeds_214 (by decide) (fun c32 => ?_) (fun c32 => ?_)
      · replace h := gpos c32 h
        refine lv_iconst (v := 0) hx hb dX3_succeeds_221 (by decide) ?_
        exact gzret0 hx hb hr hlk hP hS rfl dX3_succeeds_222 h
      · replace h := gneg c32 h
        refine lv_iconst (v := 1) hx hb dX3_succeeds_217 (by decide) ?_
        refine lv_goto (tgt := 222) hx hb dX3_succeeds_218 (by decide) ?_
        exact gzret0 hx hb hr hlk hP hS rfl dX3_succeeds_222 h
  replace h := gneg c28 h
  by_cases c33 : (a1 / (1000 : Int32)) = (7 : Int32)
  · replace h := gpos c33 h
    refine lv_tableIn (tgt := 223) hx hb dX3_succeeds_27 (by rw [c33]; decide) (by rw [c33]; decide) (by rw [c33]; rfl) (by decide) ?_
    refine lv_aload_n hx hb dX3_succeeds_223 rfl (lv_at hl 3 rfl) ?_
    refine lv_iload_n hx hb dX3_succeeds_224 rfl (lv_at hl 2 rfl) ?_
    refine lv_iload_n hx hb dX3_succeeds_225 rfl (lv_at hl 1 rfl) ?_
    refine lv_iload hx hb dX3_succeeds_226 (lv_at hl 0 rfl) ?_
    refine gCVi (rest := []) C0 cal_X3_moves wl_X3_59 wi_X3_moves ws_X3_moves ⟨Nat.le_of_ble_eq_true rfl, Nat.le_of_ble_eq_true rfl⟩ ⟨Nat.le_of_ble_eq_true rfl, Nat.le_of_ble_eq_true rfl⟩ grv_3 [.int x1, .int x2, .int x3] rfl (Nat.le_of_ble_eq_true rfl) hP hS hl.1 dX3_succeeds_228 h (fun u hu => m_X3_moves l Γ x1 x2 x3 g u hu) (fun u34 H locs h hP hS => ?_) rfl
    exact gzret hx hb hr hlk hP hS dX3_succeeds_231 h
  replace h := gneg c33 h
  by_cases c35 : (a1 / (1000 : Int32)) = (8 : Int32)
  · replace h := gpos c35 h
    refine lv_tableIn (tgt := 232) hx hb dX3_succeeds_27 (by rw [c35]; decide) (by rw [c35]; decide) (by rw [c35]; rfl) (by decide) ?_
    refine lv_iload_n hx hb dX3_succeeds_232 rfl (lv_at hl 1 rfl) ?_
    refine lv_if_ne (tgt := 253) hx hb dX3_succeeds_233 (by decide) (fun c36 => ?_) (fun c36 => ?_)
    · replace h := gneg c36 h
      refine lv_iconst (v := 0) hx hb dX3_succeeds_253 (by decide) ?_
      exact gzret0 hx hb hr hlk hP hS rfl dX3_succeeds_254 h
    · replace h := gpos c36 h
      refine lv_iload hx hb dX3_succeeds_236 (lv_at hl 0 rfl) ?_
      refine lv_if_ne (tgt := 253) hx hb dX3_succeeds_238 (by decide) (fun c37 => ?_) (fun c37 => ?_)
      · replace h := gneg c37 h
        refine lv_iconst (v := 0) hx hb dX3_succeeds_253 (by decide) ?_
        exact gzret0 hx hb hr hlk hP hS rfl dX3_succeeds_254 h
      · replace h := gpos c37 h
        refine lv_aload_n hx hb dX3_succeeds_241 rfl (lv_at hl 3 rfl) ?_
        refine lv_iload_n hx hb dX3_succeeds_242 rfl (lv_at hl 2 rfl) ?_
        refine gCVi (rest := []) C0 cal_X3_eases wl_X3_63 wi_X3_eases ws_X3_eases ⟨Nat.le_of_ble_eq_true rfl, Nat.le_of_ble_eq_true rfl⟩ ⟨Nat.le_of_ble_eq_true rfl, Nat.le_of_ble_eq_true rfl⟩ grv_3 [.int x1] rfl (Nat.le_of_ble_eq_true rfl) hP hS hl.1 dX3_succeeds_243 h (fun u hu => m_X3_eases l Γ x1 g u hu) (fun u38 H locs h hP hS => ?_) rfl
        refine lv_if_eq (tgt := 253) hx hb dX3_succeeds_246 (by decide) (fun c39 => ?_) (fun c39 => ?_)
        · replace h := gpos c39 h
          refine lv_iconst (v := 0) hx hb dX3_succeeds_253 (by decide) ?_
          exact gzret0 hx hb hr hlk hP hS rfl dX3_succeeds_254 h
        · replace h := gneg c39 h
          refine lv_iconst (v := 1) hx hb dX3_succeeds_249 (by decide) ?_
          refine lv_goto (tgt := 254) hx hb dX3_succeeds_250 (by decide) ?_
          exact gzret0 hx hb hr hlk hP hS rfl dX3_succeeds_254 h
  replace h := gneg c35 h
  by_cases c40 : (a1 / (1000 : Int32)) = (9 : Int32)
  · replace h := gpos c40 h
    refine lv_tableIn (tgt := 255) hx hb dX3_succeeds_27 (by rw [c40]; decide) (by rw [c40]; decide) (by rw [c40]; rfl) (by decide) ?_
    refine lv_iload hx hb dX3_succeeds_255 (lv_at hl 0 rfl) ?_
    refine lv_if_ne (tgt := 287) hx hb dX3_succeeds_257 (by decide) (fun c41 => ?_) (fun c41 => ?_)
    · replace h := gneg c41 h
      refine lv_iconst (v := 0) hx hb dX3_succeeds_287 (by decide) ?_
      exact gzret0 hx hb hr hlk hP hS rfl dX3_succeeds_288 h
    · replace h := gpos c41 h
      refine lv_aload_n hx hb dX3_succeeds_260 rfl (lv_at hl 3 rfl) ?_
      refine gf_3_2 hx hb hown hts hK hP wf_X3_24 dX3_succeeds_261 ?_
      refine lv_iload_n hx hb dX3_succeeds_264 rfl (lv_at hl 2 rfl) ?_
      refine gCVi (rest := []) C0 cal_X5_hasTeam wl_X3_52 wi_X5_hasTeam ws_X5_hasTeam ⟨Nat.le_of_ble_eq_true rfl, Nat.le_of_ble_eq_true rfl⟩ ⟨Nat.le_of_ble_eq_true rfl, Nat.le_of_ble_eq_true rfl⟩ (grv_5 isSt_c165) [.int x1] rfl (Nat.le_of_ble_eq_true rfl) hP hS hl.1 dX3_succeeds_265 h (fun u hu => m_X5_hasTeam l Γ isSt_c165 x1 g u hu) (fun u42 H locs h hP hS => ?_) rfl
      refine lv_if_eq (tgt := 287) hx hb dX3_succeeds_268 (by decide) (fun c43 => ?_) (fun c43 => ?_)
      · replace h := gpos c43 h
        refine lv_iconst (v := 0) hx hb dX3_succeeds_287 (by decide) ?_
        exact gzret0 hx hb hr hlk hP hS rfl dX3_succeeds_288 h
      · replace h := gneg c43 h
        refine lv_aload_n hx hb dX3_succeeds_271 rfl (lv_at hl 3 rfl) ?_
        refine gf_3_2 hx hb hown hts hK hP wf_X3_24 dX3_succeeds_272 ?_
        refine lv_iload_n hx hb dX3_succeeds_275 rfl (lv_at hl 2 rfl) ?_
        refine gCVi (rest := []) C0 cal_X5_visitsOf wl_X3_66 wi_X5_visitsOf ws_X5_visitsOf ⟨Nat.le_of_ble_eq_true rfl, Nat.le_of_ble_eq_true rfl⟩ ⟨Nat.le_of_ble_eq_true rfl, Nat.le_of_ble_eq_true rfl⟩ (grv_5 isSt_c165) [.int x1] rfl (Nat.le_of_ble_eq_true rfl) hP hS hl.1 dX3_succeeds_276 h (fun u hu => m_X5_visitsOf l Γ isSt_c165 x1 u42.2 u hu) (fun u44 H locs h hP hS => ?_) rfl
        refine lv_iload_n hx hb dX3_succeeds_279 rfl (lv_at hl 1 rfl) ?_
        refine lv_icmp_lt (tgt := 287) hx hb dX3_succeeds_280 (by decide) (fun c45 => ?_) (fun c45 => ?_)
        · replace h := gpos c45 h
          refine lv_iconst (v := 0) hx hb dX3_succeeds_287 (by decide) ?_
          exact gzret0 hx hb hr hlk hP hS rfl dX3_succeeds_288 h
        · replace h := gneg c45 h
          refine lv_iconst (v := 1) hx hb dX3_succeeds_283 (by decide) ?_
          refine lv_goto (tgt := 288) hx hb dX3_succeeds_284 (by decide) ?_
          exact gzret0 hx hb hr hlk hP hS rfl dX3_succeeds_288 h
  replace h := gneg c40 h
  have nc4 := gNe c4
  simp only [show ((1 : Int32)).toInt = 1 from by decide] at nc4
  have nc8 := gNe c8
  simp only [show ((2 : Int32)).toInt = 2 from by decide] at nc8
  have nc13 := gNe c13
  simp only [show ((3 : Int32)).toInt = 3 from by decide] at nc13
  have nc19 := gNe c19
  simp only [show ((4 : Int32)).toInt = 4 from by decide] at nc19
  have nc24 := gNe c24
  simp only [show ((5 : Int32)).toInt = 5 from by decide] at nc24
  have nc28 := gNe c28
  simp only [show ((6 : Int32)).toInt = 6 from by decide] at nc28
  have nc33 := gNe c33
  simp only [show ((7 : Int32)).toInt = 7 from by decide] at nc33
  have nc35 := gNe c35
  simp only [show ((8 : Int32)).toInt = 8 from by decide] at nc35
  have nc40 := gNe c40
  simp only [show ((9 : Int32)).toInt = 9 from by decide] at nc40
  refine lv_tableOut (tgt := 289) hx hb dX3_succeeds_27 (gTabOut (by omega)) (by decide) ?_
  refine lv_iconst (v := 0) hx hb dX3_succeeds_289 (by decide) ?_
  exact gzret0 hx hb hr hlk hP hS rfl dX3_succeeds_290 h
set_option maxHeartbeats 2000000 in
set_option maxRecDepth 20000 in
theorem bs_X4_draw_46 {p : Program} {l : Launch} {e : Env} {s : State} {m : MethodId} {args : Array Value} {below : List Frame} {meth : Method} {c : Code} {Γ : gE} (C0 : gCx p s m args meth c Γ RX4 cX4_draw 6 (some .int))   {z : Int32 × gG} {F46 : Int32 → Int32 → Int32 → gG → Option (Int32 × gG)} {l3 : Int32} {l4 : Int32} {l5 : Int32} {g : gG} {H : Heap} {locs : List Loc} {ls : Array Slot} (hF46 : ∀ (l3 : Int32) (l4 : Int32) (l5 : Int32) (g : gG) (H : Heap) (locs : List Loc) (ls : Array Slot), F46 l3 l4 l5 g = some z → va_P (gD Γ) gcls (lay Γ g) H → va_S (gA Γ) s.heap H locs → lv_has ls 6 [(3, .int l3), (4, .int l4), (5, .int l5)] → W p l e (gRm 2 42) s m args below meth c H locs 0 0 (MQ below (gQi Γ z) args s 0 0 (gA Γ)) (F0 m 46 ls [])) (h : fs_X4_draw_46 F46 l3 l4 l5 g = some z) (hP : va_P (gD Γ) gcls (lay Γ g) H) (hS : va_S (gA Γ) s.heap H locs) (hl : lv_has ls 6 [(3, .int l3), (4, .int l4), (5, .int l5)]) : W p l e (gRm 2 42) s m args below meth c H locs 0 0 (MQ below (gQi Γ z) args s 0 0 (gA Γ)) (F0 m 46 ls []) := by
  unfold fs_X4_draw_46 at h
  obtain ⟨hx, hb, hml, hr, hown, hts, hK, hlk, hX⟩ := id C0
  refine lv_iload hx hb dX4_draw_46 (lv_at hl 2 rfl) ?_
  refine lv_iload_n hx hb dX4_draw_48 rfl (lv_at hl 0 rfl) ?_
  refine lv_icmp_ge (tgt := 67) hx hb dX4_draw_49 (by decide) (fun c1 => ?_) (fun c1 => ?_)
  · replace h := gpos c1 h
    refine lv_iload hx hb dX4_draw_67 (lv_at hl 1 rfl) ?_
    refine gCNi (rest := []) C0 cal_X9_smallestOf wln_X4_62 wt_X9_smallestOf ⟨Nat.le_of_ble_eq_true rfl, Nat.le_of_ble_eq_true rfl⟩ ⟨Nat.le_of_ble_eq_true rfl, Nat.le_of_ble_eq_true rfl⟩ [.int l4] rfl (Nat.le_of_ble_eq_true rfl) hP hS hl.1 dX4_draw_69 h (fun u hu => m_X9_smallestOf l Γ l4 g u hu) (fun u2 H locs h hP hS => ?_) rfl
    exact giret hx hb hr hlk hP hS dX4_draw_72 h
  · replace h := gneg c1 h
    refine lv_iload hx hb dX4_draw_52 (lv_at hl 1 rfl) ?_
    refine lv_iload hx hb dX4_draw_54 (lv_at hl 1 rfl) ?_
    refine lv_iconst (v := 1) hx hb dX4_draw_56 (by decide) ?_
    refine lv_isub hx hb dX4_draw_57 ?_
    refine lv_iand hx hb dX4_draw_58 ?_
    refine lv_topi (fun x3 ex3 => ?_)
    replace h := gLetI ex3 h
    refine lv_istore (lv' := [(4, .int x3), (3, .int l3), (5, .int l5)]) hx hb dX4_draw_59 hl (by decide) rfl (fun ls hl => ?_)
    obtain ⟨x4, ex4⟩ : ∃ y : Int32, y = l5 + (1 : Int32) := ⟨_, rfl⟩
    replace h := gLetI ex4 h
    refine lv_iinc (v := x4) (lv' := [(5, .int x4), (4, .int x3), (3, .int l3)]) hx hb dX4_draw_61 hl (k := 2) rfl (by rw [ex4]; rfl) (by decide) rfl (fun ls hl => ?_)
    refine lv_goto (tgt := 46) hx hb dX4_draw_64 (by decide) ?_
    exact hF46 _ _ _ _ _ _ _ h hP hS (lv_sub hl [2, 1, 0] rfl)
set_option maxHeartbeats 2000000 in
set_option maxRecDepth 20000 in
theorem bk_X4_draw_46 {p : Program} {l : Launch} {e : Env} {s : State} {m : MethodId} {args : Array Value} {below : List Frame} {meth : Method} {c : Code} {Γ : gE} (C0 : gCx p s m args meth c Γ RX4 cX4_draw 6 (some .int))   {z : Int32 × gG}   : ∀ (n : Nat) (l3 : Int32) (l4 : Int32) (l5 : Int32) (g : gG) (H : Heap) (locs : List Loc) (ls : Array Slot), fb_X4_draw_46 n l3 l4 l5 g = some z → va_P (gD Γ) gcls (lay Γ g) H → va_S (gA Γ) s.heap H locs → lv_has ls 6 [(3, .int l3), (4, .int l4), (5, .int l5)] → W p l e (gRm 2 42) s m args below meth c H locs 0 0 (MQ below (gQi Γ z) args s 0 0 (gA Γ)) (F0 m 46 ls []) := by
  intro n
  induction n with
  | zero => intro l3 l4 l5 g H locs ls h hP hS hl; cases h
  | succ n ih => intro l3 l4 l5 g H locs ls h hP hS hl; exact bs_X4_draw_46 C0  ih h hP hS hl
set_option maxHeartbeats 2000000 in
set_option maxRecDepth 20000 in
theorem bs_X4_draw_39 {p : Program} {l : Launch} {e : Env} {s : State} {m : MethodId} {args : Array Value} {below : List Frame} {meth : Method} {c : Code} {Γ : gE} (C0 : gCx p s m args meth c Γ RX4 cX4_draw 6 (some .int))   {z : Int32 × gG}  {l1 : Int32} {s0 : Int32} {g : gG} {H : Heap} {locs : List Loc} {ls : Array Slot}  (h : fs_X4_draw_39 l1 s0 g = some z) (hP : va_P (gD Γ) gcls (lay Γ g) H) (hS : va_S (gA Γ) s.heap H locs) (hl : lv_has ls 6 [(1, .int l1)]) : W p l e (gRm 2 42) s m args below meth c H locs 0 0 (MQ below (gQi Γ z) args s 0 0 (gA Γ)) (F0 m 39 ls [.int s0]) := by
  unfold fs_X4_draw_39 at h
  obtain ⟨hx, hb, hml, hr, hown, hts, hK, hlk, hX⟩ := id C0
  refine lv_istore_n (lv' := [(3, .int s0), (1, .int l1)]) hx hb dX4_draw_39 rfl hl (by decide) rfl (fun ls hl => ?_)
  refine lv_iload_n hx hb dX4_draw_40 rfl (lv_at hl 1 rfl) ?_
  refine lv_istore (lv' := [(4, .int l1), (3, .int s0), (1, .int l1)]) hx hb dX4_draw_41 hl (by decide) rfl (fun ls hl => ?_)
  refine lv_iconst (v := 0) hx hb dX4_draw_43 (by decide) ?_
  refine lv_istore (lv' := [(5, .int (0 : Int32)), (4, .int l1), (3, .int s0), (1, .int l1)]) hx hb dX4_draw_44 hl (by decide) rfl (fun ls hl => ?_)
  exact bk_X4_draw_46 C0  gFuel _ _ _ _ _ _ _ h hP hS (lv_sub hl [2, 1, 0] rfl)
set_option maxHeartbeats 2000000 in
set_option maxRecDepth 20000 in
theorem m_X4_draw (l : Launch) (Γ : gE)   (a1 : Int32) (g : gG) (z : Int32 × gG) (h : f_X4_draw a1 g = some z) : gMi l yX4_draw cX4_draw 6 (some .int) 2 42 Γ [.ref (gB Γ + 173), .int a1] g z := by
  unfold f_X4_draw at h
  refine gStart (own := RX4) (by decide +kernel) rfl (Nat.le_of_ble_eq_true rfl) ?_
  intro p e s m below meth c C0 ls hl hP
  have hS : va_S (gA Γ) s.heap s.heap [] := va_S.rf
  have hl : lv_has ls 6 [(0, .ref (gB Γ + 173)), (1, .int a1)] := hl
  obtain ⟨hx, hb, hml, hr, hown, hts, hK, hlk, hX⟩ := id C0
  refine lv_aload_n hx hb dX4_draw_0 rfl (lv_at hl 0 rfl) ?_
  refine lv_aload_n hx hb dX4_draw_1 rfl (lv_at hl 0 rfl) ?_
  refine gf_4_1 hx hb hown hts hK hP wf_X4_15 dX4_draw_2 ?_
  refine lv_ldc2 (v := 6364136223846793005) hx hb hown (hts _ wkl_X4_53) dX4_draw_5 ?_
  refine lv_lmul hx hb dX4_draw_8 ?_
  refine lv_ldc2 (v := 1442695040888963407) hx hb hown (hts _ wkl_X4_55) dX4_draw_9 ?_
  refine lv_ladd hx hb dX4_draw_12 ?_
  refine gp_4_1 hx hb hown hts hK hP hS wf_X4_15 dX4_draw_13 h (fun H locs g1 h hP hS => ?_)
  refine lv_iload_n hx hb dX4_draw_16 rfl (lv_at hl 1 rfl) ?_
  refine gCSi (rest := []) C0 cal_J6_bitCount_0f7a4 wl_X4_57 wt_J6_bitCount_0f7a4 ⟨Nat.le_of_ble_eq_true rfl, Nat.le_of_ble_eq_true rfl⟩ ⟨Nat.le_of_ble_eq_true rfl, Nat.le_of_ble_eq_true rfl⟩ [.int a1] rfl (Nat.le_of_ble_eq_true rfl) hP hS hl.1 dX4_draw_17 h (fun u hu => m_J6_bitCount_0f7a4 l Γ a1 g1 u hu) (fun u2 H locs h hP hS => ?_) rfl
  refine lv_topi (fun x3 ex3 => ?_)
  replace h := gLetI ex3 h
  refine lv_istore_n (lv' := [(2, .int x3), (0, .ref (gB Γ + 173)), (1, .int a1)]) hx hb dX4_draw_20 rfl hl (by decide) rfl (fun ls hl => ?_)
  refine lv_iload_n hx hb dX4_draw_21 rfl (lv_at hl 0 rfl) ?_
  refine lv_if_ne (tgt := 29) hx hb dX4_draw_22 (by decide) (fun c4 => ?_) (fun c4 => ?_)
  · replace h := gneg c4 h
    refine lv_aload_n hx hb dX4_draw_29 rfl (lv_at hl 1 rfl) ?_
    refine gf_4_1 hx hb hown hts hK hP wf_X4_15 dX4_draw_30 ?_
    refine lv_bipush (v := 33) hx hb dX4_draw_33 (by decide) ?_
    refine lv_lushr hx hb dX4_draw_35 rfl ?_
    refine lv_l2i hx hb dX4_draw_36 rfl ?_
    refine lv_iload_n hx hb dX4_draw_37 rfl (lv_at hl 0 rfl) ?_
    obtain ⟨c5, h⟩ := gnz h
    refine lv_irem hx hb dX4_draw_38 c5 ?_
    exact bs_X4_draw_39 C0  h hP hS (lv_sub hl [2] rfl)
  · replace h := gpos c4 h
    refine lv_iconst (v := 0) hx hb dX4_draw_25 (by decide) ?_
    refine lv_goto (tgt := 39) hx hb dX4_draw_26 (by decide) ?_
    exact bs_X4_draw_39 C0  h hP hS (lv_sub hl [2] rfl)
set_option maxHeartbeats 2000000 in
set_option maxRecDepth 20000 in
theorem bs_X4_walk_76 {p : Program} {l : Launch} {e : Env} {s : State} {m : MethodId} {args : Array Value} {below : List Frame} {meth : Method} {c : Code} {Γ : gE} (C0 : gCx p s m args meth c Γ RX4 cX4_walk 8 (some .int)) {r1 : Nat} (hr1 : isSt r1) {z : Int32 × gG}  {l2 : Int32} {l4 : Int32} {g : gG} {H : Heap} {locs : List Loc} {ls : Array Slot}  (h : fs_X4_walk_76 r1 l2 l4 g = some z) (hP : va_P (gD Γ) gcls (lay Γ g) H) (hS : va_S (gA Γ) s.heap H locs) (hl : lv_has ls 8 [(0, .ref (gB Γ + 173)), (2, .int l2), (4, .int l4)]) : W p l e (gRm 3 67) s m args below meth c H locs 0 0 (MQ below (gQi Γ z) args s 0 0 (gA Γ)) (F0 m 76 ls []) := by
  unfold fs_X4_walk_76 at h
  obtain ⟨hx, hb, hml, hr, hown, hts, hK, hlk, hX⟩ := id C0
  refine lv_aload_n hx hb dX4_walk_76 rfl (lv_at hl 0 rfl) ?_
  refine gf_4_0 hx hb hown hts hK hP wf_X4_9 dX4_walk_77 ?_
  refine lv_iload_n hx hb dX4_walk_80 rfl (lv_at hl 1 rfl) ?_
  refine gCVi (rest := []) C0 cal_X0_hasChest wl_X4_49 wi_X0_hasChest ws_X0_hasChest ⟨Nat.le_of_ble_eq_true rfl, Nat.le_of_ble_eq_true rfl⟩ ⟨Nat.le_of_ble_eq_true rfl, Nat.le_of_ble_eq_true rfl⟩ grv_0 [.int l2] rfl (Nat.le_of_ble_eq_true rfl) hP hS hl.1 dX4_walk_81 h (fun u hu => m_X0_hasChest l Γ l2 g u hu) (fun u1 H locs h hP hS => ?_) rfl
  refine lv_if_eq (tgt := 92) hx hb dX4_walk_84 (by decide) (fun c2 => ?_) (fun c2 => ?_)
  · replace h := gpos c2 h
    refine lv_bipush (v := -9) hx hb dX4_walk_92 (by decide) ?_
    exact giret hx hb hr hlk hP hS dX4_walk_94 h
  · replace h := gneg c2 h
    refine lv_iload hx hb dX4_walk_87 (lv_at hl 2 rfl) ?_
    refine lv_goto (tgt := 94) hx hb dX4_walk_89 (by decide) ?_
    exact giret hx hb hr hlk hP hS dX4_walk_94 h
set_option maxHeartbeats 2000000 in
set_option maxRecDepth 20000 in
theorem bs_X4_walk_11 {p : Program} {l : Launch} {e : Env} {s : State} {m : MethodId} {args : Array Value} {below : List Frame} {meth : Method} {c : Code} {Γ : gE} (C0 : gCx p s m args meth c Γ RX4 cX4_walk 8 (some .int)) {r1 : Nat} (hr1 : isSt r1) {z : Int32 × gG} {F11 : Int32 → Int32 → Int32 → Int32 → gG → Option (Int32 × gG)} {l2 : Int32} {l3 : Int32} {l4 : Int32} {l5 : Int32} {g : gG} {H : Heap} {locs : List Loc} {ls : Array Slot} (hF11 : ∀ (l2 : Int32) (l3 : Int32) (l4 : Int32) (l5 : Int32) (g : gG) (H : Heap) (locs : List Loc) (ls : Array Slot), F11 l2 l3 l4 l5 g = some z → va_P (gD Γ) gcls (lay Γ g) H → va_S (gA Γ) s.heap H locs → lv_has ls 8 [(0, .ref (gB Γ + 173)), (1, .ref (gB Γ + r1)), (2, .int l2), (3, .int l3), (4, .int l4), (5, .int l5)] → W p l e (gRm 3 67) s m args below meth c H locs 0 0 (MQ below (gQi Γ z) args s 0 0 (gA Γ)) (F0 m 11 ls [])) (h : fs_X4_walk_11 r1 F11 l2 l3 l4 l5 g = some z) (hP : va_P (gD Γ) gcls (lay Γ g) H) (hS : va_S (gA Γ) s.heap H locs) (hl : lv_has ls 8 [(0, .ref (gB Γ + 173)), (1, .ref (gB Γ + r1)), (2, .int l2), (3, .int l3), (4, .int l4), (5, .int l5)]) : W p l e (gRm 3 67) s m args below meth c H locs 0 0 (MQ below (gQi Γ z) args s 0 0 (gA Γ)) (F0 m 11 ls []) := by
  unfold fs_X4_walk_11 at h
  obtain ⟨hx, hb, hml, hr, hown, hts, hK, hlk, hX⟩ := id C0
  refine lv_iload hx hb dX4_walk_11 (lv_at hl 5 rfl) ?_
  refine lv_bipush (v := 10) hx hb dX4_walk_13 (by decide) ?_
  refine lv_icmp_ge (tgt := 76) hx hb dX4_walk_15 (by decide) (fun c1 => ?_) (fun c1 => ?_)
  · replace h := gpos c1 h
    exact bs_X4_walk_76 C0 hr1 h hP hS (lv_sub hl [0, 2, 4] rfl)
  · replace h := gneg c1 h
    refine lv_aload_n hx hb dX4_walk_18 rfl (lv_at hl 0 rfl) ?_
    refine gf_4_0 hx hb hown hts hK hP wf_X4_9 dX4_walk_19 ?_
    refine lv_iload_n hx hb dX4_walk_22 rfl (lv_at hl 2 rfl) ?_
    refine lv_aload_n hx hb dX4_walk_23 rfl (lv_at hl 1 rfl) ?_
    refine gCVi (rest := [.int l2, .ref (gB Γ + 14)]) C0 cal_X5_easedPlaces wl_X4_31 wi_X5_easedPlaces ws_X5_easedPlaces ⟨Nat.le_of_ble_eq_true rfl, Nat.le_of_ble_eq_true rfl⟩ ⟨Nat.le_of_ble_eq_true rfl, Nat.le_of_ble_eq_true rfl⟩ (grv_5 hr1) [] rfl (Nat.le_of_ble_eq_true rfl) hP hS hl.1 dX4_walk_24 h (fun u hu => m_X5_easedPlaces l Γ hr1 g u hu) (fun u2 H locs h hP hS => ?_) rfl
    refine gCVi (rest := []) C0 cal_X0_openAfter wl_X4_37 wi_X0_openAfter ws_X0_openAfter ⟨Nat.le_of_ble_eq_true rfl, Nat.le_of_ble_eq_true rfl⟩ ⟨Nat.le_of_ble_eq_true rfl, Nat.le_of_ble_eq_true rfl⟩ grv_0 [.int l2, .int u2.1] rfl (Nat.le_of_ble_eq_true rfl) hP hS hl.1 dX4_walk_27 h (fun u hu => m_X0_openAfter l Γ l2 u2.1 u2.2 u hu) (fun u3 H locs h hP hS => ?_) rfl
    refine lv_topi (fun x4 ex4 => ?_)
    replace h := gLetI ex4 h
    refine lv_istore (lv' := [(6, .int x4), (0, .ref (gB Γ + 173)), (1, .ref (gB Γ + r1)), (2, .int l2), (3, .int l3), (4, .int l4), (5, .int l5)]) hx hb dX4_walk_30 hl (by decide) rfl (fun ls hl => ?_)
    refine lv_iload hx hb dX4_walk_32 (lv_at hl 0 rfl) ?_
    refine lv_if_ne (tgt := 40) hx hb dX4_walk_34 (by decide) (fun c5 => ?_) (fun c5 => ?_)
    · replace h := gneg c5 h
      refine lv_aload_n hx hb dX4_walk_40 rfl (lv_at hl 1 rfl) ?_
      refine lv_iload hx hb dX4_walk_41 (lv_at hl 0 rfl) ?_
      refine gCVi (rest := []) C0 cal_X4_draw wl_X4_42 wi_X4_draw ws_X4_draw ⟨Nat.le_of_ble_eq_true rfl, Nat.le_of_ble_eq_true rfl⟩ ⟨Nat.le_of_ble_eq_true rfl, Nat.le_of_ble_eq_true rfl⟩ grv_4 [.int x4] rfl (Nat.le_of_ble_eq_true rfl) hP hS hl.1 dX4_walk_43 h (fun u hu => m_X4_draw l Γ x4 u3.2 u hu) (fun u6 H locs h hP hS => ?_) rfl
      refine lv_topi (fun x7 ex7 => ?_)
      replace h := gLetI ex7 h
      refine lv_istore (lv' := [(7, .int x7), (6, .int x4), (0, .ref (gB Γ + 173)), (1, .ref (gB Γ + r1)), (2, .int l2), (3, .int l3), (4, .int l4), (5, .int l5)]) hx hb dX4_walk_46 hl (by decide) rfl (fun ls hl => ?_)
      refine lv_iload hx hb dX4_walk_48 (lv_at hl 6 rfl) ?_
      refine lv_aload_n hx hb dX4_walk_50 rfl (lv_at hl 3 rfl) ?_
      refine lv_iload_n hx hb dX4_walk_51 rfl (lv_at hl 5 rfl) ?_
      refine lv_iload hx hb dX4_walk_52 (lv_at hl 0 rfl) ?_
      refine gCVi (rest := [.int l4]) C0 cal_X5_minutesBetween wl_X4_46 wi_X5_minutesBetween ws_X5_minutesBetween ⟨Nat.le_of_ble_eq_true rfl, Nat.le_of_ble_eq_true rfl⟩ ⟨Nat.le_of_ble_eq_true rfl, Nat.le_of_ble_eq_true rfl⟩ (grv_5 hr1) [.int l3, .int x7] rfl (Nat.le_of_ble_eq_true rfl) hP hS hl.1 dX4_walk_54 h (fun u hu => m_X5_minutesBetween l Γ hr1 l3 x7 u6.2 u hu) (fun u8 H locs h hP hS => ?_) rfl
      refine lv_iadd hx hb dX4_walk_57 ?_
      refine lv_topi (fun x9 ex9 => ?_)
      replace h := gLetI ex9 h
      refine lv_istore (lv' := [(4, .int x9), (7, .int x7), (6, .int x4), (0, .ref (gB Γ + 173)), (1, .ref (gB Γ + r1)), (2, .int l2), (3, .int l3), (5, .int l5)]) hx hb dX4_walk_58 hl (by decide) rfl (fun ls hl => ?_)
      refine lv_iload_n hx hb dX4_walk_60 rfl (lv_at hl 5 rfl) ?_
      refine lv_iconst (v := 1) hx hb dX4_walk_61 (by decide) ?_
      refine lv_iload hx hb dX4_walk_62 (lv_at hl 1 rfl) ?_
      refine lv_ishl hx hb dX4_walk_64 ?_
      refine lv_ior hx hb dX4_walk_65 ?_
      refine lv_topi (fun x10 ex10 => ?_)
      replace h := gLetI ex10 h
      refine lv_istore_n (lv' := [(2, .int x10), (4, .int x9), (7, .int x7), (6, .int x4), (0, .ref (gB Γ + 173)), (1, .ref (gB Γ + r1)), (3, .int l3), (5, .int l5)]) hx hb dX4_walk_66 rfl hl (by decide) rfl (fun ls hl => ?_)
      refine lv_iload hx hb dX4_walk_67 (lv_at hl 2 rfl) ?_
      refine lv_istore_n (lv' := [(3, .int x7), (2, .int x10), (4, .int x9), (7, .int x7), (6, .int x4), (0, .ref (gB Γ + 173)), (1, .ref (gB Γ + r1)), (5, .int l5)]) hx hb dX4_walk_69 rfl hl (by decide) rfl (fun ls hl => ?_)
      obtain ⟨x11, ex11⟩ : ∃ y : Int32, y = l5 + (1 : Int32) := ⟨_, rfl⟩
      replace h := gLetI ex11 h
      refine lv_iinc (v := x11) (lv' := [(5, .int x11), (3, .int x7), (2, .int x10), (4, .int x9), (7, .int x7), (6, .int x4), (0, .ref (gB Γ + 173)), (1, .ref (gB Γ + r1))]) hx hb dX4_walk_70 hl (k := 7) rfl (by rw [ex11]; rfl) (by decide) rfl (fun ls hl => ?_)
      refine lv_goto (tgt := 11) hx hb dX4_walk_73 (by decide) ?_
      exact hF11 _ _ _ _ _ _ _ _ h hP hS (lv_sub hl [6, 7, 2, 1, 3, 0] rfl)
    · replace h := gpos c5 h
      refine lv_goto (tgt := 76) hx hb dX4_walk_37 (by decide) ?_
      exact bs_X4_walk_76 C0 hr1 h hP hS (lv_sub hl [1, 3, 5] rfl)
set_option maxHeartbeats 2000000 in
set_option maxRecDepth 20000 in
theorem bk_X4_walk_11 {p : Program} {l : Launch} {e : Env} {s : State} {m : MethodId} {args : Array Value} {below : List Frame} {meth : Method} {c : Code} {Γ : gE} (C0 : gCx p s m args meth c Γ RX4 cX4_walk 8 (some .int)) {r1 : Nat} (hr1 : isSt r1) {z : Int32 × gG}   : ∀ (n : Nat) (l2 : Int32) (l3 : Int32) (l4 : Int32) (l5 : Int32) (g : gG) (H : Heap) (locs : List Loc) (ls : Array Slot), fb_X4_walk_11 r1 n l2 l3 l4 l5 g = some z → va_P (gD Γ) gcls (lay Γ g) H → va_S (gA Γ) s.heap H locs → lv_has ls 8 [(0, .ref (gB Γ + 173)), (1, .ref (gB Γ + r1)), (2, .int l2), (3, .int l3), (4, .int l4), (5, .int l5)] → W p l e (gRm 3 67) s m args below meth c H locs 0 0 (MQ below (gQi Γ z) args s 0 0 (gA Γ)) (F0 m 11 ls []) := by
  intro n
  induction n with
  | zero => intro l2 l3 l4 l5 g H locs ls h hP hS hl; cases h
  | succ n ih => intro l2 l3 l4 l5 g H locs ls h hP hS hl; exact bs_X4_walk_11 C0 hr1 ih h hP hS hl
set_option maxHeartbeats 2000000 in
set_option maxRecDepth 20000 in
theorem m_X4_walk (l : Launch) (Γ : gE) {r1 : Nat} (hr1 : isSt r1)  (g : gG) (z : Int32 × gG) (h : f_X4_walk r1 g = some z) : gMi l yX4_walk cX4_walk 8 (some .int) 3 67 Γ [.ref (gB Γ + 173), .ref (gB Γ + r1)] g z := by
  unfold f_X4_walk at h
  refine gStart (own := RX4) (by decide +kernel) rfl (Nat.le_of_ble_eq_true rfl) ?_
  intro p e s m below meth c C0 ls hl hP
  have hS : va_S (gA Γ) s.heap s.heap [] := va_S.rf
  have hl : lv_has ls 8 [(0, .ref (gB Γ + 173)), (1, .ref (gB Γ + r1))] := hl
  obtain ⟨hx, hb, hml, hr, hown, hts, hK, hlk, hX⟩ := id C0
  refine lv_iconst (v := 0) hx hb dX4_walk_0 (by decide) ?_
  refine lv_istore_n (lv' := [(2, .int (0 : Int32)), (0, .ref (gB Γ + 173)), (1, .ref (gB Γ + r1))]) hx hb dX4_walk_1 rfl hl (by decide) rfl (fun ls hl => ?_)
  refine lv_bipush (v := -9) hx hb dX4_walk_2 (by decide) ?_
  refine lv_istore_n (lv' := [(3, .int (-9 : Int32)), (2, .int (0 : Int32)), (0, .ref (gB Γ + 173)), (1, .ref (gB Γ + r1))]) hx hb dX4_walk_4 rfl hl (by decide) rfl (fun ls hl => ?_)
  refine lv_iconst (v := 0) hx hb dX4_walk_5 (by decide) ?_
  refine lv_istore (lv' := [(4, .int (0 : Int32)), (3, .int (-9 : Int32)), (2, .int (0 : Int32)), (0, .ref (gB Γ + 173)), (1, .ref (gB Γ + r1))]) hx hb dX4_walk_6 hl (by decide) rfl (fun ls hl => ?_)
  refine lv_iconst (v := 0) hx hb dX4_walk_8 (by decide) ?_
  refine lv_istore (lv' := [(5, .int (0 : Int32)), (4, .int (0 : Int32)), (3, .int (-9 : Int32)), (2, .int (0 : Int32)), (0, .ref (gB Γ + 173)), (1, .ref (gB Γ + r1))]) hx hb dX4_walk_9 hl (by decide) rfl (fun ls hl => ?_)
  exact bk_X4_walk_11 C0 hr1 gFuel _ _ _ _ _ _ _ _ h hP hS (lv_sub hl [4, 5, 3, 2, 1, 0] rfl)
set_option maxHeartbeats 2000000 in
set_option maxRecDepth 20000 in
theorem bs_X4_run_14 {p : Program} {l : Launch} {e : Env} {s : State} {m : MethodId} {args : Array Value} {below : List Frame} {meth : Method} {c : Code} {Γ : gE} (C0 : gCx p s m args meth c Γ RX4 cX4_run 9 (some .int)) {r1 : Nat} (hr1 : isSt r1) {z : Int32 × gG} {F14 : Int32 → Int32 → Int32 → Int32 → gG → Option (Int32 × gG)} {l4 : Int32} {l5 : Int32} {l6 : Int32} {l7 : Int32} {g : gG} {H : Heap} {locs : List Loc} {ls : Array Slot} (hF14 : ∀ (l4 : Int32) (l5 : Int32) (l6 : Int32) (l7 : Int32) (g : gG) (H : Heap) (locs : List Loc) (ls : Array Slot), F14 l4 l5 l6 l7 g = some z → va_P (gD Γ) gcls (lay Γ g) H → va_S (gA Γ) s.heap H locs → lv_has ls 9 [(0, .ref (gB Γ + 173)), (1, .ref (gB Γ + r1)), (4, .int l4), (5, .int l5), (6, .int l6), (7, .int l7)] → W p l e (gRm 4 94) s m args below meth c H locs 0 0 (MQ below (gQi Γ z) args s 0 0 (gA Γ)) (F0 m 14 ls [])) (h : fs_X4_run_14 r1 F14 l4 l5 l6 l7 g = some z) (hP : va_P (gD Γ) gcls (lay Γ g) H) (hS : va_S (gA Γ) s.heap H locs) (hl : lv_has ls 9 [(0, .ref (gB Γ + 173)), (1, .ref (gB Γ + r1)), (4, .int l4), (5, .int l5), (6, .int l6), (7, .int l7)]) : W p l e (gRm 4 94) s m args below meth c H locs 0 0 (MQ below (gQi Γ z) args s 0 0 (gA Γ)) (F0 m 14 ls []) := by
  unfold fs_X4_run_14 at h
  obtain ⟨hx, hb, hml, hr, hown, hts, hK, hlk, hX⟩ := id C0
  refine lv_iload hx hb dX4_run_14 (lv_at hl 5 rfl) ?_
  refine lv_iload hx hb dX4_run_16 (lv_at hl 2 rfl) ?_
  refine lv_icmp_ge (tgt := 51) hx hb dX4_run_18 (by decide) (fun c1 => ?_) (fun c1 => ?_)
  · replace h := gpos c1 h
    refine lv_ldc (v := 100000) hx hb hown (hts _ wk_X4_23) dX4_run_51 ?_
    refine lv_iload hx hb dX4_run_53 (lv_at hl 3 rfl) ?_
    refine lv_imul hx hb dX4_run_55 ?_
    refine lv_iload hx hb dX4_run_56 (lv_at hl 4 rfl) ?_
    refine lv_ldc (v := 99999) hx hb hown (hts _ wk_X4_24) dX4_run_58 ?_
    refine va_mmin (rest := [.int ((100000 : Int32) * l5)]) hx hb (hml.trans hl.1.symm) hown (hts _ wl_X4_25) (hts _ wst_min) (hts _ wn_Math) (hts _ wc_min) (Nat.le_of_ble_eq_true rfl) (Nat.le_of_ble_eq_true rfl) (Nat.le_of_ble_eq_true rfl) (Nat.le_of_ble_eq_true rfl) dX4_run_60 ?_
    refine lv_iadd hx hb dX4_run_63 ?_
    exact giret hx hb hr hlk hP hS dX4_run_64 h
  · replace h := gneg c1 h
    refine lv_aload_n hx hb dX4_run_21 rfl (lv_at hl 0 rfl) ?_
    refine lv_aload_n hx hb dX4_run_22 rfl (lv_at hl 1 rfl) ?_
    refine gCVi (rest := []) C0 cal_X4_walk wl_X4_19 wi_X4_walk ws_X4_walk ⟨Nat.le_of_ble_eq_true rfl, Nat.le_of_ble_eq_true rfl⟩ ⟨Nat.le_of_ble_eq_true rfl, Nat.le_of_ble_eq_true rfl⟩ grv_4 [.ref (gB Γ + r1)] rfl (Nat.le_of_ble_eq_true rfl) hP hS hl.1 dX4_run_23 h (fun u hu => m_X4_walk l Γ hr1 g u hu) (fun u2 H locs h hP hS => ?_) rfl
    refine lv_topi (fun x3 ex3 => ?_)
    replace h := gLetI ex3 h
    refine lv_istore (lv' := [(8, .int x3), (0, .ref (gB Γ + 173)), (1, .ref (gB Γ + r1)), (4, .int l4), (5, .int l5), (6, .int l6), (7, .int l7)]) hx hb dX4_run_26 hl (by decide) rfl (fun ls hl => ?_)
    refine lv_iload hx hb dX4_run_28 (lv_at hl 0 rfl) ?_
    refine lv_bipush (v := -9) hx hb dX4_run_30 (by decide) ?_
    refine lv_icmp_eq (tgt := 45) hx hb dX4_run_32 (by decide) (fun c4 => ?_) (fun c4 => ?_)
    · replace h := gpos c4 h
      obtain ⟨x5, ex5⟩ : ∃ y : Int32, y = l7 + (1 : Int32) := ⟨_, rfl⟩
      replace h := gLetI ex5 h
      refine lv_iinc (v := x5) (lv' := [(7, .int x5), (8, .int x3), (0, .ref (gB Γ + 173)), (1, .ref (gB Γ + r1)), (4, .int l4), (5, .int l5), (6, .int l6)]) hx hb dX4_run_45 hl (k := 6) rfl (by rw [ex5]; rfl) (by decide) rfl (fun ls hl => ?_)
      refine lv_goto (tgt := 14) hx hb dX4_run_48 (by decide) ?_
      exact hF14 _ _ _ _ _ _ _ _ h hP hS (lv_sub hl [2, 3, 4, 5, 6, 0] rfl)
    · replace h := gneg c4 h
      obtain ⟨x6, ex6⟩ : ∃ y : Int32, y = l5 + (1 : Int32) := ⟨_, rfl⟩
      replace h := gLetI ex6 h
      refine lv_iinc (v := x6) (lv' := [(5, .int x6), (8, .int x3), (0, .ref (gB Γ + 173)), (1, .ref (gB Γ + r1)), (4, .int l4), (6, .int l6), (7, .int l7)]) hx hb dX4_run_35 hl (k := 4) rfl (by rw [ex6]; rfl) (by decide) rfl (fun ls hl => ?_)
      refine lv_iload hx hb dX4_run_38 (lv_at hl 5 rfl) ?_
      refine lv_iload hx hb dX4_run_40 (lv_at hl 1 rfl) ?_
      refine lv_iadd hx hb dX4_run_42 ?_
      refine lv_topi (fun x7 ex7 => ?_)
      replace h := gLetI ex7 h
      refine lv_istore (lv' := [(6, .int x7), (5, .int x6), (8, .int x3), (0, .ref (gB Γ + 173)), (1, .ref (gB Γ + r1)), (4, .int l4), (7, .int l7)]) hx hb dX4_run_43 hl (by decide) rfl (fun ls hl => ?_)
      obtain ⟨x8, ex8⟩ : ∃ y : Int32, y = l7 + (1 : Int32) := ⟨_, rfl⟩
      replace h := gLetI ex8 h
      refine lv_iinc (v := x8) (lv' := [(7, .int x8), (6, .int x7), (5, .int x6), (8, .int x3), (0, .ref (gB Γ + 173)), (1, .ref (gB Γ + r1)), (4, .int l4)]) hx hb dX4_run_45 hl (k := 6) rfl (by rw [ex8]; rfl) (by decide) rfl (fun ls hl => ?_)
      refine lv_goto (tgt := 14) hx hb dX4_run_48 (by decide) ?_
      exact hF14 _ _ _ _ _ _ _ _ h hP hS (lv_sub hl [4, 5, 6, 2, 1, 0] rfl)
set_option maxHeartbeats 2000000 in
set_option maxRecDepth 20000 in
theorem bk_X4_run_14 {p : Program} {l : Launch} {e : Env} {s : State} {m : MethodId} {args : Array Value} {below : List Frame} {meth : Method} {c : Code} {Γ : gE} (C0 : gCx p s m args meth c Γ RX4 cX4_run 9 (some .int)) {r1 : Nat} (hr1 : isSt r1) {z : Int32 × gG}   : ∀ (n : Nat) (l4 : Int32) (l5 : Int32) (l6 : Int32) (l7 : Int32) (g : gG) (H : Heap) (locs : List Loc) (ls : Array Slot), fb_X4_run_14 r1 n l4 l5 l6 l7 g = some z → va_P (gD Γ) gcls (lay Γ g) H → va_S (gA Γ) s.heap H locs → lv_has ls 9 [(0, .ref (gB Γ + 173)), (1, .ref (gB Γ + r1)), (4, .int l4), (5, .int l5), (6, .int l6), (7, .int l7)] → W p l e (gRm 4 94) s m args below meth c H locs 0 0 (MQ below (gQi Γ z) args s 0 0 (gA Γ)) (F0 m 14 ls []) := by
  intro n
  induction n with
  | zero => intro l4 l5 l6 l7 g H locs ls h hP hS hl; cases h
  | succ n ih => intro l4 l5 l6 l7 g H locs ls h hP hS hl; exact bs_X4_run_14 C0 hr1 ih h hP hS hl
set_option maxHeartbeats 2000000 in
set_option maxRecDepth 20000 in
theorem m_X4_run (l : Launch) (Γ : gE) {r1 : Nat} (hr1 : isSt r1) (a2 : Int64) (a4 : Int32) (g : gG) (z : Int32 × gG) (h : f_X4_run r1 a2 a4 g = some z) : gMi l yX4_run cX4_run 9 (some .int) 4 94 Γ [.ref (gB Γ + 173), .ref (gB Γ + r1), .long a2, .int a4] g z := by
  unfold f_X4_run at h
  refine gStart (own := RX4) (by decide +kernel) rfl (Nat.le_of_ble_eq_true rfl) ?_
  intro p e s m below meth c C0 ls hl hP
  have hS : va_S (gA Γ) s.heap s.heap [] := va_S.rf
  have hl : lv_has ls 9 [(0, .ref (gB Γ + 173)), (1, .ref (gB Γ + r1)), (2, .long a2), (4, .int a4)] := hl
  obtain ⟨hx, hb, hml, hr, hown, hts, hK, hlk, hX⟩ := id C0
  refine lv_aload_n hx hb dX4_run_0 rfl (lv_at hl 0 rfl) ?_
  refine lv_lload_n hx hb dX4_run_1 rfl (lv_at hl 2 rfl) ?_
  refine gp_4_1 hx hb hown hts hK hP hS wf_X4_15 dX4_run_2 h (fun H locs g1 h hP hS => ?_)
  refine lv_iconst (v := 0) hx hb dX4_run_5 (by decide) ?_
  refine lv_istore (lv' := [(5, .int (0 : Int32)), (0, .ref (gB Γ + 173)), (1, .ref (gB Γ + r1)), (2, .long a2), (4, .int a4)]) hx hb dX4_run_6 hl (by decide) rfl (fun ls hl => ?_)
  refine lv_iconst (v := 0) hx hb dX4_run_8 (by decide) ?_
  refine lv_istore (lv' := [(6, .int (0 : Int32)), (5, .int (0 : Int32)), (0, .ref (gB Γ + 173)), (1, .ref (gB Γ + r1)), (2, .long a2), (4, .int a4)]) hx hb dX4_run_9 hl (by decide) rfl (fun ls hl => ?_)
  refine lv_iconst (v := 0) hx hb dX4_run_11 (by decide) ?_
  refine lv_istore (lv' := [(7, .int (0 : Int32)), (6, .int (0 : Int32)), (5, .int (0 : Int32)), (0, .ref (gB Γ + 173)), (1, .ref (gB Γ + r1)), (2, .long a2), (4, .int a4)]) hx hb dX4_run_12 hl (by decide) rfl (fun ls hl => ?_)
  exact bk_X4_run_14 C0 hr1 gFuel _ _ _ _ _ _ _ _ h hP hS (lv_sub hl [3, 4, 6, 2, 1, 0] rfl)
