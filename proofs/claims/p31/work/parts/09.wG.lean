set_option maxHeartbeats 2000000 in
set_option maxRecDepth 20000 in
theorem m_L_in (l : Launch) (Γ : gE)   (a0 : Int64) (a2 : Int64) (a4 : Int64) (g : gG) (z : Int32 × gG) (h : f_L_in a0 a2 a4 g = some z) : gMi l yL_in cL_in 6 (some .boolean) 0 0 Γ [.long a0, .long a2, .long a4] g z := by
  unfold f_L_in at h
  refine gStart (own := RL) (by decide +kernel) rfl (Nat.le_of_ble_eq_true rfl) ?_
  intro p e s m below meth c C0 ls hl hP
  have hS : va_S (gA Γ) s.heap s.heap [] := va_S.rf
  have hl : lv_has ls 6 [(0, .long a0), (2, .long a2), (4, .long a4)] := hl
  obtain ⟨hx, hb, hml, hr, hown, hts, hK, hlk, hX⟩ := id C0
  refine lv_lload_n hx hb dL_in_0 rfl (lv_at hl 0 rfl) ?_
  refine lv_lload_n hx hb dL_in_1 rfl (lv_at hl 1 rfl) ?_
  refine W.lcmp hx hb dL_in_2 ?_
  refine lv_if_lt (tgt := 17) hx hb dL_in_3 (by decide) (fun c1 => ?_) (fun c1 => ?_)
  · replace h := gpos c1 h
    refine lv_iconst (v := 0) hx hb dL_in_17 (by decide) ?_
    exact gzret0 hx hb hr hlk hP hS rfl dL_in_18 h
  · replace h := gneg c1 h
    refine lv_lload_n hx hb dL_in_6 rfl (lv_at hl 0 rfl) ?_
    refine lv_lload hx hb dL_in_7 (lv_at hl 2 rfl) ?_
    refine W.lcmp hx hb dL_in_9 ?_
    refine lv_if_gt (tgt := 17) hx hb dL_in_10 (by decide) (fun c2 => ?_) (fun c2 => ?_)
    · replace h := gpos c2 h
      refine lv_iconst (v := 0) hx hb dL_in_17 (by decide) ?_
      exact gzret0 hx hb hr hlk hP hS rfl dL_in_18 h
    · replace h := gneg c2 h
      refine lv_iconst (v := 1) hx hb dL_in_13 (by decide) ?_
      refine lv_goto (tgt := 18) hx hb dL_in_14 (by decide) ?_
      exact gzret0 hx hb hr hlk hP hS rfl dL_in_18 h
set_option maxHeartbeats 2000000 in
set_option maxRecDepth 20000 in
theorem m_L_has (l : Launch) (Γ : gE)   (a0 : Int64) (a2 : Int32) (g : gG) (z : Int32 × gG) (h : f_L_has a0 a2 g = some z) : gMi l yL_has cL_has 3 (some .boolean) 0 0 Γ [.long a0, .int a2] g z := by
  unfold f_L_has at h
  refine gStart (own := RL) (by decide +kernel) rfl (Nat.le_of_ble_eq_true rfl) ?_
  intro p e s m below meth c C0 ls hl hP
  have hS : va_S (gA Γ) s.heap s.heap [] := va_S.rf
  have hl : lv_has ls 3 [(0, .long a0), (2, .int a2)] := hl
  obtain ⟨hx, hb, hml, hr, hown, hts, hK, hlk, hX⟩ := id C0
  refine lv_lload_n hx hb dL_has_0 rfl (lv_at hl 0 rfl) ?_
  refine lv_iload_n hx hb dL_has_1 rfl (lv_at hl 1 rfl) ?_
  refine lv_lshr hx hb dL_has_2 rfl ?_
  refine lv_lconst (v := 1) hx hb dL_has_3 (by decide) ?_
  refine lv_land hx hb dL_has_4 ?_
  refine lv_lconst (v := 1) hx hb dL_has_5 (by decide) ?_
  refine W.lcmp hx hb dL_has_6 ?_
  refine lv_if_ne (tgt := 14) hx hb dL_has_7 (by decide) (fun c1 => ?_) (fun c1 => ?_)
  · replace h := gneg c1 h
    refine lv_iconst (v := 0) hx hb dL_has_14 (by decide) ?_
    exact gzret0 hx hb hr hlk hP hS rfl dL_has_15 h
  · replace h := gpos c1 h
    refine lv_iconst (v := 1) hx hb dL_has_10 (by decide) ?_
    refine lv_goto (tgt := 15) hx hb dL_has_11 (by decide) ?_
    exact gzret0 hx hb hr hlk hP hS rfl dL_has_15 h
set_option maxHeartbeats 2000000 in
set_option maxRecDepth 20000 in
theorem bs_L_now_94 {p : Program} {l : Launch} {e : Env} {s : State} {m : MethodId} {args : Array Value} {below : List Frame} {meth : Method} {c : Code} {Γ : gE} (C0 : gCx p s m args meth c Γ RL cL_now 5 (some .long)) (hst : l.stackTraces = false)   {z : Int64 × gG} {F80 : Int64 → Int32 → gG → Option (Int64 × gG)} {F94 : Int64 → Int32 → Int32 → gG → Option (Int64 × gG)} {l1 : Int64} {l3 : Int32} {l4 : Int32} {g : gG} {H : Heap} {locs : List Loc} {ls : Array Slot} {N80 : Nat} (hF80 : ∀ (cells slots : Nat) (l1 : Int64) (l3 : Int32) (g : gG) (H : Heap) (locs : List Loc) (ls : Array Slot), F80 l1 l3 g = some z → va_P (gD Γ) gcls (lay Γ g) H → va_S (gA Γ) s.heap H locs → lv_has ls 5 [(0, .ref (gB Γ + 0)), (1, .long l1), (3, .int l3)] → cells + N80 ≤ 226 → slots + 6 * N80 ≤ 1356 → W p l e (gRx 9 148 226 1356) s m args below meth c H locs cells slots (MQ below (gQl Γ z) args s 226 1356 (gA Γ)) (F0 m 80 ls [])) {N94 : Nat} (hF94 : ∀ (cells slots : Nat) (l1 : Int64) (l3 : Int32) (l4 : Int32) (g : gG) (H : Heap) (locs : List Loc) (ls : Array Slot), F94 l1 l3 l4 g = some z → va_P (gD Γ) gcls (lay Γ g) H → va_S (gA Γ) s.heap H locs → lv_has ls 5 [(0, .ref (gB Γ + 0)), (1, .long l1), (3, .int l3), (4, .int l4)] → cells + N94 ≤ 226 → slots + 6 * N94 ≤ 1356 → W p l e (gRx 9 148 226 1356) s m args below meth c H locs cells slots (MQ below (gQl Γ z) args s 226 1356 (gA Γ)) (F0 m 94 ls [])) {cells slots N : Nat} (hr1 : cells + N ≤ 226) (hr2 : slots + 6 * N ≤ 1356) (hn_80 : 2 + N80 ≤ N) (hn_94 : 2 + N94 ≤ N) (h : fs_L_now_94 F80 F94 l1 l3 l4 g = some z) (hP : va_P (gD Γ) gcls (lay Γ g) H) (hS : va_S (gA Γ) s.heap H locs) (hl : lv_has ls 5 [(0, .ref (gB Γ + 0)), (1, .long l1), (3, .int l3), (4, .int l4)]) : W p l e (gRx 9 148 226 1356) s m args below meth c H locs cells slots (MQ below (gQl Γ z) args s 226 1356 (gA Γ)) (F0 m 94 ls []) := by
  unfold fs_L_now_94 at h
  obtain ⟨hx, hb, hml, hr, hown, hts, hK, hlk, hX⟩ := id C0
  refine lv_iload hx hb dL_now_94 (lv_at hl 3 rfl) ?_
  refine lv_bipush (v := 6) hx hb dL_now_96 (by decide) ?_
  refine lv_icmp_ge (tgt := 121) hx hb dL_now_98 (by decide) (fun c1 => ?_) (fun c1 => ?_)
  · replace h := gpos c1 h
    refine lv_ldc2 (v := 31) hx hb hown (hts _ wkl_L_104) dL_now_121 ?_
    refine lv_ldc2 (v := 31) hx hb hown (hts _ wkl_L_104) dL_now_124 ?_
    refine lv_lload_n hx hb dL_now_127 rfl (lv_at hl 1 rfl) ?_
    refine lv_lmul hx hb dL_now_128 ?_
    refine lv_aload_n hx hb dL_now_129 rfl (lv_at hl 0 rfl) ?_
    refine lv_iload_n hx hb dL_now_130 rfl (lv_at hl 2 rfl) ?_
    refine gCHl (n2 := 2) (rest := [.long ((31 : Int64) * l1), .long (31 : Int64)]) C0 wcw_L_open wn_L (by decide +kernel) wl_L_116 wt_L_open ⟨Nat.le_of_ble_eq_true rfl, Nat.le_of_ble_eq_true rfl⟩ ⟨gRcl (by omega), gRsl (by omega)⟩ [.ref (gB Γ + 0), .int l3] rfl (Nat.le_of_ble_eq_true rfl) hP hS hl.1 dL_now_131 h (fun u hu => m_L_open l hst Γ l3 g u hu) (fun u2 H locs h hP hS => ?_) rfl
    refine lv_ladd hx hb dL_now_134 ?_
    refine lv_lmul hx hb dL_now_135 ?_
    refine lv_aload_n hx hb dL_now_136 rfl (lv_at hl 0 rfl) ?_
    refine lv_iload_n hx hb dL_now_137 rfl (lv_at hl 2 rfl) ?_
    refine gCHl (n2 := 2) (rest := [.long ((31 : Int64) * (((31 : Int64) * l1) + u2.1))]) C0 wcw_L_orders wn_L (by decide +kernel) wl_L_118 wt_L_orders ⟨Nat.le_of_ble_eq_true rfl, Nat.le_of_ble_eq_true rfl⟩ ⟨gRcl (by omega), gRsl (by omega)⟩ [.ref (gB Γ + 0), .int l3] rfl (Nat.le_of_ble_eq_true rfl) hP hS hl.1 dL_now_138 h (fun u hu => m_L_orders l hst Γ l3 u2.2 u hu) (fun u3 H locs h hP hS => ?_) rfl
    refine lv_ladd hx hb dL_now_141 ?_
    refine lv_topl (fun x4 ex4 => ?_)
    replace h := gLetI ex4 h
    refine lv_lstore_n (lv' := [(1, .long x4), (0, .ref (gB Γ + 0)), (3, .int l3), (4, .int l4)]) hx hb dL_now_142 rfl hl (by decide) rfl (fun ls hl => ?_)
    obtain ⟨x5, ex5⟩ : ∃ y : Int32, y = l3 + (1 : Int32) := ⟨_, rfl⟩
    replace h := gLetI ex5 h
    refine lv_iinc (v := x5) (lv' := [(3, .int x5), (1, .long x4), (0, .ref (gB Γ + 0)), (4, .int l4)]) hx hb dL_now_143 hl (k := 2) rfl (by rw [ex5]; rfl) (by decide) rfl (fun ls hl => ?_)
    refine lv_goto (tgt := 80) hx hb dL_now_146 (by decide) ?_
    exact hF80 _ _ _ _ _ _ _ _ h hP hS (lv_sub hl [2, 1, 0] rfl) (by omega) (by omega)
  · replace h := gneg c1 h
    refine lv_ldc2 (v := 31) hx hb hown (hts _ wkl_L_104) dL_now_101 ?_
    refine lv_lload_n hx hb dL_now_104 rfl (lv_at hl 1 rfl) ?_
    refine lv_lmul hx hb dL_now_105 ?_
    refine lv_aload_n hx hb dL_now_106 rfl (lv_at hl 0 rfl) ?_
    refine lv_iload_n hx hb dL_now_107 rfl (lv_at hl 2 rfl) ?_
    refine lv_iload hx hb dL_now_108 (lv_at hl 3 rfl) ?_
    refine gCHl (n2 := 3) (rest := [.long ((31 : Int64) * l1)]) C0 wcw_L_team wn_L (by decide +kernel) wl_L_114 wt_L_team ⟨Nat.le_of_ble_eq_true rfl, Nat.le_of_ble_eq_true rfl⟩ ⟨gRcl (by omega), gRsl (by omega)⟩ [.ref (gB Γ + 0), .int l3, .int l4] rfl (Nat.le_of_ble_eq_true rfl) hP hS hl.1 dL_now_110 h (fun u hu => m_L_team l hst Γ l3 l4 g u hu) (fun u6 H locs h hP hS => ?_) rfl
    refine lv_ladd hx hb dL_now_113 ?_
    refine lv_topl (fun x7 ex7 => ?_)
    replace h := gLetI ex7 h
    refine lv_lstore_n (lv' := [(1, .long x7), (0, .ref (gB Γ + 0)), (3, .int l3), (4, .int l4)]) hx hb dL_now_114 rfl hl (by decide) rfl (fun ls hl => ?_)
    obtain ⟨x8, ex8⟩ : ∃ y : Int32, y = l4 + (1 : Int32) := ⟨_, rfl⟩
    replace h := gLetI ex8 h
    refine lv_iinc (v := x8) (lv' := [(4, .int x8), (1, .long x7), (0, .ref (gB Γ + 0)), (3, .int l3)]) hx hb dL_now_115 hl (k := 3) rfl (by rw [ex8]; rfl) (by decide) rfl (fun ls hl => ?_)
    refine lv_goto (tgt := 94) hx hb dL_now_118 (by decide) ?_
    exact hF94 _ _ _ _ _ _ _ _ _ h hP hS (lv_sub hl [2, 1, 3, 0] rfl) (by omega) (by omega)
set_option maxHeartbeats 2000000 in
set_option maxRecDepth 20000 in
theorem bk_L_now_94 {p : Program} {l : Launch} {e : Env} {s : State} {m : MethodId} {args : Array Value} {below : List Frame} {meth : Method} {c : Code} {Γ : gE} (C0 : gCx p s m args meth c Γ RL cL_now 5 (some .long)) (hst : l.stackTraces = false)   {z : Int64 × gG} {F80 : Int64 → Int32 → gG → Option (Int64 × gG)} {N80 : Nat} (hF80 : ∀ (cells slots : Nat) (l1 : Int64) (l3 : Int32) (g : gG) (H : Heap) (locs : List Loc) (ls : Array Slot), F80 l1 l3 g = some z → va_P (gD Γ) gcls (lay Γ g) H → va_S (gA Γ) s.heap H locs → lv_has ls 5 [(0, .ref (gB Γ + 0)), (1, .long l1), (3, .int l3)] → cells + N80 ≤ 226 → slots + 6 * N80 ≤ 1356 → W p l e (gRx 9 148 226 1356) s m args below meth c H locs cells slots (MQ below (gQl Γ z) args s 226 1356 (gA Γ)) (F0 m 80 ls [])) {T : Nat} (hT_80 : 2 + N80 ≤ T) : ∀ (n cells slots : Nat) (l1 : Int64) (l3 : Int32) (l4 : Int32) (g : gG) (H : Heap) (locs : List Loc) (ls : Array Slot), fb_L_now_94 F80 n l1 l3 l4 g = some z → va_P (gD Γ) gcls (lay Γ g) H → va_S (gA Γ) s.heap H locs → lv_has ls 5 [(0, .ref (gB Γ + 0)), (1, .long l1), (3, .int l3), (4, .int l4)] → cells + (n * 2 + T) ≤ 226 → slots + 6 * (n * 2 + T) ≤ 1356 → W p l e (gRx 9 148 226 1356) s m args below meth c H locs cells slots (MQ below (gQl Γ z) args s 226 1356 (gA Γ)) (F0 m 94 ls []) := by
  intro n
  induction n with
  | zero => intro cells slots l1 l3 l4 g H locs ls h hP hS hl hr1 hr2; cases h
  | succ n ih => intro cells slots l1 l3 l4 g H locs ls h hP hS hl hr1 hr2; exact bs_L_now_94 C0 hst hF80 (N := (n + 1) * 2 + T) ih hr1 hr2 (by omega) (by omega) h hP hS hl
set_option maxHeartbeats 2000000 in
set_option maxRecDepth 20000 in
theorem bs_L_now_80 {p : Program} {l : Launch} {e : Env} {s : State} {m : MethodId} {args : Array Value} {below : List Frame} {meth : Method} {c : Code} {Γ : gE} (C0 : gCx p s m args meth c Γ RL cL_now 5 (some .long)) (hst : l.stackTraces = false)   {z : Int64 × gG} {F80 : Int64 → Int32 → gG → Option (Int64 × gG)} {l1 : Int64} {l3 : Int32} {g : gG} {H : Heap} {locs : List Loc} {ls : Array Slot} {N80 : Nat} (hF80 : ∀ (cells slots : Nat) (l1 : Int64) (l3 : Int32) (g : gG) (H : Heap) (locs : List Loc) (ls : Array Slot), F80 l1 l3 g = some z → va_P (gD Γ) gcls (lay Γ g) H → va_S (gA Γ) s.heap H locs → lv_has ls 5 [(0, .ref (gB Γ + 0)), (1, .long l1), (3, .int l3)] → cells + N80 ≤ 226 → slots + 6 * N80 ≤ 1356 → W p l e (gRx 9 148 226 1356) s m args below meth c H locs cells slots (MQ below (gQl Γ z) args s 226 1356 (gA Γ)) (F0 m 80 ls [])) {cells slots N : Nat} (hr1 : cells + N ≤ 226) (hr2 : slots + 6 * N ≤ 1356) (hn_ret : 1 ≤ N) (hn_80 : 17 + N80 ≤ N) (h : fs_L_now_80 F80 l1 l3 g = some z) (hP : va_P (gD Γ) gcls (lay Γ g) H) (hS : va_S (gA Γ) s.heap H locs) (hl : lv_has ls 5 [(0, .ref (gB Γ + 0)), (1, .long l1), (3, .int l3)]) : W p l e (gRx 9 148 226 1356) s m args below meth c H locs cells slots (MQ below (gQl Γ z) args s 226 1356 (gA Γ)) (F0 m 80 ls []) := by
  unfold fs_L_now_80 at h
  obtain ⟨hx, hb, hml, hr, hown, hts, hK, hlk, hX⟩ := id C0
  refine lv_iload_n hx hb dL_now_80 rfl (lv_at hl 2 rfl) ?_
  refine lv_i2l hx hb dL_now_81 rfl ?_
  refine lv_aload_n hx hb dL_now_82 rfl (lv_at hl 0 rfl) ?_
  refine lv_iconst (v := 1) hx hb dL_now_83 (by decide) ?_
  refine gCHl (n2 := 2) (rest := [.long l3.toInt64]) C0 wcw_L_about wn_L (by decide +kernel) wl_L_106 wt_L_about ⟨Nat.le_of_ble_eq_true rfl, Nat.le_of_ble_eq_true rfl⟩ ⟨gRcl (by omega), gRsl (by omega)⟩ [.ref (gB Γ + 0), .int (1 : Int32)] rfl (Nat.le_of_ble_eq_true rfl) hP hS hl.1 dL_now_84 h (fun u hu => m_L_about l hst Γ (1 : Int32) g u hu) (fun u1 H locs h hP hS => ?_) rfl
  refine W.lcmp hx hb dL_now_87 ?_
  refine lv_if_ge (tgt := 149) hx hb dL_now_88 (by decide) (fun c2 => ?_) (fun c2 => ?_)
  · replace h := gpos c2 h
    refine lv_lload_n hx hb dL_now_149 rfl (lv_at hl 1 rfl) ?_
    refine W.widen (k := 226) (n := 1356) (by omega) (by omega) ?_
    exact glret hx hb hr hlk hP hS dL_now_150 h
  · replace h := gneg c2 h
    refine lv_iconst (v := 0) hx hb dL_now_91 (by decide) ?_
    refine lv_istore (lv' := [(4, .int (0 : Int32)), (0, .ref (gB Γ + 0)), (1, .long l1), (3, .int l3)]) hx hb dL_now_92 hl (by decide) rfl (fun ls hl => ?_)
    exact bk_L_now_94 C0 hst hF80 (T := (N - 1) - 14) (by omega) gFuel7 _ _ _ _ _ _ _ _ _ h hP hS (lv_sub hl [1, 2, 3, 0] rfl) (by unfold gFuel7; omega) (by unfold gFuel7; omega)
set_option maxHeartbeats 2000000 in
set_option maxRecDepth 20000 in
theorem bk_L_now_80 {p : Program} {l : Launch} {e : Env} {s : State} {m : MethodId} {args : Array Value} {below : List Frame} {meth : Method} {c : Code} {Γ : gE} (C0 : gCx p s m args meth c Γ RL cL_now 5 (some .long)) (hst : l.stackTraces = false)   {z : Int64 × gG}   {T : Nat} (hT_ret : 1 ≤ T) : ∀ (n cells slots : Nat) (l1 : Int64) (l3 : Int32) (g : gG) (H : Heap) (locs : List Loc) (ls : Array Slot), fb_L_now_80 n l1 l3 g = some z → va_P (gD Γ) gcls (lay Γ g) H → va_S (gA Γ) s.heap H locs → lv_has ls 5 [(0, .ref (gB Γ + 0)), (1, .long l1), (3, .int l3)] → cells + (n * 17 + T) ≤ 226 → slots + 6 * (n * 17 + T) ≤ 1356 → W p l e (gRx 9 148 226 1356) s m args below meth c H locs cells slots (MQ below (gQl Γ z) args s 226 1356 (gA Γ)) (F0 m 80 ls []) := by
  intro n
  induction n with
  | zero => intro cells slots l1 l3 g H locs ls h hP hS hl hr1 hr2; cases h
  | succ n ih => intro cells slots l1 l3 g H locs ls h hP hS hl hr1 hr2; exact bs_L_now_80 C0 hst  (N := (n + 1) * 17 + T) ih hr1 hr2 (by omega) (by omega) h hP hS hl
set_option maxHeartbeats 2000000 in
set_option maxRecDepth 20000 in
theorem bs_L_now_46 {p : Program} {l : Launch} {e : Env} {s : State} {m : MethodId} {args : Array Value} {below : List Frame} {meth : Method} {c : Code} {Γ : gE} (C0 : gCx p s m args meth c Γ RL cL_now 5 (some .long)) (hst : l.stackTraces = false)   {z : Int64 × gG} {F32 : Int64 → Int32 → gG → Option (Int64 × gG)} {F46 : Int64 → Int32 → Int32 → gG → Option (Int64 × gG)} {l1 : Int64} {l3 : Int32} {l4 : Int32} {g : gG} {H : Heap} {locs : List Loc} {ls : Array Slot} {N32 : Nat} (hF32 : ∀ (cells slots : Nat) (l1 : Int64) (l3 : Int32) (g : gG) (H : Heap) (locs : List Loc) (ls : Array Slot), F32 l1 l3 g = some z → va_P (gD Γ) gcls (lay Γ g) H → va_S (gA Γ) s.heap H locs → lv_has ls 5 [(0, .ref (gB Γ + 0)), (1, .long l1), (3, .int l3)] → cells + N32 ≤ 226 → slots + 6 * N32 ≤ 1356 → W p l e (gRx 9 148 226 1356) s m args below meth c H locs cells slots (MQ below (gQl Γ z) args s 226 1356 (gA Γ)) (F0 m 32 ls [])) {N46 : Nat} (hF46 : ∀ (cells slots : Nat) (l1 : Int64) (l3 : Int32) (l4 : Int32) (g : gG) (H : Heap) (locs : List Loc) (ls : Array Slot), F46 l1 l3 l4 g = some z → va_P (gD Γ) gcls (lay Γ g) H → va_S (gA Γ) s.heap H locs → lv_has ls 5 [(0, .ref (gB Γ + 0)), (1, .long l1), (3, .int l3), (4, .int l4)] → cells + N46 ≤ 226 → slots + 6 * N46 ≤ 1356 → W p l e (gRx 9 148 226 1356) s m args below meth c H locs cells slots (MQ below (gQl Γ z) args s 226 1356 (gA Γ)) (F0 m 46 ls [])) {cells slots N : Nat} (hr1 : cells + N ≤ 226) (hr2 : slots + 6 * N ≤ 1356) (hn_32 : 0 + N32 ≤ N) (hn_46 : 2 + N46 ≤ N) (h : fs_L_now_46 F32 F46 l1 l3 l4 g = some z) (hP : va_P (gD Γ) gcls (lay Γ g) H) (hS : va_S (gA Γ) s.heap H locs) (hl : lv_has ls 5 [(0, .ref (gB Γ + 0)), (1, .long l1), (3, .int l3), (4, .int l4)]) : W p l e (gRx 9 148 226 1356) s m args below meth c H locs cells slots (MQ below (gQl Γ z) args s 226 1356 (gA Γ)) (F0 m 46 ls []) := by
  unfold fs_L_now_46 at h
  obtain ⟨hx, hb, hml, hr, hown, hts, hK, hlk, hX⟩ := id C0
  refine lv_iload hx hb dL_now_46 (lv_at hl 3 rfl) ?_
  refine lv_iconst (v := 4) hx hb dL_now_48 (by decide) ?_
  refine lv_icmp_ge (tgt := 72) hx hb dL_now_49 (by decide) (fun c1 => ?_) (fun c1 => ?_)
  · replace h := gpos c1 h
    obtain ⟨x2, ex2⟩ : ∃ y : Int32, y = l3 + (1 : Int32) := ⟨_, rfl⟩
    replace h := gLetI ex2 h
    refine lv_iinc (v := x2) (lv' := [(3, .int x2), (0, .ref (gB Γ + 0)), (1, .long l1), (4, .int l4)]) hx hb dL_now_72 hl (k := 2) rfl (by rw [ex2]; rfl) (by decide) rfl (fun ls hl => ?_)
    refine lv_goto (tgt := 32) hx hb dL_now_75 (by decide) ?_
    exact hF32 _ _ _ _ _ _ _ _ h hP hS (lv_sub hl [1, 2, 0] rfl) (by omega) (by omega)
  · replace h := gneg c1 h
    refine lv_ldc2 (v := 31) hx hb hown (hts _ wkl_L_104) dL_now_52 ?_
    refine lv_lload_n hx hb dL_now_55 rfl (lv_at hl 1 rfl) ?_
    refine lv_lmul hx hb dL_now_56 ?_
    refine lv_aload_n hx hb dL_now_57 rfl (lv_at hl 0 rfl) ?_
    refine lv_iload_n hx hb dL_now_58 rfl (lv_at hl 2 rfl) ?_
    refine lv_iload hx hb dL_now_59 (lv_at hl 3 rfl) ?_
    refine gCHl (n2 := 3) (rest := [.long ((31 : Int64) * l1)]) C0 wcw_L_place wn_L (by decide +kernel) wl_L_111 wt_L_place ⟨Nat.le_of_ble_eq_true rfl, Nat.le_of_ble_eq_true rfl⟩ ⟨gRcl (by omega), gRsl (by omega)⟩ [.ref (gB Γ + 0), .int l3, .int l4] rfl (Nat.le_of_ble_eq_true rfl) hP hS hl.1 dL_now_61 h (fun u hu => m_L_place l hst Γ l3 l4 g u hu) (fun u3 H locs h hP hS => ?_) rfl
    refine lv_ladd hx hb dL_now_64 ?_
    refine lv_topl (fun x4 ex4 => ?_)
    replace h := gLetI ex4 h
    refine lv_lstore_n (lv' := [(1, .long x4), (0, .ref (gB Γ + 0)), (3, .int l3), (4, .int l4)]) hx hb dL_now_65 rfl hl (by decide) rfl (fun ls hl => ?_)
    obtain ⟨x5, ex5⟩ : ∃ y : Int32, y = l4 + (1 : Int32) := ⟨_, rfl⟩
    replace h := gLetI ex5 h
    refine lv_iinc (v := x5) (lv' := [(4, .int x5), (1, .long x4), (0, .ref (gB Γ + 0)), (3, .int l3)]) hx hb dL_now_66 hl (k := 3) rfl (by rw [ex5]; rfl) (by decide) rfl (fun ls hl => ?_)
    refine lv_goto (tgt := 46) hx hb dL_now_69 (by decide) ?_
    exact hF46 _ _ _ _ _ _ _ _ _ h hP hS (lv_sub hl [2, 1, 3, 0] rfl) (by omega) (by omega)
set_option maxHeartbeats 2000000 in
set_option maxRecDepth 20000 in
theorem bk_L_now_46 {p : Program} {l : Launch} {e : Env} {s : State} {m : MethodId} {args : Array Value} {below : List Frame} {meth : Method} {c : Code} {Γ : gE} (C0 : gCx p s m args meth c Γ RL cL_now 5 (some .long)) (hst : l.stackTraces = false)   {z : Int64 × gG} {F32 : Int64 → Int32 → gG → Option (Int64 × gG)} {N32 : Nat} (hF32 : ∀ (cells slots : Nat) (l1 : Int64) (l3 : Int32) (g : gG) (H : Heap) (locs : List Loc) (ls : Array Slot), F32 l1 l3 g = some z → va_P (gD Γ) gcls (lay Γ g) H → va_S (gA Γ) s.heap H locs → lv_has ls 5 [(0, .ref (gB Γ + 0)), (1, .long l1), (3, .int l3)] → cells + N32 ≤ 226 → slots + 6 * N32 ≤ 1356 → W p l e (gRx 9 148 226 1356) s m args below meth c H locs cells slots (MQ below (gQl Γ z) args s 226 1356 (gA Γ)) (F0 m 32 ls [])) {T : Nat} (hT_32 : 0 + N32 ≤ T) : ∀ (n cells slots : Nat) (l1 : Int64) (l3 : Int32) (l4 : Int32) (g : gG) (H : Heap) (locs : List Loc) (ls : Array Slot), fb_L_now_46 F32 n l1 l3 l4 g = some z → va_P (gD Γ) gcls (lay Γ g) H → va_S (gA Γ) s.heap H locs → lv_has ls 5 [(0, .ref (gB Γ + 0)), (1, .long l1), (3, .int l3), (4, .int l4)] → cells + (n * 2 + T) ≤ 226 → slots + 6 * (n * 2 + T) ≤ 1356 → W p l e (gRx 9 148 226 1356) s m args below meth c H locs cells slots (MQ below (gQl Γ z) args s 226 1356 (gA Γ)) (F0 m 46 ls []) := by
  intro n
  induction n with
  | zero => intro cells slots l1 l3 l4 g H locs ls h hP hS hl hr1 hr2; cases h
  | succ n ih => intro cells slots l1 l3 l4 g H locs ls h hP hS hl hr1 hr2; exact bs_L_now_46 C0 hst hF32 (N := (n + 1) * 2 + T) ih hr1 hr2 (by omega) (by omega) h hP hS hl
set_option maxHeartbeats 2000000 in
set_option maxRecDepth 20000 in
theorem bs_L_now_32 {p : Program} {l : Launch} {e : Env} {s : State} {m : MethodId} {args : Array Value} {below : List Frame} {meth : Method} {c : Code} {Γ : gE} (C0 : gCx p s m args meth c Γ RL cL_now 5 (some .long)) (hst : l.stackTraces = false)   {z : Int64 × gG} {F32 : Int64 → Int32 → gG → Option (Int64 × gG)} {l1 : Int64} {l3 : Int32} {g : gG} {H : Heap} {locs : List Loc} {ls : Array Slot} {N32 : Nat} (hF32 : ∀ (cells slots : Nat) (l1 : Int64) (l3 : Int32) (g : gG) (H : Heap) (locs : List Loc) (ls : Array Slot), F32 l1 l3 g = some z → va_P (gD Γ) gcls (lay Γ g) H → va_S (gA Γ) s.heap H locs → lv_has ls 5 [(0, .ref (gB Γ + 0)), (1, .long l1), (3, .int l3)] → cells + N32 ≤ 226 → slots + 6 * N32 ≤ 1356 → W p l e (gRx 9 148 226 1356) s m args below meth c H locs cells slots (MQ below (gQl Γ z) args s 226 1356 (gA Γ)) (F0 m 32 ls [])) {cells slots N : Nat} (hr1 : cells + N ≤ 226) (hr2 : slots + 6 * N ≤ 1356) (hn_ret : 87 ≤ N) (hn_32 : 11 + N32 ≤ N) (h : fs_L_now_32 F32 l1 l3 g = some z) (hP : va_P (gD Γ) gcls (lay Γ g) H) (hS : va_S (gA Γ) s.heap H locs) (hl : lv_has ls 5 [(0, .ref (gB Γ + 0)), (1, .long l1), (3, .int l3)]) : W p l e (gRx 9 148 226 1356) s m args below meth c H locs cells slots (MQ below (gQl Γ z) args s 226 1356 (gA Γ)) (F0 m 32 ls []) := by
  unfold fs_L_now_32 at h
  obtain ⟨hx, hb, hml, hr, hown, hts, hK, hlk, hX⟩ := id C0
  refine lv_iload_n hx hb dL_now_32 rfl (lv_at hl 2 rfl) ?_
  refine lv_i2l hx hb dL_now_33 rfl ?_
  refine lv_aload_n hx hb dL_now_34 rfl (lv_at hl 0 rfl) ?_
  refine lv_iconst (v := 0) hx hb dL_now_35 (by decide) ?_
  refine gCHl (n2 := 2) (rest := [.long l3.toInt64]) C0 wcw_L_about wn_L (by decide +kernel) wl_L_106 wt_L_about ⟨Nat.le_of_ble_eq_true rfl, Nat.le_of_ble_eq_true rfl⟩ ⟨gRcl (by omega), gRsl (by omega)⟩ [.ref (gB Γ + 0), .int (0 : Int32)] rfl (Nat.le_of_ble_eq_true rfl) hP hS hl.1 dL_now_36 h (fun u hu => m_L_about l hst Γ (0 : Int32) g u hu) (fun u1 H locs h hP hS => ?_) rfl
  refine W.lcmp hx hb dL_now_39 ?_
  refine lv_if_ge (tgt := 78) hx hb dL_now_40 (by decide) (fun c2 => ?_) (fun c2 => ?_)
  · replace h := gpos c2 h
    refine lv_iconst (v := 0) hx hb dL_now_78 (by decide) ?_
    refine lv_istore_n (lv' := [(3, .int (0 : Int32)), (0, .ref (gB Γ + 0)), (1, .long l1)]) hx hb dL_now_79 rfl hl (by decide) rfl (fun ls hl => ?_)
    exact bk_L_now_80 C0 hst  (T := (N - 1) - 85) (by omega) gFuel5 _ _ _ _ _ _ _ _ h hP hS (lv_sub hl [1, 2, 0] rfl) (by unfold gFuel5; omega) (by unfold gFuel5; omega)
  · replace h := gneg c2 h
    refine lv_iconst (v := 0) hx hb dL_now_43 (by decide) ?_
    refine lv_istore (lv' := [(4, .int (0 : Int32)), (0, .ref (gB Γ + 0)), (1, .long l1), (3, .int l3)]) hx hb dL_now_44 hl (by decide) rfl (fun ls hl => ?_)
    exact bk_L_now_46 C0 hst hF32 (T := (N - 1) - 10) (by omega) gFuel5 _ _ _ _ _ _ _ _ _ h hP hS (lv_sub hl [1, 2, 3, 0] rfl) (by unfold gFuel5; omega) (by unfold gFuel5; omega)
set_option maxHeartbeats 2000000 in
set_option maxRecDepth 20000 in
theorem bk_L_now_32 {p : Program} {l : Launch} {e : Env} {s : State} {m : MethodId} {args : Array Value} {below : List Frame} {meth : Method} {c : Code} {Γ : gE} (C0 : gCx p s m args meth c Γ RL cL_now 5 (some .long)) (hst : l.stackTraces = false)   {z : Int64 × gG}   {T : Nat} (hT_ret : 87 ≤ T) : ∀ (n cells slots : Nat) (l1 : Int64) (l3 : Int32) (g : gG) (H : Heap) (locs : List Loc) (ls : Array Slot), fb_L_now_32 n l1 l3 g = some z → va_P (gD Γ) gcls (lay Γ g) H → va_S (gA Γ) s.heap H locs → lv_has ls 5 [(0, .ref (gB Γ + 0)), (1, .long l1), (3, .int l3)] → cells + (n * 11 + T) ≤ 226 → slots + 6 * (n * 11 + T) ≤ 1356 → W p l e (gRx 9 148 226 1356) s m args below meth c H locs cells slots (MQ below (gQl Γ z) args s 226 1356 (gA Γ)) (F0 m 32 ls []) := by
  intro n
  induction n with
  | zero => intro cells slots l1 l3 g H locs ls h hP hS hl hr1 hr2; cases h
  | succ n ih => intro cells slots l1 l3 g H locs ls h hP hS hl hr1 hr2; exact bs_L_now_32 C0 hst  (N := (n + 1) * 11 + T) ih hr1 hr2 (by omega) (by omega) h hP hS hl
set_option maxHeartbeats 2000000 in
set_option maxRecDepth 20000 in
theorem bs_L_now_6 {p : Program} {l : Launch} {e : Env} {s : State} {m : MethodId} {args : Array Value} {below : List Frame} {meth : Method} {c : Code} {Γ : gE} (C0 : gCx p s m args meth c Γ RL cL_now 5 (some .long)) (hst : l.stackTraces = false)   {z : Int64 × gG} {F6 : Int64 → Int32 → gG → Option (Int64 × gG)} {l1 : Int64} {l3 : Int32} {g : gG} {H : Heap} {locs : List Loc} {ls : Array Slot} {N6 : Nat} (hF6 : ∀ (cells slots : Nat) (l1 : Int64) (l3 : Int32) (g : gG) (H : Heap) (locs : List Loc) (ls : Array Slot), F6 l1 l3 g = some z → va_P (gD Γ) gcls (lay Γ g) H → va_S (gA Γ) s.heap H locs → lv_has ls 5 [(0, .ref (gB Γ + 0)), (1, .long l1), (3, .int l3)] → cells + N6 ≤ 226 → slots + 6 * N6 ≤ 1356 → W p l e (gRx 9 148 226 1356) s m args below meth c H locs cells slots (MQ below (gQl Γ z) args s 226 1356 (gA Γ)) (F0 m 6 ls [])) {cells slots N : Nat} (hr1 : cells + N ≤ 226) (hr2 : slots + 6 * N ≤ 1356) (hn_ret : 219 ≤ N) (hn_6 : 1 + N6 ≤ N) (h : fs_L_now_6 F6 l1 l3 g = some z) (hP : va_P (gD Γ) gcls (lay Γ g) H) (hS : va_S (gA Γ) s.heap H locs) (hl : lv_has ls 5 [(0, .ref (gB Γ + 0)), (1, .long l1), (3, .int l3)]) : W p l e (gRx 9 148 226 1356) s m args below meth c H locs cells slots (MQ below (gQl Γ z) args s 226 1356 (gA Γ)) (F0 m 6 ls []) := by
  unfold fs_L_now_6 at h
  obtain ⟨hx, hb, hml, hr, hown, hts, hK, hlk, hX⟩ := id C0
  refine lv_iload_n hx hb dL_now_6 rfl (lv_at hl 2 rfl) ?_
  refine lv_bipush (v := 6) hx hb dL_now_7 (by decide) ?_
  refine lv_icmp_ge (tgt := 30) hx hb dL_now_9 (by decide) (fun c1 => ?_) (fun c1 => ?_)
  · replace h := gpos c1 h
    refine lv_iconst (v := 0) hx hb dL_now_30 (by decide) ?_
    refine lv_istore_n (lv' := [(3, .int (0 : Int32)), (0, .ref (gB Γ + 0)), (1, .long l1)]) hx hb dL_now_31 rfl hl (by decide) rfl (fun ls hl => ?_)
    exact bk_L_now_32 C0 hst  (T := (N - 0) - 132) (by omega) gFuelL _ _ _ _ _ _ _ _ h hP hS (lv_sub hl [1, 2, 0] rfl) (by unfold gFuelL; omega) (by unfold gFuelL; omega)
  · replace h := gneg c1 h
    refine lv_ldc2 (v := 31) hx hb hown (hts _ wkl_L_104) dL_now_12 ?_
    refine lv_lload_n hx hb dL_now_15 rfl (lv_at hl 1 rfl) ?_
    refine lv_lmul hx hb dL_now_16 ?_
    refine lv_aload_n hx hb dL_now_17 rfl (lv_at hl 0 rfl) ?_
    refine lv_iload_n hx hb dL_now_18 rfl (lv_at hl 2 rfl) ?_
    refine gCHl (n2 := 2) (rest := [.long ((31 : Int64) * l1)]) C0 wcw_L_about wn_L (by decide +kernel) wl_L_106 wt_L_about ⟨Nat.le_of_ble_eq_true rfl, Nat.le_of_ble_eq_true rfl⟩ ⟨gRcl (by omega), gRsl (by omega)⟩ [.ref (gB Γ + 0), .int l3] rfl (Nat.le_of_ble_eq_true rfl) hP hS hl.1 dL_now_19 h (fun u hu => m_L_about l hst Γ l3 g u hu) (fun u2 H locs h hP hS => ?_) rfl
    refine lv_ladd hx hb dL_now_22 ?_
    refine lv_topl (fun x3 ex3 => ?_)
    replace h := gLetI ex3 h
    refine lv_lstore_n (lv' := [(1, .long x3), (0, .ref (gB Γ + 0)), (3, .int l3)]) hx hb dL_now_23 rfl hl (by decide) rfl (fun ls hl => ?_)
    obtain ⟨x4, ex4⟩ : ∃ y : Int32, y = l3 + (1 : Int32) := ⟨_, rfl⟩
    replace h := gLetI ex4 h
    refine lv_iinc (v := x4) (lv' := [(3, .int x4), (1, .long x3), (0, .ref (gB Γ + 0))]) hx hb dL_now_24 hl (k := 2) rfl (by rw [ex4]; rfl) (by decide) rfl (fun ls hl => ?_)
    refine lv_goto (tgt := 6) hx hb dL_now_27 (by decide) ?_
    exact hF6 _ _ _ _ _ _ _ _ h hP hS (lv_sub hl [2, 1, 0] rfl) (by omega) (by omega)
set_option maxHeartbeats 2000000 in
set_option maxRecDepth 20000 in
theorem bk_L_now_6 {p : Program} {l : Launch} {e : Env} {s : State} {m : MethodId} {args : Array Value} {below : List Frame} {meth : Method} {c : Code} {Γ : gE} (C0 : gCx p s m args meth c Γ RL cL_now 5 (some .long)) (hst : l.stackTraces = false)   {z : Int64 × gG}   {T : Nat} (hT_ret : 219 ≤ T) : ∀ (n cells slots : Nat) (l1 : Int64) (l3 : Int32) (g : gG) (H : Heap) (locs : List Loc) (ls : Array Slot), fb_L_now_6 n l1 l3 g = some z → va_P (gD Γ) gcls (lay Γ g) H → va_S (gA Γ) s.heap H locs → lv_has ls 5 [(0, .ref (gB Γ + 0)), (1, .long l1), (3, .int l3)] → cells + (n * 1 + T) ≤ 226 → slots + 6 * (n * 1 + T) ≤ 1356 → W p l e (gRx 9 148 226 1356) s m args below meth c H locs cells slots (MQ below (gQl Γ z) args s 226 1356 (gA Γ)) (F0 m 6 ls []) := by
  intro n
  induction n with
  | zero => intro cells slots l1 l3 g H locs ls h hP hS hl hr1 hr2; cases h
  | succ n ih => intro cells slots l1 l3 g H locs ls h hP hS hl hr1 hr2; exact bs_L_now_6 C0 hst  (N := (n + 1) * 1 + T) ih hr1 hr2 (by omega) (by omega) h hP hS hl
set_option maxHeartbeats 2000000 in
set_option maxRecDepth 20000 in
theorem m_L_now (l : Launch) (hst : l.stackTraces = false) (Γ : gE)    (g : gG) (z : Int64 × gG) (h : f_L_now g = some z) : gCl l yL_now cL_now 5 (some .long) 9 148 226 1356 Γ [.ref (gB Γ + 0)] g z := by
  unfold f_L_now at h
  refine gStartC (own := RL) (by decide +kernel) rfl (Nat.le_of_ble_eq_true rfl) ?_
  intro p e s m below meth c C0 ls hl hP
  have hS : va_S (gA Γ) s.heap s.heap [] := va_S.rf
  have hl : lv_has ls 5 [(0, .ref (gB Γ + 0))] := hl
  obtain ⟨hx, hb, hml, hr, hown, hts, hK, hlk, hX⟩ := id C0
  refine lv_ldc2 (v := 41) hx hb hown (hts _ wkl_L_102) dL_now_0 ?_
  refine lv_lstore_n (lv' := [(1, .long (41 : Int64)), (0, .ref (gB Γ + 0))]) hx hb dL_now_3 rfl hl (by decide) rfl (fun ls hl => ?_)
  refine lv_iconst (v := 0) hx hb dL_now_4 (by decide) ?_
  refine lv_istore_n (lv' := [(3, .int (0 : Int32)), (1, .long (41 : Int64)), (0, .ref (gB Γ + 0))]) hx hb dL_now_5 rfl hl (by decide) rfl (fun ls hl => ?_)
  exact bk_L_now_6 C0 hst  (T := (226 - 0) - 7) (by omega) gFuel7 _ _ _ _ _ _ _ _ h hP hS (lv_sub hl [2, 1, 0] rfl) (by unfold gFuel7; omega) (by unfold gFuel7; omega)
set_option maxHeartbeats 2000000 in
set_option maxRecDepth 20000 in
theorem bs_L_many_24 {p : Program} {l : Launch} {e : Env} {s : State} {m : MethodId} {args : Array Value} {below : List Frame} {meth : Method} {c : Code} {Γ : gE} (C0 : gCx p s m args meth c Γ RL cL_many 4 (some .int))   {z : Int32 × gG} {F4 : Int64 → Int32 → Int32 → gG → Option (Int32 × gG)} {l0 : Int64} {l3 : Int32} {s0 : Int32} {s1 : Int32} {g : gG} {H : Heap} {locs : List Loc} {ls : Array Slot} (hF4 : ∀ (l0 : Int64) (l2 : Int32) (l3 : Int32) (g : gG) (H : Heap) (locs : List Loc) (ls : Array Slot), F4 l0 l2 l3 g = some z → va_P (gD Γ) gcls (lay Γ g) H → va_S (gA Γ) s.heap H locs → lv_has ls 4 [(0, .long l0), (2, .int l2), (3, .int l3)] → W p l e (gRm 1 22) s m args below meth c H locs 0 0 (MQ below (gQi Γ z) args s 0 0 (gA Γ)) (F0 m 4 ls [])) (h : fs_L_many_24 F4 l0 l3 s0 s1 g = some z) (hP : va_P (gD Γ) gcls (lay Γ g) H) (hS : va_S (gA Γ) s.heap H locs) (hl : lv_has ls 4 [(0, .long l0), (3, .int l3)]) : W p l e (gRm 1 22) s m args below meth c H locs 0 0 (MQ below (gQi Γ z) args s 0 0 (gA Γ)) (F0 m 24 ls [.int s1, .int s0]) := by
  unfold fs_L_many_24 at h
  obtain ⟨hx, hb, hml, hr, hown, hts, hK, hlk, hX⟩ := id C0
  refine lv_iadd hx hb dL_many_24 ?_
  refine lv_topi (fun x1 ex1 => ?_)
  replace h := gLetI ex1 h
  refine lv_istore_n (lv' := [(2, .int x1), (0, .long l0), (3, .int l3)]) hx hb dL_many_25 rfl hl (by decide) rfl (fun ls hl => ?_)
  obtain ⟨x2, ex2⟩ : ∃ y : Int32, y = l3 + (1 : Int32) := ⟨_, rfl⟩
  replace h := gLetI ex2 h
  refine lv_iinc (v := x2) (lv' := [(3, .int x2), (2, .int x1), (0, .long l0)]) hx hb dL_many_26 hl (k := 2) rfl (by rw [ex2]; rfl) (by decide) rfl (fun ls hl => ?_)
  refine lv_goto (tgt := 4) hx hb dL_many_29 (by decide) ?_
  exact hF4 _ _ _ _ _ _ _ h hP hS (lv_sub hl [2, 1, 0] rfl)
set_option maxHeartbeats 2000000 in
set_option maxRecDepth 20000 in
theorem bs_L_many_4 {p : Program} {l : Launch} {e : Env} {s : State} {m : MethodId} {args : Array Value} {below : List Frame} {meth : Method} {c : Code} {Γ : gE} (C0 : gCx p s m args meth c Γ RL cL_many 4 (some .int))   {z : Int32 × gG} {F4 : Int64 → Int32 → Int32 → gG → Option (Int32 × gG)} {l0 : Int64} {l2 : Int32} {l3 : Int32} {g : gG} {H : Heap} {locs : List Loc} {ls : Array Slot} (hF4 : ∀ (l0 : Int64) (l2 : Int32) (l3 : Int32) (g : gG) (H : Heap) (locs : List Loc) (ls : Array Slot), F4 l0 l2 l3 g = some z → va_P (gD Γ) gcls (lay Γ g) H → va_S (gA Γ) s.heap H locs → lv_has ls 4 [(0, .long l0), (2, .int l2), (3, .int l3)] → W p l e (gRm 1 22) s m args below meth c H locs 0 0 (MQ below (gQi Γ z) args s 0 0 (gA Γ)) (F0 m 4 ls [])) (h : fs_L_many_4 F4 l0 l2 l3 g = some z) (hP : va_P (gD Γ) gcls (lay Γ g) H) (hS : va_S (gA Γ) s.heap H locs) (hl : lv_has ls 4 [(0, .long l0), (2, .int l2), (3, .int l3)]) : W p l e (gRm 1 22) s m args below meth c H locs 0 0 (MQ below (gQi Γ z) args s 0 0 (gA Γ)) (F0 m 4 ls []) := by
  unfold fs_L_many_4 at h
  obtain ⟨hx, hb, hml, hr, hown, hts, hK, hlk, hX⟩ := id C0
  refine lv_iload_n hx hb dL_many_4 rfl (lv_at hl 2 rfl) ?_
  refine lv_bipush (v := 10) hx hb dL_many_5 (by decide) ?_
  refine lv_icmp_ge (tgt := 32) hx hb dL_many_7 (by decide) (fun c1 => ?_) (fun c1 => ?_)
  · replace h := gpos c1 h
    refine lv_iload_n hx hb dL_many_32 rfl (lv_at hl 1 rfl) ?_
    exact giret hx hb hr hlk hP hS dL_many_33 h
  · replace h := gneg c1 h
    refine lv_iload_n hx hb dL_many_10 rfl (lv_at hl 1 rfl) ?_
    refine lv_lload_n hx hb dL_many_11 rfl (lv_at hl 0 rfl) ?_
    refine lv_iload_n hx hb dL_many_12 rfl (lv_at hl 2 rfl) ?_
    refine gCSi (rest := [.int l2]) C0 cal_L_has wl_L_147 wt_L_has ⟨Nat.le_of_ble_eq_true rfl, Nat.le_of_ble_eq_true rfl⟩ ⟨Nat.le_of_ble_eq_true rfl, Nat.le_of_ble_eq_true rfl⟩ [.long l0, .int l3] rfl (Nat.le_of_ble_eq_true rfl) hP hS hl.1 dL_many_13 h (fun u hu => m_L_has l Γ l0 l3 g u hu) (fun u2 H locs h hP hS => ?_) rfl
    refine lv_if_eq (tgt := 23) hx hb dL_many_16 (by decide) (fun c3 => ?_) (fun c3 => ?_)
    · replace h := gpos c3 h
      refine lv_iconst (v := 0) hx hb dL_many_23 (by decide) ?_
      exact bs_L_many_24 C0 hF4 h hP hS (lv_sub hl [0, 2] rfl)
    · replace h := gneg c3 h
      refine lv_iconst (v := 1) hx hb dL_many_19 (by decide) ?_
      refine lv_goto (tgt := 24) hx hb dL_many_20 (by decide) ?_
      exact bs_L_many_24 C0 hF4 h hP hS (lv_sub hl [0, 2] rfl)
set_option maxHeartbeats 2000000 in
set_option maxRecDepth 20000 in
theorem bk_L_many_4 {p : Program} {l : Launch} {e : Env} {s : State} {m : MethodId} {args : Array Value} {below : List Frame} {meth : Method} {c : Code} {Γ : gE} (C0 : gCx p s m args meth c Γ RL cL_many 4 (some .int))   {z : Int32 × gG}   : ∀ (n : Nat) (l0 : Int64) (l2 : Int32) (l3 : Int32) (g : gG) (H : Heap) (locs : List Loc) (ls : Array Slot), fb_L_many_4 n l0 l2 l3 g = some z → va_P (gD Γ) gcls (lay Γ g) H → va_S (gA Γ) s.heap H locs → lv_has ls 4 [(0, .long l0), (2, .int l2), (3, .int l3)] → W p l e (gRm 1 22) s m args below meth c H locs 0 0 (MQ below (gQi Γ z) args s 0 0 (gA Γ)) (F0 m 4 ls []) := by
  intro n
  induction n with
  | zero => intro l0 l2 l3 g H locs ls h hP hS hl; cases h
  | succ n ih => intro l0 l2 l3 g H locs ls h hP hS hl; exact bs_L_many_4 C0  ih h hP hS hl
set_option maxHeartbeats 2000000 in
set_option maxRecDepth 20000 in
theorem m_L_many (l : Launch) (Γ : gE)   (a0 : Int64) (g : gG) (z : Int32 × gG) (h : f_L_many a0 g = some z) : gMi l yL_many cL_many 4 (some .int) 1 22 Γ [.long a0] g z := by
  unfold f_L_many at h
  refine gStart (own := RL) (by decide +kernel) rfl (Nat.le_of_ble_eq_true rfl) ?_
  intro p e s m below meth c C0 ls hl hP
  have hS : va_S (gA Γ) s.heap s.heap [] := va_S.rf
  have hl : lv_has ls 4 [(0, .long a0)] := hl
  obtain ⟨hx, hb, hml, hr, hown, hts, hK, hlk, hX⟩ := id C0
  refine lv_iconst (v := 0) hx hb dL_many_0 (by decide) ?_
  refine lv_istore_n (lv' := [(2, .int (0 : Int32)), (0, .long a0)]) hx hb dL_many_1 rfl hl (by decide) rfl (fun ls hl => ?_)
  refine lv_iconst (v := 0) hx hb dL_many_2 (by decide) ?_
  refine lv_istore_n (lv' := [(3, .int (0 : Int32)), (2, .int (0 : Int32)), (0, .long a0)]) hx hb dL_many_3 rfl hl (by decide) rfl (fun ls hl => ?_)
  exact bk_L_many_4 C0  gFuel _ _ _ _ _ _ _ h hP hS (lv_sub hl [2, 1, 0] rfl)
