set_option maxHeartbeats 2000000 in
set_option maxRecDepth 20000 in
theorem m_X10_thrown (l : Launch) (Γ : gE)    (g : gG) (z : Int32 × gG) (h : f_X10_thrown g = some z) : gMi l yX10_thrown cX10_thrown 1 (some .int) 0 0 Γ [.ref (gB Γ + 174)] g z := by
  unfold f_X10_thrown at h
  refine gStart (own := RX10) (by decide +kernel) rfl (Nat.le_of_ble_eq_true rfl) ?_
  intro p e s m below meth c C0 ls hl hP
  have hS : va_S (gA Γ) s.heap s.heap [] := va_S.rf
  have hl : lv_has ls 1 [(0, .ref (gB Γ + 174))] := hl
  obtain ⟨hx, hb, hml, hr, hown, hts, hK, hlk, hX⟩ := id C0
  refine lv_aload_n hx hb dX10_thrown_0 rfl (lv_at hl 0 rfl) ?_
  refine gf_10_0 hx hb hown hts hK hP wf_X10_73 dX10_thrown_1 ?_
  exact giret hx hb hr hlk hP hS dX10_thrown_4 h
set_option maxHeartbeats 2000000 in
set_option maxRecDepth 20000 in
theorem m_X10_refused (l : Launch) (Γ : gE)   (a1 : Int32) (g : gG) (z : Int32 × gG) (h : f_X10_refused a1 g = some z) : gMi l yX10_refused cX10_refused 2 (some .boolean) 0 0 Γ [.ref (gB Γ + 174), .int a1] g z := by
  unfold f_X10_refused at h
  refine gStart (own := RX10) (by decide +kernel) rfl (Nat.le_of_ble_eq_true rfl) ?_
  intro p e s m below meth c C0 ls hl hP
  have hS : va_S (gA Γ) s.heap s.heap [] := va_S.rf
  have hl : lv_has ls 2 [(0, .ref (gB Γ + 174)), (1, .int a1)] := hl
  obtain ⟨hx, hb, hml, hr, hown, hts, hK, hlk, hX⟩ := id C0
  refine lv_aload_n hx hb dX10_refused_0 rfl (lv_at hl 0 rfl) ?_
  refine lv_iload_n hx hb dX10_refused_1 rfl (lv_at hl 1 rfl) ?_
  refine gp_10_0 hx hb hown hts hK hP hS wf_X10_73 dX10_refused_2 h (fun H locs g1 h hP hS => ?_)
  refine lv_iload_n hx hb dX10_refused_5 rfl (lv_at hl 1 rfl) ?_
  refine lv_if_le (tgt := 13) hx hb dX10_refused_6 (by decide) (fun c2 => ?_) (fun c2 => ?_)
  · replace h := gpos c2 h
    refine lv_iconst (v := 0) hx hb dX10_refused_13 (by decide) ?_
    exact gzret0 hx hb hr hlk hP hS rfl dX10_refused_14 h
  · replace h := gneg c2 h
    refine lv_iconst (v := 1) hx hb dX10_refused_9 (by decide) ?_
    refine lv_goto (tgt := 14) hx hb dX10_refused_10 (by decide) ?_
    exact gzret0 hx hb hr hlk hP hS rfl dX10_refused_14 h
set_option maxHeartbeats 2000000 in
set_option maxRecDepth 20000 in
theorem m_X10_in (l : Launch) (Γ : gE)   (a0 : Int64) (a2 : Int64) (a4 : Int64) (g : gG) (z : Int32 × gG) (h : f_X10_in a0 a2 a4 g = some z) : gMi l yX10_in cX10_in 6 (some .boolean) 0 0 Γ [.long a0, .long a2, .long a4] g z := by
  unfold f_X10_in at h
  refine gStart (own := RX10) (by decide +kernel) rfl (Nat.le_of_ble_eq_true rfl) ?_
  intro p e s m below meth c C0 ls hl hP
  have hS : va_S (gA Γ) s.heap s.heap [] := va_S.rf
  have hl : lv_has ls 6 [(0, .long a0), (2, .long a2), (4, .long a4)] := hl
  obtain ⟨hx, hb, hml, hr, hown, hts, hK, hlk, hX⟩ := id C0
  refine lv_lload_n hx hb dX10_in_0 rfl (lv_at hl 0 rfl) ?_
  refine lv_lload_n hx hb dX10_in_1 rfl (lv_at hl 1 rfl) ?_
  refine W.lcmp hx hb dX10_in_2 ?_
  refine lv_if_lt (tgt := 17) hx hb dX10_in_3 (by decide) (fun c1 => ?_) (fun c1 => ?_)
  · replace h := gpos c1 h
    refine lv_iconst (v := 0) hx hb dX10_in_17 (by decide) ?_
    exact gzret0 hx hb hr hlk hP hS rfl dX10_in_18 h
  · replace h := gneg c1 h
    refine lv_lload_n hx hb dX10_in_6 rfl (lv_at hl 0 rfl) ?_
    refine lv_lload hx hb dX10_in_7 (lv_at hl 2 rfl) ?_
    refine W.lcmp hx hb dX10_in_9 ?_
    refine lv_if_gt (tgt := 17) hx hb dX10_in_10 (by decide) (fun c2 => ?_) (fun c2 => ?_)
    · replace h := gpos c2 h
      refine lv_iconst (v := 0) hx hb dX10_in_17 (by decide) ?_
      exact gzret0 hx hb hr hlk hP hS rfl dX10_in_18 h
    · replace h := gneg c2 h
      refine lv_iconst (v := 1) hx hb dX10_in_13 (by decide) ?_
      refine lv_goto (tgt := 18) hx hb dX10_in_14 (by decide) ?_
      exact gzret0 hx hb hr hlk hP hS rfl dX10_in_18 h
set_option maxHeartbeats 2000000 in
set_option maxRecDepth 20000 in
theorem m_X10_has (l : Launch) (Γ : gE)   (a0 : Int32) (a1 : Int32) (g : gG) (z : Int32 × gG) (h : f_X10_has a0 a1 g = some z) : gMi l yX10_has cX10_has 2 (some .boolean) 0 0 Γ [.int a0, .int a1] g z := by
  unfold f_X10_has at h
  refine gStart (own := RX10) (by decide +kernel) rfl (Nat.le_of_ble_eq_true rfl) ?_
  intro p e s m below meth c C0 ls hl hP
  have hS : va_S (gA Γ) s.heap s.heap [] := va_S.rf
  have hl : lv_has ls 2 [(0, .int a0), (1, .int a1)] := hl
  obtain ⟨hx, hb, hml, hr, hown, hts, hK, hlk, hX⟩ := id C0
  refine lv_iload_n hx hb dX10_has_0 rfl (lv_at hl 0 rfl) ?_
  refine lv_iload_n hx hb dX10_has_1 rfl (lv_at hl 1 rfl) ?_
  refine lv_ishr hx hb dX10_has_2 ?_
  refine lv_iconst (v := 1) hx hb dX10_has_3 (by decide) ?_
  refine lv_iand hx hb dX10_has_4 ?_
  refine lv_iconst (v := 1) hx hb dX10_has_5 (by decide) ?_
  refine lv_icmp_ne (tgt := 13) hx hb dX10_has_6 (by decide) (fun c1 => ?_) (fun c1 => ?_)
  · replace h := gneg c1 h
    refine lv_iconst (v := 0) hx hb dX10_has_13 (by decide) ?_
    exact gzret0 hx hb hr hlk hP hS rfl dX10_has_14 h
  · replace h := gpos c1 h
    refine lv_iconst (v := 1) hx hb dX10_has_9 (by decide) ?_
    refine lv_goto (tgt := 14) hx hb dX10_has_10 (by decide) ?_
    exact gzret0 hx hb hr hlk hP hS rfl dX10_has_14 h
set_option maxHeartbeats 2000000 in
set_option maxRecDepth 20000 in
theorem bs_X10_copy_3 {p : Program} {l : Launch} {e : Env} {s : State} {m : MethodId} {args : Array Value} {below : List Frame} {meth : Method} {c : Code} {Γ : gE} (C0 : gCx p s m args meth c Γ RX10 cX10_copy 6 none) {r0 nr0 : Nat} {r2 nr2 : Nat} (hr0 : isI r0 nr0) (hr2 : isI r2 nr2) {z : Unit × gG} {F3 : Int32 → Int32 → Int32 → Int32 → gG → Option (Unit × gG)} {l1 : Int32} {l3 : Int32} {l4 : Int32} {l5 : Int32} {g : gG} {H : Heap} {locs : List Loc} {ls : Array Slot} (hF3 : ∀ (l1 : Int32) (l3 : Int32) (l4 : Int32) (l5 : Int32) (g : gG) (H : Heap) (locs : List Loc) (ls : Array Slot), F3 l1 l3 l4 l5 g = some z → va_P (gD Γ) gcls (lay Γ g) H → va_S (gA Γ) s.heap H locs → lv_has ls 6 [(0, .ref (gB Γ + r0)), (1, .int l1), (2, .ref (gB Γ + r2)), (3, .int l3), (4, .int l4), (5, .int l5)] → W p l e (gRm 0 0) s m args below meth c H locs 0 0 (MQ below (gQv Γ z) args s 0 0 (gA Γ)) (F0 m 3 ls [])) (h : fs_X10_copy_3 r0 nr0 r2 nr2 F3 l1 l3 l4 l5 g = some z) (hP : va_P (gD Γ) gcls (lay Γ g) H) (hS : va_S (gA Γ) s.heap H locs) (hl : lv_has ls 6 [(0, .ref (gB Γ + r0)), (1, .int l1), (2, .ref (gB Γ + r2)), (3, .int l3), (4, .int l4), (5, .int l5)]) : W p l e (gRm 0 0) s m args below meth c H locs 0 0 (MQ below (gQv Γ z) args s 0 0 (gA Γ)) (F0 m 3 ls []) := by
  unfold fs_X10_copy_3 at h
  obtain ⟨hx, hb, hml, hr, hown, hts, hK, hlk, hX⟩ := id C0
  refine lv_iload hx hb dX10_copy_3 (lv_at hl 5 rfl) ?_
  refine lv_iload hx hb dX10_copy_5 (lv_at hl 4 rfl) ?_
  refine lv_icmp_ge (tgt := 28) hx hb dX10_copy_7 (by decide) (fun c1 => ?_) (fun c1 => ?_)
  · replace h := gpos c1 h
    exact gvret hx hb hr hlk hP hS dX10_copy_28 h
  · replace h := gneg c1 h
    refine lv_aload_n hx hb dX10_copy_10 rfl (lv_at hl 2 rfl) ?_
    refine lv_iload_n hx hb dX10_copy_11 rfl (lv_at hl 3 rfl) ?_
    refine lv_iload hx hb dX10_copy_12 (lv_at hl 5 rfl) ?_
    refine lv_iadd hx hb dX10_copy_14 ?_
    refine lv_aload_n hx hb dX10_copy_15 rfl (lv_at hl 0 rfl) ?_
    refine lv_iload_n hx hb dX10_copy_16 rfl (lv_at hl 1 rfl) ?_
    refine lv_iload hx hb dX10_copy_17 (lv_at hl 5 rfl) ?_
    refine lv_iadd hx hb dX10_copy_19 ?_
    refine gIld hx hb hK hP hr0 dX10_copy_20 h (fun h => ?_)
    refine gIst hx hb hK hP hS hr2 dX10_copy_21 h (fun H locs g2 h hP hS => ?_)
    obtain ⟨x3, ex3⟩ : ∃ y : Int32, y = l5 + (1 : Int32) := ⟨_, rfl⟩
    replace h := gLetI ex3 h
    refine lv_iinc (v := x3) (lv' := [(5, .int x3), (0, .ref (gB Γ + r0)), (1, .int l1), (2, .ref (gB Γ + r2)), (3, .int l3), (4, .int l4)]) hx hb dX10_copy_22 hl (k := 5) rfl (by rw [ex3]; rfl) (by decide) rfl (fun ls hl => ?_)
    refine lv_goto (tgt := 3) hx hb dX10_copy_25 (by decide) ?_
    exact hF3 _ _ _ _ _ _ _ _ h hP hS (lv_sub hl [1, 2, 3, 4, 5, 0] rfl)
set_option maxHeartbeats 2000000 in
set_option maxRecDepth 20000 in
theorem bk_X10_copy_3 {p : Program} {l : Launch} {e : Env} {s : State} {m : MethodId} {args : Array Value} {below : List Frame} {meth : Method} {c : Code} {Γ : gE} (C0 : gCx p s m args meth c Γ RX10 cX10_copy 6 none) {r0 nr0 : Nat} {r2 nr2 : Nat} (hr0 : isI r0 nr0) (hr2 : isI r2 nr2) {z : Unit × gG}   : ∀ (n : Nat) (l1 : Int32) (l3 : Int32) (l4 : Int32) (l5 : Int32) (g : gG) (H : Heap) (locs : List Loc) (ls : Array Slot), fb_X10_copy_3 r0 nr0 r2 nr2 n l1 l3 l4 l5 g = some z → va_P (gD Γ) gcls (lay Γ g) H → va_S (gA Γ) s.heap H locs → lv_has ls 6 [(0, .ref (gB Γ + r0)), (1, .int l1), (2, .ref (gB Γ + r2)), (3, .int l3), (4, .int l4), (5, .int l5)] → W p l e (gRm 0 0) s m args below meth c H locs 0 0 (MQ below (gQv Γ z) args s 0 0 (gA Γ)) (F0 m 3 ls []) := by
  intro n
  induction n with
  | zero => intro l1 l3 l4 l5 g H locs ls h hP hS hl; cases h
  | succ n ih => intro l1 l3 l4 l5 g H locs ls h hP hS hl; exact bs_X10_copy_3 C0 hr0 hr2 ih h hP hS hl
set_option maxHeartbeats 2000000 in
set_option maxRecDepth 20000 in
theorem m_X10_copy (l : Launch) (Γ : gE) {r0 nr0 : Nat} {r2 nr2 : Nat} (hr0 : isI r0 nr0) (hr2 : isI r2 nr2) (a1 : Int32) (a3 : Int32) (a4 : Int32) (g : gG) (z : Unit × gG) (h : f_X10_copy r0 nr0 r2 nr2 a1 a3 a4 g = some z) : gMv l yX10_copy cX10_copy 6 none 0 0 Γ [.ref (gB Γ + r0), .int a1, .ref (gB Γ + r2), .int a3, .int a4] g z := by
  unfold f_X10_copy at h
  refine gStart (own := RX10) (by decide +kernel) rfl (Nat.le_of_ble_eq_true rfl) ?_
  intro p e s m below meth c C0 ls hl hP
  have hS : va_S (gA Γ) s.heap s.heap [] := va_S.rf
  have hl : lv_has ls 6 [(0, .ref (gB Γ + r0)), (1, .int a1), (2, .ref (gB Γ + r2)), (3, .int a3), (4, .int a4)] := hl
  obtain ⟨hx, hb, hml, hr, hown, hts, hK, hlk, hX⟩ := id C0
  refine lv_iconst (v := 0) hx hb dX10_copy_0 (by decide) ?_
  refine lv_istore (lv' := [(5, .int (0 : Int32)), (0, .ref (gB Γ + r0)), (1, .int a1), (2, .ref (gB Γ + r2)), (3, .int a3), (4, .int a4)]) hx hb dX10_copy_1 hl (by decide) rfl (fun ls hl => ?_)
  exact bk_X10_copy_3 C0 hr0 hr2 gFuel _ _ _ _ _ _ _ _ h hP hS (lv_sub hl [1, 2, 3, 4, 5, 0] rfl)
set_option maxHeartbeats 2000000 in
set_option maxRecDepth 20000 in
theorem bs_X10_tenTo_4 {p : Program} {l : Launch} {e : Env} {s : State} {m : MethodId} {args : Array Value} {below : List Frame} {meth : Method} {c : Code} {Γ : gE} (C0 : gCx p s m args meth c Γ RX10 cX10_tenTo 4 (some .long))   {z : Int64 × gG} {F4 : Int32 → Int64 → Int32 → gG → Option (Int64 × gG)} {l0 : Int32} {l1 : Int64} {l3 : Int32} {g : gG} {H : Heap} {locs : List Loc} {ls : Array Slot} (hF4 : ∀ (l0 : Int32) (l1 : Int64) (l3 : Int32) (g : gG) (H : Heap) (locs : List Loc) (ls : Array Slot), F4 l0 l1 l3 g = some z → va_P (gD Γ) gcls (lay Γ g) H → va_S (gA Γ) s.heap H locs → lv_has ls 4 [(0, .int l0), (1, .long l1), (3, .int l3)] → W p l e (gRm 0 0) s m args below meth c H locs 0 0 (MQ below (gQl Γ z) args s 0 0 (gA Γ)) (F0 m 4 ls [])) (h : fs_X10_tenTo_4 F4 l0 l1 l3 g = some z) (hP : va_P (gD Γ) gcls (lay Γ g) H) (hS : va_S (gA Γ) s.heap H locs) (hl : lv_has ls 4 [(0, .int l0), (1, .long l1), (3, .int l3)]) : W p l e (gRm 0 0) s m args below meth c H locs 0 0 (MQ below (gQl Γ z) args s 0 0 (gA Γ)) (F0 m 4 ls []) := by
  unfold fs_X10_tenTo_4 at h
  obtain ⟨hx, hb, hml, hr, hown, hts, hK, hlk, hX⟩ := id C0
  refine lv_iload_n hx hb dX10_tenTo_4 rfl (lv_at hl 2 rfl) ?_
  refine lv_iload_n hx hb dX10_tenTo_5 rfl (lv_at hl 0 rfl) ?_
  refine lv_icmp_ge (tgt := 21) hx hb dX10_tenTo_6 (by decide) (fun c1 => ?_) (fun c1 => ?_)
  · replace h := gpos c1 h
    refine lv_lload_n hx hb dX10_tenTo_21 rfl (lv_at hl 1 rfl) ?_
    exact glret hx hb hr hlk hP hS dX10_tenTo_22 h
  · replace h := gneg c1 h
    refine lv_lload_n hx hb dX10_tenTo_9 rfl (lv_at hl 1 rfl) ?_
    refine lv_ldc2 (v := 10) hx hb hown (hts _ wkl_X10_77) dX10_tenTo_10 ?_
    refine lv_lmul hx hb dX10_tenTo_13 ?_
    refine lv_topl (fun x2 ex2 => ?_)
    replace h := gLetI ex2 h
    refine lv_lstore_n (lv' := [(1, .long x2), (0, .int l0), (3, .int l3)]) hx hb dX10_tenTo_14 rfl hl (by decide) rfl (fun ls hl => ?_)
    obtain ⟨x3, ex3⟩ : ∃ y : Int32, y = l3 + (1 : Int32) := ⟨_, rfl⟩
    replace h := gLetI ex3 h
    refine lv_iinc (v := x3) (lv' := [(3, .int x3), (1, .long x2), (0, .int l0)]) hx hb dX10_tenTo_15 hl (k := 2) rfl (by rw [ex3]; rfl) (by decide) rfl (fun ls hl => ?_)
    refine lv_goto (tgt := 4) hx hb dX10_tenTo_18 (by decide) ?_
    exact hF4 _ _ _ _ _ _ _ h hP hS (lv_sub hl [2, 1, 0] rfl)
set_option maxHeartbeats 2000000 in
set_option maxRecDepth 20000 in
theorem bk_X10_tenTo_4 {p : Program} {l : Launch} {e : Env} {s : State} {m : MethodId} {args : Array Value} {below : List Frame} {meth : Method} {c : Code} {Γ : gE} (C0 : gCx p s m args meth c Γ RX10 cX10_tenTo 4 (some .long))   {z : Int64 × gG}   : ∀ (n : Nat) (l0 : Int32) (l1 : Int64) (l3 : Int32) (g : gG) (H : Heap) (locs : List Loc) (ls : Array Slot), fb_X10_tenTo_4 n l0 l1 l3 g = some z → va_P (gD Γ) gcls (lay Γ g) H → va_S (gA Γ) s.heap H locs → lv_has ls 4 [(0, .int l0), (1, .long l1), (3, .int l3)] → W p l e (gRm 0 0) s m args below meth c H locs 0 0 (MQ below (gQl Γ z) args s 0 0 (gA Γ)) (F0 m 4 ls []) := by
  intro n
  induction n with
  | zero => intro l0 l1 l3 g H locs ls h hP hS hl; cases h
  | succ n ih => intro l0 l1 l3 g H locs ls h hP hS hl; exact bs_X10_tenTo_4 C0  ih h hP hS hl
set_option maxHeartbeats 2000000 in
set_option maxRecDepth 20000 in
theorem m_X10_tenTo (l : Launch) (Γ : gE)   (a0 : Int32) (g : gG) (z : Int64 × gG) (h : f_X10_tenTo a0 g = some z) : gMl l yX10_tenTo cX10_tenTo 4 (some .long) 0 0 Γ [.int a0] g z := by
  unfold f_X10_tenTo at h
  refine gStart (own := RX10) (by decide +kernel) rfl (Nat.le_of_ble_eq_true rfl) ?_
  intro p e s m below meth c C0 ls hl hP
  have hS : va_S (gA Γ) s.heap s.heap [] := va_S.rf
  have hl : lv_has ls 4 [(0, .int a0)] := hl
  obtain ⟨hx, hb, hml, hr, hown, hts, hK, hlk, hX⟩ := id C0
  refine lv_lconst (v := 1) hx hb dX10_tenTo_0 (by decide) ?_
  refine lv_lstore_n (lv' := [(1, .long (1 : Int64)), (0, .int a0)]) hx hb dX10_tenTo_1 rfl hl (by decide) rfl (fun ls hl => ?_)
  refine lv_iconst (v := 0) hx hb dX10_tenTo_2 (by decide) ?_
  refine lv_istore_n (lv' := [(3, .int (0 : Int32)), (1, .long (1 : Int64)), (0, .int a0)]) hx hb dX10_tenTo_3 rfl hl (by decide) rfl (fun ls hl => ?_)
  exact bk_X10_tenTo_4 C0  gFuel _ _ _ _ _ _ _ h hP hS (lv_sub hl [2, 1, 0] rfl)
set_option maxHeartbeats 2000000 in
set_option maxRecDepth 20000 in
theorem bs_X10_count_4 {p : Program} {l : Launch} {e : Env} {s : State} {m : MethodId} {args : Array Value} {below : List Frame} {meth : Method} {c : Code} {Γ : gE} (C0 : gCx p s m args meth c Γ RX10 cX10_count 3 (some .int))   {z : Int32 × gG} {F4 : Int32 → Int32 → Int32 → gG → Option (Int32 × gG)} {l0 : Int32} {l1 : Int32} {l2 : Int32} {g : gG} {H : Heap} {locs : List Loc} {ls : Array Slot} (hF4 : ∀ (l0 : Int32) (l1 : Int32) (l2 : Int32) (g : gG) (H : Heap) (locs : List Loc) (ls : Array Slot), F4 l0 l1 l2 g = some z → va_P (gD Γ) gcls (lay Γ g) H → va_S (gA Γ) s.heap H locs → lv_has ls 3 [(0, .int l0), (1, .int l1), (2, .int l2)] → W p l e (gRm 0 0) s m args below meth c H locs 0 0 (MQ below (gQi Γ z) args s 0 0 (gA Γ)) (F0 m 4 ls [])) (h : fs_X10_count_4 F4 l0 l1 l2 g = some z) (hP : va_P (gD Γ) gcls (lay Γ g) H) (hS : va_S (gA Γ) s.heap H locs) (hl : lv_has ls 3 [(0, .int l0), (1, .int l1), (2, .int l2)]) : W p l e (gRm 0 0) s m args below meth c H locs 0 0 (MQ below (gQi Γ z) args s 0 0 (gA Γ)) (F0 m 4 ls []) := by
  unfold fs_X10_count_4 at h
  obtain ⟨hx, hb, hml, hr, hown, hts, hK, hlk, hX⟩ := id C0
  refine lv_iload_n hx hb dX10_count_4 rfl (lv_at hl 2 rfl) ?_
  refine lv_bipush (v := 10) hx hb dX10_count_5 (by decide) ?_
  refine lv_icmp_ge (tgt := 24) hx hb dX10_count_7 (by decide) (fun c1 => ?_) (fun c1 => ?_)
  · replace h := gpos c1 h
    refine lv_iload_n hx hb dX10_count_24 rfl (lv_at hl 1 rfl) ?_
    exact giret hx hb hr hlk hP hS dX10_count_25 h
  · replace h := gneg c1 h
    refine lv_iload_n hx hb dX10_count_10 rfl (lv_at hl 1 rfl) ?_
    refine lv_iload_n hx hb dX10_count_11 rfl (lv_at hl 0 rfl) ?_
    refine lv_iload_n hx hb dX10_count_12 rfl (lv_at hl 2 rfl) ?_
    refine lv_ishr hx hb dX10_count_13 ?_
    refine lv_iconst (v := 1) hx hb dX10_count_14 (by decide) ?_
    refine lv_iand hx hb dX10_count_15 ?_
    refine lv_iadd hx hb dX10_count_16 ?_
    refine lv_topi (fun x2 ex2 => ?_)
    replace h := gLetI ex2 h
    refine lv_istore_n (lv' := [(1, .int x2), (0, .int l0), (2, .int l2)]) hx hb dX10_count_17 rfl hl (by decide) rfl (fun ls hl => ?_)
    obtain ⟨x3, ex3⟩ : ∃ y : Int32, y = l2 + (1 : Int32) := ⟨_, rfl⟩
    replace h := gLetI ex3 h
    refine lv_iinc (v := x3) (lv' := [(2, .int x3), (1, .int x2), (0, .int l0)]) hx hb dX10_count_18 hl (k := 2) rfl (by rw [ex3]; rfl) (by decide) rfl (fun ls hl => ?_)
    refine lv_goto (tgt := 4) hx hb dX10_count_21 (by decide) ?_
    exact hF4 _ _ _ _ _ _ _ h hP hS (lv_sub hl [2, 1, 0] rfl)
set_option maxHeartbeats 2000000 in
set_option maxRecDepth 20000 in
theorem bk_X10_count_4 {p : Program} {l : Launch} {e : Env} {s : State} {m : MethodId} {args : Array Value} {below : List Frame} {meth : Method} {c : Code} {Γ : gE} (C0 : gCx p s m args meth c Γ RX10 cX10_count 3 (some .int))   {z : Int32 × gG}   : ∀ (n : Nat) (l0 : Int32) (l1 : Int32) (l2 : Int32) (g : gG) (H : Heap) (locs : List Loc) (ls : Array Slot), fb_X10_count_4 n l0 l1 l2 g = some z → va_P (gD Γ) gcls (lay Γ g) H → va_S (gA Γ) s.heap H locs → lv_has ls 3 [(0, .int l0), (1, .int l1), (2, .int l2)] → W p l e (gRm 0 0) s m args below meth c H locs 0 0 (MQ below (gQi Γ z) args s 0 0 (gA Γ)) (F0 m 4 ls []) := by
  intro n
  induction n with
  | zero => intro l0 l1 l2 g H locs ls h hP hS hl; cases h
  | succ n ih => intro l0 l1 l2 g H locs ls h hP hS hl; exact bs_X10_count_4 C0  ih h hP hS hl
set_option maxHeartbeats 2000000 in
set_option maxRecDepth 20000 in
theorem m_X10_count (l : Launch) (Γ : gE)   (a0 : Int32) (g : gG) (z : Int32 × gG) (h : f_X10_count a0 g = some z) : gMi l yX10_count cX10_count 3 (some .int) 0 0 Γ [.int a0] g z := by
  unfold f_X10_count at h
  refine gStart (own := RX10) (by decide +kernel) rfl (Nat.le_of_ble_eq_true rfl) ?_
  intro p e s m below meth c C0 ls hl hP
  have hS : va_S (gA Γ) s.heap s.heap [] := va_S.rf
  have hl : lv_has ls 3 [(0, .int a0)] := hl
  obtain ⟨hx, hb, hml, hr, hown, hts, hK, hlk, hX⟩ := id C0
  refine lv_iconst (v := 0) hx hb dX10_count_0 (by decide) ?_
  refine lv_istore_n (lv' := [(1, .int (0 : Int32)), (0, .int a0)]) hx hb dX10_count_1 rfl hl (by decide) rfl (fun ls hl => ?_)
  refine lv_iconst (v := 0) hx hb dX10_count_2 (by decide) ?_
  refine lv_istore_n (lv' := [(2, .int (0 : Int32)), (1, .int (0 : Int32)), (0, .int a0)]) hx hb dX10_count_3 rfl hl (by decide) rfl (fun ls hl => ?_)
  exact bk_X10_count_4 C0  gFuel _ _ _ _ _ _ _ h hP hS (lv_sub hl [2, 1, 0] rfl)
set_option maxHeartbeats 2000000 in
set_option maxRecDepth 20000 in
theorem bs_X10_note_37 {p : Program} {l : Launch} {e : Env} {s : State} {m : MethodId} {args : Array Value} {below : List Frame} {meth : Method} {c : Code} {Γ : gE} (C0 : gCx p s m args meth c Γ RX10 cX10_note 1 none)   {z : Unit × gG}   {g : gG} {H : Heap} {locs : List Loc} {ls : Array Slot}  (h : fs_X10_note_37 g = some z) (hP : va_P (gD Γ) gcls (lay Γ g) H) (hS : va_S (gA Γ) s.heap H locs) (hl : lv_has ls 1 [(0, .ref (gB Γ + 174))]) : W p l e (gRm 1 25) s m args below meth c H locs 0 0 (MQ below (gQv Γ z) args s 0 0 (gA Γ)) (F0 m 37 ls []) := by
  unfold fs_X10_note_37 at h
  obtain ⟨hx, hb, hml, hr, hown, hts, hK, hlk, hX⟩ := id C0
  refine lv_aload_n hx hb dX10_note_37 rfl (lv_at hl 0 rfl) ?_
  refine gf_10_13 hx hb hown hts hK hP wf_X10_35 dX10_note_38 ?_
  refine lv_iconst (v := 0) hx hb dX10_note_41 (by decide) ?_
  refine lv_aload_n hx hb dX10_note_42 rfl (lv_at hl 0 rfl) ?_
  refine gf_10_15 hx hb hown hts hK hP wf_X10_41 dX10_note_43 ?_
  refine lv_sipush (v := 394) hx hb dX10_note_46 (by decide) ?_
  refine lv_aload_n hx hb dX10_note_49 rfl (lv_at hl 0 rfl) ?_
  refine gf_10_16 hx hb hown hts hK hP wf_X10_79 dX10_note_50 ?_
  refine lv_imul hx hb dX10_note_53 ?_
  refine lv_sipush (v := 394) hx hb dX10_note_54 (by decide) ?_
  refine gCSv (rest := []) C0 cal_X10_copy wl_X10_82 wt_X10_copy ⟨Nat.le_of_ble_eq_true rfl, Nat.le_of_ble_eq_true rfl⟩ ⟨Nat.le_of_ble_eq_true rfl, Nat.le_of_ble_eq_true rfl⟩ [.ref (gB Γ + 183), .int (0 : Int32), .ref (gB Γ + 185), .int ((394 : Int32) * (g.1 174 16)), .int (394 : Int32)] rfl (Nat.le_of_ble_eq_true rfl) hP hS hl.1 dX10_note_57 h (fun u hu => m_X10_copy l Γ is_183 is_185 (0 : Int32) ((394 : Int32) * (g.1 174 16)) (394 : Int32) g u hu) (fun u1 H locs h hP hS => ?_) rfl
  refine lv_aload_n hx hb dX10_note_60 rfl (lv_at hl 0 rfl) ?_
  refine lv_dup hx hb dX10_note_61 rfl ?_
  refine gf_10_16 hx hb hown hts hK hP wf_X10_79 dX10_note_62 ?_
  refine lv_iconst (v := 1) hx hb dX10_note_65 (by decide) ?_
  refine lv_iadd hx hb dX10_note_66 ?_
  refine gp_10_16 hx hb hown hts hK hP hS wf_X10_79 dX10_note_67 h (fun H locs g2 h hP hS => ?_)
  exact gvret hx hb hr hlk hP hS dX10_note_70 h
set_option maxHeartbeats 2000000 in
set_option maxRecDepth 20000 in
theorem m_X10_note (l : Launch) (Γ : gE)    (g : gG) (z : Unit × gG) (h : f_X10_note g = some z) : gMv l yX10_note cX10_note 1 none 1 25 Γ [.ref (gB Γ + 174)] g z := by
  unfold f_X10_note at h
  refine gStart (own := RX10) (by decide +kernel) rfl (Nat.le_of_ble_eq_true rfl) ?_
  intro p e s m below meth c C0 ls hl hP
  have hS : va_S (gA Γ) s.heap s.heap [] := va_S.rf
  have hl : lv_has ls 1 [(0, .ref (gB Γ + 174))] := hl
  obtain ⟨hx, hb, hml, hr, hown, hts, hK, hlk, hX⟩ := id C0
  refine lv_aload_n hx hb dX10_note_0 rfl (lv_at hl 0 rfl) ?_
  refine gf_10_16 hx hb hown hts hK hP wf_X10_79 dX10_note_1 ?_
  refine lv_bipush (v := 14) hx hb dX10_note_4 (by decide) ?_
  refine lv_icmp_ne (tgt := 37) hx hb dX10_note_6 (by decide) (fun c1 => ?_) (fun c1 => ?_)
  · replace h := gneg c1 h
    exact bs_X10_note_37 C0  h hP hS (lv_sub hl [0] rfl)
  · replace h := gpos c1 h
    refine lv_aload_n hx hb dX10_note_9 rfl (lv_at hl 0 rfl) ?_
    refine gf_10_15 hx hb hown hts hK hP wf_X10_41 dX10_note_10 ?_
    refine lv_sipush (v := 394) hx hb dX10_note_13 (by decide) ?_
    refine lv_aload_n hx hb dX10_note_16 rfl (lv_at hl 0 rfl) ?_
    refine gf_10_15 hx hb hown hts hK hP wf_X10_41 dX10_note_17 ?_
    refine lv_iconst (v := 0) hx hb dX10_note_20 (by decide) ?_
    refine lv_sipush (v := 5122) hx hb dX10_note_21 (by decide) ?_
    refine gCSv (rest := []) C0 cal_X10_copy wl_X10_82 wt_X10_copy ⟨Nat.le_of_ble_eq_true rfl, Nat.le_of_ble_eq_true rfl⟩ ⟨Nat.le_of_ble_eq_true rfl, Nat.le_of_ble_eq_true rfl⟩ [.ref (gB Γ + 185), .int (394 : Int32), .ref (gB Γ + 185), .int (0 : Int32), .int (5122 : Int32)] rfl (Nat.le_of_ble_eq_true rfl) hP hS hl.1 dX10_note_24 h (fun u hu => m_X10_copy l Γ is_185 is_185 (394 : Int32) (0 : Int32) (5122 : Int32) g u hu) (fun u2 H locs h hP hS => ?_) rfl
    refine lv_aload_n hx hb dX10_note_27 rfl (lv_at hl 0 rfl) ?_
    refine lv_dup hx hb dX10_note_28 rfl ?_
    refine gf_10_16 hx hb hown hts hK hP wf_X10_79 dX10_note_29 ?_
    refine lv_iconst (v := 1) hx hb dX10_note_32 (by decide) ?_
    refine lv_isub hx hb dX10_note_33 ?_
    refine gp_10_16 hx hb hown hts hK hP hS wf_X10_79 dX10_note_34 h (fun H locs g3 h hP hS => ?_)
    exact bs_X10_note_37 C0  h hP hS (lv_sub hl [0] rfl)
set_option maxHeartbeats 2000000 in
set_option maxRecDepth 20000 in
theorem m_X10_begin (l : Launch) (Γ : gE)    (g : gG) (z : Unit × gG) (h : f_X10_begin g = some z) : gMv l yX10_begin cX10_begin 1 none 1 25 Γ [.ref (gB Γ + 174)] g z := by
  unfold f_X10_begin at h
  refine gStart (own := RX10) (by decide +kernel) rfl (Nat.le_of_ble_eq_true rfl) ?_
  intro p e s m below meth c C0 ls hl hP
  have hS : va_S (gA Γ) s.heap s.heap [] := va_S.rf
  have hl : lv_has ls 1 [(0, .ref (gB Γ + 174))] := hl
  obtain ⟨hx, hb, hml, hr, hown, hts, hK, hlk, hX⟩ := id C0
  refine lv_aload_n hx hb dX10_begin_0 rfl (lv_at hl 0 rfl) ?_
  refine gf_10_13 hx hb hown hts hK hP wf_X10_35 dX10_begin_1 ?_
  refine lv_iconst (v := 0) hx hb dX10_begin_4 (by decide) ?_
  refine lv_aload_n hx hb dX10_begin_5 rfl (lv_at hl 0 rfl) ?_
  refine gf_10_14 hx hb hown hts hK hP wf_X10_38 dX10_begin_6 ?_
  refine lv_iconst (v := 0) hx hb dX10_begin_9 (by decide) ?_
  refine lv_sipush (v := 394) hx hb dX10_begin_10 (by decide) ?_
  refine gCSv (rest := []) C0 cal_X10_copy wl_X10_82 wt_X10_copy ⟨Nat.le_of_ble_eq_true rfl, Nat.le_of_ble_eq_true rfl⟩ ⟨Nat.le_of_ble_eq_true rfl, Nat.le_of_ble_eq_true rfl⟩ [.ref (gB Γ + 183), .int (0 : Int32), .ref (gB Γ + 184), .int (0 : Int32), .int (394 : Int32)] rfl (Nat.le_of_ble_eq_true rfl) hP hS hl.1 dX10_begin_13 h (fun u hu => m_X10_copy l Γ is_183 is_184 (0 : Int32) (0 : Int32) (394 : Int32) g u hu) (fun u1 H locs h hP hS => ?_) rfl
  exact gvret hx hb hr hlk hP hS dX10_begin_16 h
set_option maxHeartbeats 2000000 in
set_option maxRecDepth 20000 in
theorem m_X10_put (l : Launch) (Γ : gE) {r0 nr0 : Nat} (hr0 : isI r0 nr0) (a1 : Int32) (a2 : Int32) (a3 : Int32) (g : gG) (z : Unit × gG) (h : f_X10_put r0 nr0 a1 a2 a3 g = some z) : gMv l yX10_put cX10_put 6 none 0 0 Γ [.ref (gB Γ + r0), .int a1, .int a2, .int a3] g z := by
  unfold f_X10_put at h
  refine gStart (own := RX10) (by decide +kernel) rfl (Nat.le_of_ble_eq_true rfl) ?_
  intro p e s m below meth c C0 ls hl hP
  have hS : va_S (gA Γ) s.heap s.heap [] := va_S.rf
  have hl : lv_has ls 6 [(0, .ref (gB Γ + r0)), (1, .int a1), (2, .int a2), (3, .int a3)] := hl
  obtain ⟨hx, hb, hml, hr, hown, hts, hK, hlk, hX⟩ := id C0
  refine lv_bipush (v := 22) hx hb dX10_put_0 (by decide) ?_
  refine lv_bipush (v := 32) hx hb dX10_put_2 (by decide) ?_
  refine lv_iload_n hx hb dX10_put_4 rfl (lv_at hl 1 rfl) ?_
  refine lv_imul hx hb dX10_put_5 ?_
  refine lv_iadd hx hb dX10_put_6 ?_
  refine lv_iload_n hx hb dX10_put_7 rfl (lv_at hl 2 rfl) ?_
  refine lv_bipush (v := 32) hx hb dX10_put_8 (by decide) ?_
  refine lv_idiv hx hb dX10_put_10 (by decide) ?_
  refine lv_iadd hx hb dX10_put_11 ?_
  refine lv_topi (fun x1 ex1 => ?_)
  replace h := gLetI ex1 h
  refine lv_istore (lv' := [(4, .int x1), (0, .ref (gB Γ + r0)), (1, .int a1), (2, .int a2), (3, .int a3)]) hx hb dX10_put_12 hl (by decide) rfl (fun ls hl => ?_)
  refine lv_iconst (v := 1) hx hb dX10_put_14 (by decide) ?_
  refine lv_iload_n hx hb dX10_put_15 rfl (lv_at hl 3 rfl) ?_
  refine lv_bipush (v := 32) hx hb dX10_put_16 (by decide) ?_
  refine lv_irem hx hb dX10_put_18 (by decide) ?_
  refine lv_ishl hx hb dX10_put_19 ?_
  refine lv_topi (fun x2 ex2 => ?_)
  replace h := gLetI ex2 h
  refine lv_istore (lv' := [(5, .int x2), (4, .int x1), (0, .ref (gB Γ + r0)), (1, .int a1), (2, .int a2), (3, .int a3)]) hx hb dX10_put_20 hl (by decide) rfl (fun ls hl => ?_)
  refine lv_aload_n hx hb dX10_put_22 rfl (lv_at hl 2 rfl) ?_
  refine lv_iload hx hb dX10_put_23 (lv_at hl 1 rfl) ?_
  refine lv_iload_n hx hb dX10_put_25 rfl (lv_at hl 5 rfl) ?_
  refine lv_if_eq (tgt := 39) hx hb dX10_put_26 (by decide) (fun c3 => ?_) (fun c3 => ?_)
  · replace h := gpos c3 h
    refine lv_aload_n hx hb dX10_put_39 rfl (lv_at hl 2 rfl) ?_
    refine lv_iload hx hb dX10_put_40 (lv_at hl 1 rfl) ?_
    refine gIld hx hb hK hP hr0 dX10_put_42 h (fun h => ?_)
    refine lv_iload hx hb dX10_put_43 (lv_at hl 0 rfl) ?_
    refine lv_iconst (v := -1) hx hb dX10_put_45 (by decide) ?_
    refine lv_ixor hx hb dX10_put_46 ?_
    refine lv_iand hx hb dX10_put_47 ?_
    refine gIst hx hb hK hP hS hr0 dX10_put_48 h (fun H locs g4 h hP hS => ?_)
    exact gvret hx hb hr hlk hP hS dX10_put_49 h
  · replace h := gneg c3 h
    refine lv_aload_n hx hb dX10_put_29 rfl (lv_at hl 2 rfl) ?_
    refine lv_iload hx hb dX10_put_30 (lv_at hl 1 rfl) ?_
    refine gIld hx hb hK hP hr0 dX10_put_32 h (fun h => ?_)
    refine lv_iload hx hb dX10_put_33 (lv_at hl 0 rfl) ?_
    refine lv_ior hx hb dX10_put_35 ?_
    refine lv_goto (tgt := 48) hx hb dX10_put_36 (by decide) ?_
    refine gIst hx hb hK hP hS hr0 dX10_put_48 h (fun H locs g5 h hP hS => ?_)
    exact gvret hx hb hr hlk hP hS dX10_put_49 h
set_option maxHeartbeats 2000000 in
set_option maxRecDepth 20000 in
theorem m_X10_isHeld (l : Launch) (Γ : gE) {r0 nr0 : Nat} (hr0 : isI r0 nr0) (a1 : Int32) (a2 : Int32) (g : gG) (z : Int32 × gG) (h : f_X10_isHeld r0 nr0 a1 a2 g = some z) : gMi l yX10_isHeld cX10_isHeld 3 (some .boolean) 1 21 Γ [.ref (gB Γ + r0), .int a1, .int a2] g z := by
  unfold f_X10_isHeld at h
  refine gStart (own := RX10) (by decide +kernel) rfl (Nat.le_of_ble_eq_true rfl) ?_
  intro p e s m below meth c C0 ls hl hP
  have hS : va_S (gA Γ) s.heap s.heap [] := va_S.rf
  have hl : lv_has ls 3 [(0, .ref (gB Γ + r0)), (1, .int a1), (2, .int a2)] := hl
  obtain ⟨hx, hb, hml, hr, hown, hts, hK, hlk, hX⟩ := id C0
  refine lv_aload_n hx hb dX10_isHeld_0 rfl (lv_at hl 0 rfl) ?_
  refine lv_bipush (v := 22) hx hb dX10_isHeld_1 (by decide) ?_
  refine lv_bipush (v := 32) hx hb dX10_isHeld_3 (by decide) ?_
  refine lv_iload_n hx hb dX10_isHeld_5 rfl (lv_at hl 1 rfl) ?_
  refine lv_imul hx hb dX10_isHeld_6 ?_
  refine lv_iadd hx hb dX10_isHeld_7 ?_
  refine lv_iload_n hx hb dX10_isHeld_8 rfl (lv_at hl 2 rfl) ?_
  refine lv_bipush (v := 32) hx hb dX10_isHeld_9 (by decide) ?_
  refine lv_idiv hx hb dX10_isHeld_11 (by decide) ?_
  refine lv_iadd hx hb dX10_isHeld_12 ?_
  refine gIld hx hb hK hP hr0 dX10_isHeld_13 h (fun h => ?_)
  refine lv_iload_n hx hb dX10_isHeld_14 rfl (lv_at hl 2 rfl) ?_
  refine lv_bipush (v := 32) hx hb dX10_isHeld_15 (by decide) ?_
  refine lv_irem hx hb dX10_isHeld_17 (by decide) ?_
  refine gCSi (rest := []) C0 cal_X10_has wl_X10_65 wt_X10_has ⟨Nat.le_of_ble_eq_true rfl, Nat.le_of_ble_eq_true rfl⟩ ⟨Nat.le_of_ble_eq_true rfl, Nat.le_of_ble_eq_true rfl⟩ [.int (g.1 r0 (((22 : Int32) + ((32 : Int32) * a1)) + (a2 / (32 : Int32))).toNatClampNeg), .int (a2 - a2 / (32 : Int32) * (32 : Int32))] rfl (Nat.le_of_ble_eq_true rfl) hP hS hl.1 dX10_isHeld_18 h (fun u hu => m_X10_has l Γ (g.1 r0 (((22 : Int32) + ((32 : Int32) * a1)) + (a2 / (32 : Int32))).toNatClampNeg) (a2 - a2 / (32 : Int32) * (32 : Int32)) g u hu) (fun u1 H locs h hP hS => ?_) rfl
  exact gzret hx hb hr hlk hP hS dX10_isHeld_21 h
set_option maxHeartbeats 2000000 in
set_option maxRecDepth 20000 in
theorem m_X10_chest (l : Launch) (Γ : gE) {r0 nr0 : Nat} (hr0 : isI r0 nr0)  (g : gG) (z : Int32 × gG) (h : f_X10_chest r0 nr0 g = some z) : gMi l yX10_chest cX10_chest 1 (some .int) 0 0 Γ [.ref (gB Γ + r0)] g z := by
  unfold f_X10_chest at h
  refine gStart (own := RX10) (by decide +kernel) rfl (Nat.le_of_ble_eq_true rfl) ?_
  intro p e s m below meth c C0 ls hl hP
  have hS : va_S (gA Γ) s.heap s.heap [] := va_S.rf
  have hl : lv_has ls 1 [(0, .ref (gB Γ + r0))] := hl
  obtain ⟨hx, hb, hml, hr, hown, hts, hK, hlk, hX⟩ := id C0
  refine lv_aload_n hx hb dX10_chest_0 rfl (lv_at hl 0 rfl) ?_
  refine lv_iconst (v := 0) hx hb dX10_chest_1 (by decide) ?_
  refine gIld hx hb hK hP hr0 dX10_chest_2 h (fun h => ?_)
  refine lv_iconst (v := 1) hx hb dX10_chest_3 (by decide) ?_
  refine lv_isub hx hb dX10_chest_4 ?_
  exact giret hx hb hr hlk hP hS dX10_chest_5 h
set_option maxHeartbeats 2000000 in
set_option maxRecDepth 20000 in
theorem bs_X10_heldBy_36 {p : Program} {l : Launch} {e : Env} {s : State} {m : MethodId} {args : Array Value} {below : List Frame} {meth : Method} {c : Code} {Γ : gE} (C0 : gCx p s m args meth c Γ RX10 cX10_heldBy 4 (some .int)) {r0 nr0 : Nat} (hr0 : isI r0 nr0) {z : Int32 × gG} {F4 : Int32 → Int32 → Int32 → gG → Option (Int32 × gG)} {l1 : Int32} {l3 : Int32} {s0 : Int32} {s1 : Int32} {g : gG} {H : Heap} {locs : List Loc} {ls : Array Slot} (hF4 : ∀ (l1 : Int32) (l2 : Int32) (l3 : Int32) (g : gG) (H : Heap) (locs : List Loc) (ls : Array Slot), F4 l1 l2 l3 g = some z → va_P (gD Γ) gcls (lay Γ g) H → va_S (gA Γ) s.heap H locs → lv_has ls 4 [(0, .ref (gB Γ + r0)), (1, .int l1), (2, .int l2), (3, .int l3)] → W p l e (gRm 2 43) s m args below meth c H locs 0 0 (MQ below (gQi Γ z) args s 0 0 (gA Γ)) (F0 m 4 ls [])) (h : fs_X10_heldBy_36 r0 nr0 F4 l1 l3 s0 s1 g = some z) (hP : va_P (gD Γ) gcls (lay Γ g) H) (hS : va_S (gA Γ) s.heap H locs) (hl : lv_has ls 4 [(0, .ref (gB Γ + r0)), (1, .int l1), (3, .int l3)]) : W p l e (gRm 2 43) s m args below meth c H locs 0 0 (MQ below (gQi Γ z) args s 0 0 (gA Γ)) (F0 m 36 ls [.int s1, .int s0]) := by
  unfold fs_X10_heldBy_36 at h
  obtain ⟨hx, hb, hml, hr, hown, hts, hK, hlk, hX⟩ := id C0
  refine lv_iadd hx hb dX10_heldBy_36 ?_
  refine lv_topi (fun x1 ex1 => ?_)
  replace h := gLetI ex1 h
  refine lv_istore_n (lv' := [(2, .int x1), (0, .ref (gB Γ + r0)), (1, .int l1), (3, .int l3)]) hx hb dX10_heldBy_37 rfl hl (by decide) rfl (fun ls hl => ?_)
  obtain ⟨x2, ex2⟩ : ∃ y : Int32, y = l3 + (1 : Int32) := ⟨_, rfl⟩
  replace h := gLetI ex2 h
  refine lv_iinc (v := x2) (lv' := [(3, .int x2), (2, .int x1), (0, .ref (gB Γ + r0)), (1, .int l1)]) hx hb dX10_heldBy_38 hl (k := 3) rfl (by rw [ex2]; rfl) (by decide) rfl (fun ls hl => ?_)
  refine lv_goto (tgt := 4) hx hb dX10_heldBy_41 (by decide) ?_
  exact hF4 _ _ _ _ _ _ _ h hP hS (lv_sub hl [2, 3, 1, 0] rfl)
set_option maxHeartbeats 2000000 in
set_option maxRecDepth 20000 in
theorem bs_X10_heldBy_35 {p : Program} {l : Launch} {e : Env} {s : State} {m : MethodId} {args : Array Value} {below : List Frame} {meth : Method} {c : Code} {Γ : gE} (C0 : gCx p s m args meth c Γ RX10 cX10_heldBy 4 (some .int)) {r0 nr0 : Nat} (hr0 : isI r0 nr0) {z : Int32 × gG} {F4 : Int32 → Int32 → Int32 → gG → Option (Int32 × gG)} {l1 : Int32} {l3 : Int32} {s0 : Int32} {g : gG} {H : Heap} {locs : List Loc} {ls : Array Slot} (hF4 : ∀ (l1 : Int32) (l2 : Int32) (l3 : Int32) (g : gG) (H : Heap) (locs : List Loc) (ls : Array Slot), F4 l1 l2 l3 g = some z → va_P (gD Γ) gcls (lay Γ g) H → va_S (gA Γ) s.heap H locs → lv_has ls 4 [(0, .ref (gB Γ + r0)), (1, .int l1), (2, .int l2), (3, .int l3)] → W p l e (gRm 2 43) s m args below meth c H locs 0 0 (MQ below (gQi Γ z) args s 0 0 (gA Γ)) (F0 m 4 ls [])) (h : fs_X10_heldBy_35 r0 nr0 F4 l1 l3 s0 g = some z) (hP : va_P (gD Γ) gcls (lay Γ g) H) (hS : va_S (gA Γ) s.heap H locs) (hl : lv_has ls 4 [(0, .ref (gB Γ + r0)), (1, .int l1), (3, .int l3)]) : W p l e (gRm 2 43) s m args below meth c H locs 0 0 (MQ below (gQi Γ z) args s 0 0 (gA Γ)) (F0 m 35 ls [.int s0]) := by
  unfold fs_X10_heldBy_35 at h
  obtain ⟨hx, hb, hml, hr, hown, hts, hK, hlk, hX⟩ := id C0
  refine lv_iconst (v := 0) hx hb dX10_heldBy_35 (by decide) ?_
  exact bs_X10_heldBy_36 C0 hr0 hF4 h hP hS (lv_sub hl [0, 1, 2] rfl)
set_option maxHeartbeats 2000000 in
set_option maxRecDepth 20000 in
theorem bs_X10_heldBy_4 {p : Program} {l : Launch} {e : Env} {s : State} {m : MethodId} {args : Array Value} {below : List Frame} {meth : Method} {c : Code} {Γ : gE} (C0 : gCx p s m args meth c Γ RX10 cX10_heldBy 4 (some .int)) {r0 nr0 : Nat} (hr0 : isI r0 nr0) {z : Int32 × gG} {F4 : Int32 → Int32 → Int32 → gG → Option (Int32 × gG)} {l1 : Int32} {l2 : Int32} {l3 : Int32} {g : gG} {H : Heap} {locs : List Loc} {ls : Array Slot} (hF4 : ∀ (l1 : Int32) (l2 : Int32) (l3 : Int32) (g : gG) (H : Heap) (locs : List Loc) (ls : Array Slot), F4 l1 l2 l3 g = some z → va_P (gD Γ) gcls (lay Γ g) H → va_S (gA Γ) s.heap H locs → lv_has ls 4 [(0, .ref (gB Γ + r0)), (1, .int l1), (2, .int l2), (3, .int l3)] → W p l e (gRm 2 43) s m args below meth c H locs 0 0 (MQ below (gQi Γ z) args s 0 0 (gA Γ)) (F0 m 4 ls [])) (h : fs_X10_heldBy_4 r0 nr0 F4 l1 l2 l3 g = some z) (hP : va_P (gD Γ) gcls (lay Γ g) H) (hS : va_S (gA Γ) s.heap H locs) (hl : lv_has ls 4 [(0, .ref (gB Γ + r0)), (1, .int l1), (2, .int l2), (3, .int l3)]) : W p l e (gRm 2 43) s m args below meth c H locs 0 0 (MQ below (gQi Γ z) args s 0 0 (gA Γ)) (F0 m 4 ls []) := by
  unfold fs_X10_heldBy_4 at h
  obtain ⟨hx, hb, hml, hr, hown, hts, hK, hlk, hX⟩ := id C0
  refine lv_iload_n hx hb dX10_heldBy_4 rfl (lv_at hl 3 rfl) ?_
  refine lv_iconst (v := 1) hx hb dX10_heldBy_5 (by decide) ?_
  refine lv_aload_n hx hb dX10_heldBy_6 rfl (lv_at hl 0 rfl) ?_
  refine lv_iconst (v := 0) hx hb dX10_heldBy_7 (by decide) ?_
  refine gIld hx hb hK hP hr0 dX10_heldBy_8 h (fun h => ?_)
  refine lv_ishl hx hb dX10_heldBy_9 ?_
  refine lv_icmp_ge (tgt := 44) hx hb dX10_heldBy_10 (by decide) (fun c1 => ?_) (fun c1 => ?_)
  · replace h := gpos c1 h
    refine lv_iload_n hx hb dX10_heldBy_44 rfl (lv_at hl 2 rfl) ?_
    exact giret hx hb hr hlk hP hS dX10_heldBy_45 h
  · replace h := gneg c1 h
    refine lv_iload_n hx hb dX10_heldBy_13 rfl (lv_at hl 2 rfl) ?_
    refine lv_iload_n hx hb dX10_heldBy_14 rfl (lv_at hl 3 rfl) ?_
    refine lv_iload_n hx hb dX10_heldBy_15 rfl (lv_at hl 1 rfl) ?_
    refine gCSi (rest := [.int l2]) C0 cal_X10_has wl_X10_65 wt_X10_has ⟨Nat.le_of_ble_eq_true rfl, Nat.le_of_ble_eq_true rfl⟩ ⟨Nat.le_of_ble_eq_true rfl, Nat.le_of_ble_eq_true rfl⟩ [.int l3, .int l1] rfl (Nat.le_of_ble_eq_true rfl) hP hS hl.1 dX10_heldBy_16 h (fun u hu => m_X10_has l Γ l3 l1 g u hu) (fun u2 H locs h hP hS => ?_) rfl
    refine lv_if_ne (tgt := 35) hx hb dX10_heldBy_19 (by decide) (fun c3 => ?_) (fun c3 => ?_)
    · replace h := gneg c3 h
      exact bs_X10_heldBy_35 C0 hr0 hF4 h hP hS (lv_sub hl [0, 1, 3] rfl)
    · replace h := gpos c3 h
      refine lv_aload_n hx hb dX10_heldBy_22 rfl (lv_at hl 0 rfl) ?_
      refine lv_iload_n hx hb dX10_heldBy_23 rfl (lv_at hl 1 rfl) ?_
      refine lv_iload_n hx hb dX10_heldBy_24 rfl (lv_at hl 3 rfl) ?_
      refine gCSi (rest := [.int l2]) C0 cal_X10_isHeld wl_X10_86 wt_X10_isHeld ⟨Nat.le_of_ble_eq_true rfl, Nat.le_of_ble_eq_true rfl⟩ ⟨Nat.le_of_ble_eq_true rfl, Nat.le_of_ble_eq_true rfl⟩ [.ref (gB Γ + r0), .int l1, .int l3] rfl (Nat.le_of_ble_eq_true rfl) hP hS hl.1 dX10_heldBy_25 h (fun u hu => m_X10_isHeld l Γ hr0 l1 l3 u2.2 u hu) (fun u4 H locs h hP hS => ?_) rfl
      refine lv_if_eq (tgt := 35) hx hb dX10_heldBy_28 (by decide) (fun c5 => ?_) (fun c5 => ?_)
      · replace h := gpos c5 h
        exact bs_X10_heldBy_35 C0 hr0 hF4 h hP hS (lv_sub hl [0, 1, 3] rfl)
      · replace h := gneg c5 h
        refine lv_iconst (v := 1) hx hb dX10_heldBy_31 (by decide) ?_
        refine lv_goto (tgt := 36) hx hb dX10_heldBy_32 (by decide) ?_
        exact bs_X10_heldBy_36 C0 hr0 hF4 h hP hS (lv_sub hl [0, 1, 3] rfl)
set_option maxHeartbeats 2000000 in
set_option maxRecDepth 20000 in
theorem bk_X10_heldBy_4 {p : Program} {l : Launch} {e : Env} {s : State} {m : MethodId} {args : Array Value} {below : List Frame} {meth : Method} {c : Code} {Γ : gE} (C0 : gCx p s m args meth c Γ RX10 cX10_heldBy 4 (some .int)) {r0 nr0 : Nat} (hr0 : isI r0 nr0) {z : Int32 × gG}   : ∀ (n : Nat) (l1 : Int32) (l2 : Int32) (l3 : Int32) (g : gG) (H : Heap) (locs : List Loc) (ls : Array Slot), fb_X10_heldBy_4 r0 nr0 n l1 l2 l3 g = some z → va_P (gD Γ) gcls (lay Γ g) H → va_S (gA Γ) s.heap H locs → lv_has ls 4 [(0, .ref (gB Γ + r0)), (1, .int l1), (2, .int l2), (3, .int l3)] → W p l e (gRm 2 43) s m args below meth c H locs 0 0 (MQ below (gQi Γ z) args s 0 0 (gA Γ)) (F0 m 4 ls []) := by
  intro n
  induction n with
  | zero => intro l1 l2 l3 g H locs ls h hP hS hl; cases h
  | succ n ih => intro l1 l2 l3 g H locs ls h hP hS hl; exact bs_X10_heldBy_4 C0 hr0 ih h hP hS hl
set_option maxHeartbeats 2000000 in
set_option maxRecDepth 20000 in
theorem m_X10_heldBy (l : Launch) (Γ : gE) {r0 nr0 : Nat} (hr0 : isI r0 nr0) (a1 : Int32) (g : gG) (z : Int32 × gG) (h : f_X10_heldBy r0 nr0 a1 g = some z) : gMi l yX10_heldBy cX10_heldBy 4 (some .int) 2 43 Γ [.ref (gB Γ + r0), .int a1] g z := by
  unfold f_X10_heldBy at h
  refine gStart (own := RX10) (by decide +kernel) rfl (Nat.le_of_ble_eq_true rfl) ?_
  intro p e s m below meth c C0 ls hl hP
  have hS : va_S (gA Γ) s.heap s.heap [] := va_S.rf
  have hl : lv_has ls 4 [(0, .ref (gB Γ + r0)), (1, .int a1)] := hl
  obtain ⟨hx, hb, hml, hr, hown, hts, hK, hlk, hX⟩ := id C0
  refine lv_iconst (v := 0) hx hb dX10_heldBy_0 (by decide) ?_
  refine lv_istore_n (lv' := [(2, .int (0 : Int32)), (0, .ref (gB Γ + r0)), (1, .int a1)]) hx hb dX10_heldBy_1 rfl hl (by decide) rfl (fun ls hl => ?_)
  refine lv_iconst (v := 0) hx hb dX10_heldBy_2 (by decide) ?_
  refine lv_istore_n (lv' := [(3, .int (0 : Int32)), (2, .int (0 : Int32)), (0, .ref (gB Γ + r0)), (1, .int a1)]) hx hb dX10_heldBy_3 rfl hl (by decide) rfl (fun ls hl => ?_)
  exact bk_X10_heldBy_4 C0 hr0 gFuel _ _ _ _ _ _ _ h hP hS (lv_sub hl [2, 3, 1, 0] rfl)
set_option maxHeartbeats 2000000 in
set_option maxRecDepth 20000 in
theorem m_X10_apart (l : Launch) (Γ : gE)   (a0 : Int32) (a1 : Int32) (g : gG) (z : Int32 × gG) (h : f_X10_apart a0 a1 g = some z) : gMi l yX10_apart cX10_apart 2 (some .int) 0 0 Γ [.int a0, .int a1] g z := by
  unfold f_X10_apart at h
  refine gStart (own := RX10) (by decide +kernel) rfl (Nat.le_of_ble_eq_true rfl) ?_
  intro p e s m below meth c C0 ls hl hP
  have hS : va_S (gA Γ) s.heap s.heap [] := va_S.rf
  have hl : lv_has ls 2 [(0, .int a0), (1, .int a1)] := hl
  obtain ⟨hx, hb, hml, hr, hown, hts, hK, hlk, hX⟩ := id C0
  refine lv_iload_n hx hb dX10_apart_0 rfl (lv_at hl 0 rfl) ?_
  refine lv_iload_n hx hb dX10_apart_1 rfl (lv_at hl 1 rfl) ?_
  refine lv_icmp_ge (tgt := 11) hx hb dX10_apart_2 (by decide) (fun c1 => ?_) (fun c1 => ?_)
  · replace h := gpos c1 h
    refine lv_iload_n hx hb dX10_apart_11 rfl (lv_at hl 0 rfl) ?_
    refine lv_iload_n hx hb dX10_apart_12 rfl (lv_at hl 1 rfl) ?_
    refine lv_isub hx hb dX10_apart_13 ?_
    exact giret hx hb hr hlk hP hS dX10_apart_14 h
  · replace h := gneg c1 h
    refine lv_iload_n hx hb dX10_apart_5 rfl (lv_at hl 1 rfl) ?_
    refine lv_iload_n hx hb dX10_apart_6 rfl (lv_at hl 0 rfl) ?_
    refine lv_isub hx hb dX10_apart_7 ?_
    refine lv_goto (tgt := 14) hx hb dX10_apart_8 (by decide) ?_
    exact giret hx hb hr hlk hP hS dX10_apart_14 h
set_option maxHeartbeats 2000000 in
set_option maxRecDepth 20000 in
theorem bs_X10_minutes_37 {p : Program} {l : Launch} {e : Env} {s : State} {m : MethodId} {args : Array Value} {below : List Frame} {meth : Method} {c : Code} {Γ : gE} (C0 : gCx p s m args meth c Γ RX10 cX10_minutes 5 (some .int)) {r0 nr0 : Nat} (hr0 : isI r0 nr0) {z : Int32 × gG}  {l2 : Int32} {l3 : Int32} {s0 : Int32} {g : gG} {H : Heap} {locs : List Loc} {ls : Array Slot}  (h : fs_X10_minutes_37 r0 nr0 l2 l3 s0 g = some z) (hP : va_P (gD Γ) gcls (lay Γ g) H) (hS : va_S (gA Γ) s.heap H locs) (hl : lv_has ls 5 [(0, .ref (gB Γ + r0)), (2, .int l2), (3, .int l3)]) : W p l e (gRm 1 21) s m args below meth c H locs 0 0 (MQ below (gQi Γ z) args s 0 0 (gA Γ)) (F0 m 37 ls [.int s0]) := by
  unfold fs_X10_minutes_37 at h
  obtain ⟨hx, hb, hml, hr, hown, hts, hK, hlk, hX⟩ := id C0
  refine lv_istore (lv' := [(4, .int s0), (0, .ref (gB Γ + r0)), (2, .int l2), (3, .int l3)]) hx hb dX10_minutes_37 hl (by decide) rfl (fun ls hl => ?_)
  refine lv_iconst (v := 1) hx hb dX10_minutes_39 (by decide) ?_
  refine lv_iload_n hx hb dX10_minutes_40 rfl (lv_at hl 3 rfl) ?_
  refine lv_aload_n hx hb dX10_minutes_41 rfl (lv_at hl 1 rfl) ?_
  refine lv_iconst (v := 2) hx hb dX10_minutes_42 (by decide) ?_
  refine lv_iconst (v := 2) hx hb dX10_minutes_43 (by decide) ?_
  refine lv_iload_n hx hb dX10_minutes_44 rfl (lv_at hl 2 rfl) ?_
  refine lv_imul hx hb dX10_minutes_45 ?_
  refine lv_iadd hx hb dX10_minutes_46 ?_
  refine gIld hx hb hK hP hr0 dX10_minutes_47 h (fun h => ?_)
  refine gCSi (rest := [.int (1 : Int32)]) C0 cal_X10_apart wl_X10_90 wt_X10_apart ⟨Nat.le_of_ble_eq_true rfl, Nat.le_of_ble_eq_true rfl⟩ ⟨Nat.le_of_ble_eq_true rfl, Nat.le_of_ble_eq_true rfl⟩ [.int l3, .int (g.1 r0 ((2 : Int32) + ((2 : Int32) * l2)).toNatClampNeg)] rfl (Nat.le_of_ble_eq_true rfl) hP hS hl.1 dX10_minutes_48 h (fun u hu => m_X10_apart l Γ l3 (g.1 r0 ((2 : Int32) + ((2 : Int32) * l2)).toNatClampNeg) g u hu) (fun u1 H locs h hP hS => ?_) rfl
  refine lv_iadd hx hb dX10_minutes_51 ?_
  refine lv_iload hx hb dX10_minutes_52 (lv_at hl 0 rfl) ?_
  refine lv_aload_n hx hb dX10_minutes_54 rfl (lv_at hl 1 rfl) ?_
  refine lv_iconst (v := 2) hx hb dX10_minutes_55 (by decide) ?_
  refine lv_iconst (v := 2) hx hb dX10_minutes_56 (by decide) ?_
  refine lv_iload_n hx hb dX10_minutes_57 rfl (lv_at hl 2 rfl) ?_
  refine lv_imul hx hb dX10_minutes_58 ?_
  refine lv_iadd hx hb dX10_minutes_59 ?_
  refine lv_iconst (v := 1) hx hb dX10_minutes_60 (by decide) ?_
  refine lv_iadd hx hb dX10_minutes_61 ?_
  refine gIld hx hb hK hP hr0 dX10_minutes_62 h (fun h => ?_)
  refine gCSi (rest := [.int ((1 : Int32) + u1.1)]) C0 cal_X10_apart wl_X10_90 wt_X10_apart ⟨Nat.le_of_ble_eq_true rfl, Nat.le_of_ble_eq_true rfl⟩ ⟨Nat.le_of_ble_eq_true rfl, Nat.le_of_ble_eq_true rfl⟩ [.int s0, .int (u1.2.1 r0 (((2 : Int32) + ((2 : Int32) * l2)) + (1 : Int32)).toNatClampNeg)] rfl (Nat.le_of_ble_eq_true rfl) hP hS hl.1 dX10_minutes_63 h (fun u hu => m_X10_apart l Γ s0 (u1.2.1 r0 (((2 : Int32) + ((2 : Int32) * l2)) + (1 : Int32)).toNatClampNeg) u1.2 u hu) (fun u2 H locs h hP hS => ?_) rfl
  refine lv_iadd hx hb dX10_minutes_66 ?_
  exact giret hx hb hr hlk hP hS dX10_minutes_67 h
set_option maxHeartbeats 2000000 in
set_option maxRecDepth 20000 in
theorem bs_X10_minutes_17 {p : Program} {l : Launch} {e : Env} {s : State} {m : MethodId} {args : Array Value} {below : List Frame} {meth : Method} {c : Code} {Γ : gE} (C0 : gCx p s m args meth c Γ RX10 cX10_minutes 5 (some .int)) {r0 nr0 : Nat} (hr0 : isI r0 nr0) {z : Int32 × gG}  {l1 : Int32} {l2 : Int32} {s0 : Int32} {g : gG} {H : Heap} {locs : List Loc} {ls : Array Slot}  (h : fs_X10_minutes_17 r0 nr0 l1 l2 s0 g = some z) (hP : va_P (gD Γ) gcls (lay Γ g) H) (hS : va_S (gA Γ) s.heap H locs) (hl : lv_has ls 5 [(0, .ref (gB Γ + r0)), (1, .int l1), (2, .int l2)]) : W p l e (gRm 1 21) s m args below meth c H locs 0 0 (MQ below (gQi Γ z) args s 0 0 (gA Γ)) (F0 m 17 ls [.int s0]) := by
  unfold fs_X10_minutes_17 at h
  obtain ⟨hx, hb, hml, hr, hown, hts, hK, hlk, hX⟩ := id C0
  refine lv_istore_n (lv' := [(3, .int s0), (0, .ref (gB Γ + r0)), (1, .int l1), (2, .int l2)]) hx hb dX10_minutes_17 rfl hl (by decide) rfl (fun ls hl => ?_)
  refine lv_iload_n hx hb dX10_minutes_18 rfl (lv_at hl 2 rfl) ?_
  refine lv_bipush (v := -9) hx hb dX10_minutes_19 (by decide) ?_
  refine lv_icmp_ne (tgt := 28) hx hb dX10_minutes_21 (by decide) (fun c1 => ?_) (fun c1 => ?_)
  · replace h := gneg c1 h
    refine lv_aload_n hx hb dX10_minutes_28 rfl (lv_at hl 1 rfl) ?_
    refine lv_iconst (v := 2) hx hb dX10_minutes_29 (by decide) ?_
    refine lv_iconst (v := 2) hx hb dX10_minutes_30 (by decide) ?_
    refine lv_iload_n hx hb dX10_minutes_31 rfl (lv_at hl 2 rfl) ?_
    refine lv_imul hx hb dX10_minutes_32 ?_
    refine lv_iadd hx hb dX10_minutes_33 ?_
    refine lv_iconst (v := 1) hx hb dX10_minutes_34 (by decide) ?_
    refine lv_iadd hx hb dX10_minutes_35 ?_
    refine gIld hx hb hK hP hr0 dX10_minutes_36 h (fun h => ?_)
    exact bs_X10_minutes_37 C0 hr0 h hP hS (lv_sub hl [1, 3, 0] rfl)
  · replace h := gpos c1 h
    refine lv_iconst (v := 0) hx hb dX10_minutes_24 (by decide) ?_
    refine lv_goto (tgt := 37) hx hb dX10_minutes_25 (by decide) ?_
    exact bs_X10_minutes_37 C0 hr0 h hP hS (lv_sub hl [1, 3, 0] rfl)
set_option maxHeartbeats 2000000 in
set_option maxRecDepth 20000 in
theorem m_X10_minutes (l : Launch) (Γ : gE) {r0 nr0 : Nat} (hr0 : isI r0 nr0) (a1 : Int32) (a2 : Int32) (g : gG) (z : Int32 × gG) (h : f_X10_minutes r0 nr0 a1 a2 g = some z) : gMi l yX10_minutes cX10_minutes 5 (some .int) 1 21 Γ [.ref (gB Γ + r0), .int a1, .int a2] g z := by
  unfold f_X10_minutes at h
  refine gStart (own := RX10) (by decide +kernel) rfl (Nat.le_of_ble_eq_true rfl) ?_
  intro p e s m below meth c C0 ls hl hP
  have hS : va_S (gA Γ) s.heap s.heap [] := va_S.rf
  have hl : lv_has ls 5 [(0, .ref (gB Γ + r0)), (1, .int a1), (2, .int a2)] := hl
  obtain ⟨hx, hb, hml, hr, hown, hts, hK, hlk, hX⟩ := id C0
  refine lv_iload_n hx hb dX10_minutes_0 rfl (lv_at hl 1 rfl) ?_
  refine lv_bipush (v := -9) hx hb dX10_minutes_1 (by decide) ?_
  refine lv_icmp_ne (tgt := 10) hx hb dX10_minutes_3 (by decide) (fun c1 => ?_) (fun c1 => ?_)
  · replace h := gneg c1 h
    refine lv_aload_n hx hb dX10_minutes_10 rfl (lv_at hl 0 rfl) ?_
    refine lv_iconst (v := 2) hx hb dX10_minutes_11 (by decide) ?_
    refine lv_iconst (v := 2) hx hb dX10_minutes_12 (by decide) ?_
    refine lv_iload_n hx hb dX10_minutes_13 rfl (lv_at hl 1 rfl) ?_
    refine lv_imul hx hb dX10_minutes_14 ?_
    refine lv_iadd hx hb dX10_minutes_15 ?_
    refine gIld hx hb hK hP hr0 dX10_minutes_16 h (fun h => ?_)
    exact bs_X10_minutes_17 C0 hr0 h hP hS (lv_sub hl [0, 1, 2] rfl)
  · replace h := gpos c1 h
    refine lv_iconst (v := 0) hx hb dX10_minutes_6 (by decide) ?_
    refine lv_goto (tgt := 17) hx hb dX10_minutes_7 (by decide) ?_
    exact bs_X10_minutes_17 C0 hr0 h hP hS (lv_sub hl [0, 1, 2] rfl)
set_option maxHeartbeats 2000000 in
set_option maxRecDepth 20000 in
theorem m_X10_canVisit (l : Launch) (Γ : gE) {r0 nr0 : Nat} (hr0 : isI r0 nr0) (a1 : Int32) (a2 : Int32) (g : gG) (z : Int32 × gG) (h : f_X10_canVisit r0 nr0 a1 a2 g = some z) : gMi l yX10_canVisit cX10_canVisit 3 (some .boolean) 2 43 Γ [.ref (gB Γ + r0), .int a1, .int a2] g z := by
  unfold f_X10_canVisit at h
  refine gStart (own := RX10) (by decide +kernel) rfl (Nat.le_of_ble_eq_true rfl) ?_
  intro p e s m below meth c C0 ls hl hP
  have hS : va_S (gA Γ) s.heap s.heap [] := va_S.rf
  have hl : lv_has ls 3 [(0, .ref (gB Γ + r0)), (1, .int a1), (2, .int a2)] := hl
  obtain ⟨hx, hb, hml, hr, hown, hts, hK, hlk, hX⟩ := id C0
  refine lv_iload_n hx hb dX10_canVisit_0 rfl (lv_at hl 1 rfl) ?_
  refine lv_iload_n hx hb dX10_canVisit_1 rfl (lv_at hl 2 rfl) ?_
  refine gCSi (rest := []) C0 cal_X10_has wl_X10_65 wt_X10_has ⟨Nat.le_of_ble_eq_true rfl, Nat.le_of_ble_eq_true rfl⟩ ⟨Nat.le_of_ble_eq_true rfl, Nat.le_of_ble_eq_true rfl⟩ [.int a1, .int a2] rfl (Nat.le_of_ble_eq_true rfl) hP hS hl.1 dX10_canVisit_2 h (fun u hu => m_X10_has l Γ a1 a2 g u hu) (fun u1 H locs h hP hS => ?_) rfl
  refine lv_if_ne (tgt := 32) hx hb dX10_canVisit_5 (by decide) (fun c2 => ?_) (fun c2 => ?_)
  · replace h := gneg c2 h
    refine lv_iconst (v := 0) hx hb dX10_canVisit_32 (by decide) ?_
    exact gzret0 hx hb hr hlk hP hS rfl dX10_canVisit_33 h
  · replace h := gpos c2 h
    refine lv_iload_n hx hb dX10_canVisit_8 rfl (lv_at hl 1 rfl) ?_
    refine lv_aload_n hx hb dX10_canVisit_9 rfl (lv_at hl 0 rfl) ?_
    refine gCSi (rest := [.int a1]) C0 cal_X10_chest wl_X10_94 wt_X10_chest ⟨Nat.le_of_ble_eq_true rfl, Nat.le_of_ble_eq_true rfl⟩ ⟨Nat.le_of_ble_eq_true rfl, Nat.le_of_ble_eq_true rfl⟩ [.ref (gB Γ + r0)] rfl (Nat.le_of_ble_eq_true rfl) hP hS hl.1 dX10_canVisit_10 h (fun u hu => m_X10_chest l Γ hr0 u1.2 u hu) (fun u3 H locs h hP hS => ?_) rfl
    refine gCSi (rest := []) C0 cal_X10_has wl_X10_65 wt_X10_has ⟨Nat.le_of_ble_eq_true rfl, Nat.le_of_ble_eq_true rfl⟩ ⟨Nat.le_of_ble_eq_true rfl, Nat.le_of_ble_eq_true rfl⟩ [.int a1, .int u3.1] rfl (Nat.le_of_ble_eq_true rfl) hP hS hl.1 dX10_canVisit_13 h (fun u hu => m_X10_has l Γ a1 u3.1 u3.2 u hu) (fun u4 H locs h hP hS => ?_) rfl
    refine lv_if_ne (tgt := 32) hx hb dX10_canVisit_16 (by decide) (fun c5 => ?_) (fun c5 => ?_)
    · replace h := gneg c5 h
      refine lv_iconst (v := 0) hx hb dX10_canVisit_32 (by decide) ?_
      exact gzret0 hx hb hr hlk hP hS rfl dX10_canVisit_33 h
    · replace h := gpos c5 h
      refine lv_aload_n hx hb dX10_canVisit_19 rfl (lv_at hl 0 rfl) ?_
      refine lv_iload_n hx hb dX10_canVisit_20 rfl (lv_at hl 2 rfl) ?_
      refine lv_iload_n hx hb dX10_canVisit_21 rfl (lv_at hl 1 rfl) ?_
      refine gCSi (rest := []) C0 cal_X10_isHeld wl_X10_86 wt_X10_isHeld ⟨Nat.le_of_ble_eq_true rfl, Nat.le_of_ble_eq_true rfl⟩ ⟨Nat.le_of_ble_eq_true rfl, Nat.le_of_ble_eq_true rfl⟩ [.ref (gB Γ + r0), .int a2, .int a1] rfl (Nat.le_of_ble_eq_true rfl) hP hS hl.1 dX10_canVisit_22 h (fun u hu => m_X10_isHeld l Γ hr0 a2 a1 u4.2 u hu) (fun u6 H locs h hP hS => ?_) rfl
      refine lv_if_eq (tgt := 32) hx hb dX10_canVisit_25 (by decide) (fun c7 => ?_) (fun c7 => ?_)
      · replace h := gpos c7 h
        refine lv_iconst (v := 0) hx hb dX10_canVisit_32 (by decide) ?_
        exact gzret0 hx hb hr hlk hP hS rfl dX10_canVisit_33 h
      · replace h := gneg c7 h
        refine lv_iconst (v := 1) hx hb dX10_canVisit_28 (by decide) ?_
        refine lv_goto (tgt := 33) hx hb dX10_canVisit_29 (by decide) ?_
        exact gzret0 hx hb hr hlk hP hS rfl dX10_canVisit_33 h
set_option maxHeartbeats 2000000 in
set_option maxRecDepth 20000 in
theorem bs_X10_openOf_28 {p : Program} {l : Launch} {e : Env} {s : State} {m : MethodId} {args : Array Value} {below : List Frame} {meth : Method} {c : Code} {Γ : gE} (C0 : gCx p s m args meth c Γ RX10 cX10_openOf 4 (some .int)) {r0 nr0 : Nat} (hr0 : isI r0 nr0) {z : Int32 × gG} {F4 : Int32 → Int32 → Int32 → gG → Option (Int32 × gG)} {l1 : Int32} {l3 : Int32} {s0 : Int32} {s1 : Int32} {g : gG} {H : Heap} {locs : List Loc} {ls : Array Slot} (hF4 : ∀ (l1 : Int32) (l2 : Int32) (l3 : Int32) (g : gG) (H : Heap) (locs : List Loc) (ls : Array Slot), F4 l1 l2 l3 g = some z → va_P (gD Γ) gcls (lay Γ g) H → va_S (gA Γ) s.heap H locs → lv_has ls 4 [(0, .ref (gB Γ + r0)), (1, .int l1), (2, .int l2), (3, .int l3)] → W p l e (gRm 3 65) s m args below meth c H locs 0 0 (MQ below (gQi Γ z) args s 0 0 (gA Γ)) (F0 m 4 ls [])) (h : fs_X10_openOf_28 r0 nr0 F4 l1 l3 s0 s1 g = some z) (hP : va_P (gD Γ) gcls (lay Γ g) H) (hS : va_S (gA Γ) s.heap H locs) (hl : lv_has ls 4 [(0, .ref (gB Γ + r0)), (1, .int l1), (3, .int l3)]) : W p l e (gRm 3 65) s m args below meth c H locs 0 0 (MQ below (gQi Γ z) args s 0 0 (gA Γ)) (F0 m 28 ls [.int s1, .int s0]) := by
  unfold fs_X10_openOf_28 at h
  obtain ⟨hx, hb, hml, hr, hown, hts, hK, hlk, hX⟩ := id C0
  refine lv_ior hx hb dX10_openOf_28 ?_
  refine lv_topi (fun x1 ex1 => ?_)
  replace h := gLetI ex1 h
  refine lv_istore_n (lv' := [(2, .int x1), (0, .ref (gB Γ + r0)), (1, .int l1), (3, .int l3)]) hx hb dX10_openOf_29 rfl hl (by decide) rfl (fun ls hl => ?_)
  obtain ⟨x2, ex2⟩ : ∃ y : Int32, y = l3 + (1 : Int32) := ⟨_, rfl⟩
  replace h := gLetI ex2 h
  refine lv_iinc (v := x2) (lv' := [(3, .int x2), (2, .int x1), (0, .ref (gB Γ + r0)), (1, .int l1)]) hx hb dX10_openOf_30 hl (k := 3) rfl (by rw [ex2]; rfl) (by decide) rfl (fun ls hl => ?_)
  refine lv_goto (tgt := 4) hx hb dX10_openOf_33 (by decide) ?_
  exact hF4 _ _ _ _ _ _ _ h hP hS (lv_sub hl [2, 3, 1, 0] rfl)
set_option maxHeartbeats 2000000 in
set_option maxRecDepth 20000 in
theorem bs_X10_openOf_4 {p : Program} {l : Launch} {e : Env} {s : State} {m : MethodId} {args : Array Value} {below : List Frame} {meth : Method} {c : Code} {Γ : gE} (C0 : gCx p s m args meth c Γ RX10 cX10_openOf 4 (some .int)) {r0 nr0 : Nat} (hr0 : isI r0 nr0) {z : Int32 × gG} {F4 : Int32 → Int32 → Int32 → gG → Option (Int32 × gG)} {l1 : Int32} {l2 : Int32} {l3 : Int32} {g : gG} {H : Heap} {locs : List Loc} {ls : Array Slot} (hF4 : ∀ (l1 : Int32) (l2 : Int32) (l3 : Int32) (g : gG) (H : Heap) (locs : List Loc) (ls : Array Slot), F4 l1 l2 l3 g = some z → va_P (gD Γ) gcls (lay Γ g) H → va_S (gA Γ) s.heap H locs → lv_has ls 4 [(0, .ref (gB Γ + r0)), (1, .int l1), (2, .int l2), (3, .int l3)] → W p l e (gRm 3 65) s m args below meth c H locs 0 0 (MQ below (gQi Γ z) args s 0 0 (gA Γ)) (F0 m 4 ls [])) (h : fs_X10_openOf_4 r0 nr0 F4 l1 l2 l3 g = some z) (hP : va_P (gD Γ) gcls (lay Γ g) H) (hS : va_S (gA Γ) s.heap H locs) (hl : lv_has ls 4 [(0, .ref (gB Γ + r0)), (1, .int l1), (2, .int l2), (3, .int l3)]) : W p l e (gRm 3 65) s m args below meth c H locs 0 0 (MQ below (gQi Γ z) args s 0 0 (gA Γ)) (F0 m 4 ls []) := by
  unfold fs_X10_openOf_4 at h
  obtain ⟨hx, hb, hml, hr, hown, hts, hK, hlk, hX⟩ := id C0
  refine lv_iload_n hx hb dX10_openOf_4 rfl (lv_at hl 3 rfl) ?_
  refine lv_aload_n hx hb dX10_openOf_5 rfl (lv_at hl 0 rfl) ?_
  refine lv_iconst (v := 0) hx hb dX10_openOf_6 (by decide) ?_
  refine gIld hx hb hK hP hr0 dX10_openOf_7 h (fun h => ?_)
  refine lv_icmp_ge (tgt := 36) hx hb dX10_openOf_8 (by decide) (fun c1 => ?_) (fun c1 => ?_)
  · replace h := gpos c1 h
    refine lv_iload_n hx hb dX10_openOf_36 rfl (lv_at hl 2 rfl) ?_
    exact giret hx hb hr hlk hP hS dX10_openOf_37 h
  · replace h := gneg c1 h
    refine lv_iload_n hx hb dX10_openOf_11 rfl (lv_at hl 2 rfl) ?_
    refine lv_aload_n hx hb dX10_openOf_12 rfl (lv_at hl 0 rfl) ?_
    refine lv_iload_n hx hb dX10_openOf_13 rfl (lv_at hl 1 rfl) ?_
    refine lv_iload_n hx hb dX10_openOf_14 rfl (lv_at hl 3 rfl) ?_
    refine gCSi (rest := [.int l2]) C0 cal_X10_canVisit wl_X10_98 wt_X10_canVisit ⟨Nat.le_of_ble_eq_true rfl, Nat.le_of_ble_eq_true rfl⟩ ⟨Nat.le_of_ble_eq_true rfl, Nat.le_of_ble_eq_true rfl⟩ [.ref (gB Γ + r0), .int l1, .int l3] rfl (Nat.le_of_ble_eq_true rfl) hP hS hl.1 dX10_openOf_15 h (fun u hu => m_X10_canVisit l Γ hr0 l1 l3 g u hu) (fun u2 H locs h hP hS => ?_) rfl
    refine lv_if_eq (tgt := 27) hx hb dX10_openOf_18 (by decide) (fun c3 => ?_) (fun c3 => ?_)
    · replace h := gpos c3 h
      refine lv_iconst (v := 0) hx hb dX10_openOf_27 (by decide) ?_
      exact bs_X10_openOf_28 C0 hr0 hF4 h hP hS (lv_sub hl [0, 1, 3] rfl)
    · replace h := gneg c3 h
      refine lv_iconst (v := 1) hx hb dX10_openOf_21 (by decide) ?_
      refine lv_iload_n hx hb dX10_openOf_22 rfl (lv_at hl 3 rfl) ?_
      refine lv_ishl hx hb dX10_openOf_23 ?_
      refine lv_goto (tgt := 28) hx hb dX10_openOf_24 (by decide) ?_
      exact bs_X10_openOf_28 C0 hr0 hF4 h hP hS (lv_sub hl [0, 1, 3] rfl)
set_option maxHeartbeats 2000000 in
set_option maxRecDepth 20000 in
theorem bk_X10_openOf_4 {p : Program} {l : Launch} {e : Env} {s : State} {m : MethodId} {args : Array Value} {below : List Frame} {meth : Method} {c : Code} {Γ : gE} (C0 : gCx p s m args meth c Γ RX10 cX10_openOf 4 (some .int)) {r0 nr0 : Nat} (hr0 : isI r0 nr0) {z : Int32 × gG}   : ∀ (n : Nat) (l1 : Int32) (l2 : Int32) (l3 : Int32) (g : gG) (H : Heap) (locs : List Loc) (ls : Array Slot), fb_X10_openOf_4 r0 nr0 n l1 l2 l3 g = some z → va_P (gD Γ) gcls (lay Γ g) H → va_S (gA Γ) s.heap H locs → lv_has ls 4 [(0, .ref (gB Γ + r0)), (1, .int l1), (2, .int l2), (3, .int l3)] → W p l e (gRm 3 65) s m args below meth c H locs 0 0 (MQ below (gQi Γ z) args s 0 0 (gA Γ)) (F0 m 4 ls []) := by
  intro n
  induction n with
  | zero => intro l1 l2 l3 g H locs ls h hP hS hl; cases h
  | succ n ih => intro l1 l2 l3 g H locs ls h hP hS hl; exact bs_X10_openOf_4 C0 hr0 ih h hP hS hl
set_option maxHeartbeats 2000000 in
set_option maxRecDepth 20000 in
theorem m_X10_openOf (l : Launch) (Γ : gE) {r0 nr0 : Nat} (hr0 : isI r0 nr0) (a1 : Int32) (g : gG) (z : Int32 × gG) (h : f_X10_openOf r0 nr0 a1 g = some z) : gMi l yX10_openOf cX10_openOf 4 (some .int) 3 65 Γ [.ref (gB Γ + r0), .int a1] g z := by
  unfold f_X10_openOf at h
  refine gStart (own := RX10) (by decide +kernel) rfl (Nat.le_of_ble_eq_true rfl) ?_
  intro p e s m below meth c C0 ls hl hP
  have hS : va_S (gA Γ) s.heap s.heap [] := va_S.rf
  have hl : lv_has ls 4 [(0, .ref (gB Γ + r0)), (1, .int a1)] := hl
  obtain ⟨hx, hb, hml, hr, hown, hts, hK, hlk, hX⟩ := id C0
  refine lv_iconst (v := 0) hx hb dX10_openOf_0 (by decide) ?_
  refine lv_istore_n (lv' := [(2, .int (0 : Int32)), (0, .ref (gB Γ + r0)), (1, .int a1)]) hx hb dX10_openOf_1 rfl hl (by decide) rfl (fun ls hl => ?_)
  refine lv_iconst (v := 0) hx hb dX10_openOf_2 (by decide) ?_
  refine lv_istore_n (lv' := [(3, .int (0 : Int32)), (2, .int (0 : Int32)), (0, .ref (gB Γ + r0)), (1, .int a1)]) hx hb dX10_openOf_3 rfl hl (by decide) rfl (fun ls hl => ?_)
  exact bk_X10_openOf_4 C0 hr0 gFuel _ _ _ _ _ _ _ h hP hS (lv_sub hl [2, 3, 1, 0] rfl)
set_option maxHeartbeats 2000000 in
set_option maxRecDepth 20000 in
theorem bs_X10_makeEasy_2 {p : Program} {l : Launch} {e : Env} {s : State} {m : MethodId} {args : Array Value} {below : List Frame} {meth : Method} {c : Code} {Γ : gE} (C0 : gCx p s m args meth c Γ RX10 cX10_makeEasy 3 none) {r0 nr0 : Nat} (hr0 : isI r0 nr0) {z : Unit × gG} {F2 : Int32 → Int32 → gG → Option (Unit × gG)} {l1 : Int32} {l2 : Int32} {g : gG} {H : Heap} {locs : List Loc} {ls : Array Slot} (hF2 : ∀ (l1 : Int32) (l2 : Int32) (g : gG) (H : Heap) (locs : List Loc) (ls : Array Slot), F2 l1 l2 g = some z → va_P (gD Γ) gcls (lay Γ g) H → va_S (gA Γ) s.heap H locs → lv_has ls 3 [(0, .ref (gB Γ + r0)), (1, .int l1), (2, .int l2)] → W p l e (gRm 0 0) s m args below meth c H locs 0 0 (MQ below (gQv Γ z) args s 0 0 (gA Γ)) (F0 m 2 ls [])) (h : fs_X10_makeEasy_2 r0 nr0 F2 l1 l2 g = some z) (hP : va_P (gD Γ) gcls (lay Γ g) H) (hS : va_S (gA Γ) s.heap H locs) (hl : lv_has ls 3 [(0, .ref (gB Γ + r0)), (1, .int l1), (2, .int l2)]) : W p l e (gRm 0 0) s m args below meth c H locs 0 0 (MQ below (gQv Γ z) args s 0 0 (gA Γ)) (F0 m 2 ls []) := by
  unfold fs_X10_makeEasy_2 at h
  obtain ⟨hx, hb, hml, hr, hown, hts, hK, hlk, hX⟩ := id C0
  refine lv_iload_n hx hb dX10_makeEasy_2 rfl (lv_at hl 2 rfl) ?_
  refine lv_bipush (v := 32) hx hb dX10_makeEasy_3 (by decide) ?_
  refine lv_icmp_ge (tgt := 26) hx hb dX10_makeEasy_5 (by decide) (fun c1 => ?_) (fun c1 => ?_)
  · replace h := gpos c1 h
    exact gvret hx hb hr hlk hP hS dX10_makeEasy_26 h
  · replace h := gneg c1 h
    refine lv_aload_n hx hb dX10_makeEasy_8 rfl (lv_at hl 0 rfl) ?_
    refine lv_bipush (v := 22) hx hb dX10_makeEasy_9 (by decide) ?_
    refine lv_bipush (v := 32) hx hb dX10_makeEasy_11 (by decide) ?_
    refine lv_iload_n hx hb dX10_makeEasy_13 rfl (lv_at hl 1 rfl) ?_
    refine lv_imul hx hb dX10_makeEasy_14 ?_
    refine lv_iadd hx hb dX10_makeEasy_15 ?_
    refine lv_iload_n hx hb dX10_makeEasy_16 rfl (lv_at hl 2 rfl) ?_
    refine lv_iadd hx hb dX10_makeEasy_17 ?_
    refine lv_iconst (v := -1) hx hb dX10_makeEasy_18 (by decide) ?_
    refine gIst hx hb hK hP hS hr0 dX10_makeEasy_19 h (fun H locs g2 h hP hS => ?_)
    obtain ⟨x3, ex3⟩ : ∃ y : Int32, y = l2 + (1 : Int32) := ⟨_, rfl⟩
    replace h := gLetI ex3 h
    refine lv_iinc (v := x3) (lv' := [(2, .int x3), (0, .ref (gB Γ + r0)), (1, .int l1)]) hx hb dX10_makeEasy_20 hl (k := 2) rfl (by rw [ex3]; rfl) (by decide) rfl (fun ls hl => ?_)
    refine lv_goto (tgt := 2) hx hb dX10_makeEasy_23 (by decide) ?_
    exact hF2 _ _ _ _ _ _ h hP hS (lv_sub hl [1, 2, 0] rfl)
set_option maxHeartbeats 2000000 in
set_option maxRecDepth 20000 in
theorem bk_X10_makeEasy_2 {p : Program} {l : Launch} {e : Env} {s : State} {m : MethodId} {args : Array Value} {below : List Frame} {meth : Method} {c : Code} {Γ : gE} (C0 : gCx p s m args meth c Γ RX10 cX10_makeEasy 3 none) {r0 nr0 : Nat} (hr0 : isI r0 nr0) {z : Unit × gG}   : ∀ (n : Nat) (l1 : Int32) (l2 : Int32) (g : gG) (H : Heap) (locs : List Loc) (ls : Array Slot), fb_X10_makeEasy_2 r0 nr0 n l1 l2 g = some z → va_P (gD Γ) gcls (lay Γ g) H → va_S (gA Γ) s.heap H locs → lv_has ls 3 [(0, .ref (gB Γ + r0)), (1, .int l1), (2, .int l2)] → W p l e (gRm 0 0) s m args below meth c H locs 0 0 (MQ below (gQv Γ z) args s 0 0 (gA Γ)) (F0 m 2 ls []) := by
  intro n
  induction n with
  | zero => intro l1 l2 g H locs ls h hP hS hl; cases h
  | succ n ih => intro l1 l2 g H locs ls h hP hS hl; exact bs_X10_makeEasy_2 C0 hr0 ih h hP hS hl
set_option maxHeartbeats 2000000 in
set_option maxRecDepth 20000 in
theorem m_X10_makeEasy (l : Launch) (Γ : gE) {r0 nr0 : Nat} (hr0 : isI r0 nr0) (a1 : Int32) (g : gG) (z : Unit × gG) (h : f_X10_makeEasy r0 nr0 a1 g = some z) : gMv l yX10_makeEasy cX10_makeEasy 3 none 0 0 Γ [.ref (gB Γ + r0), .int a1] g z := by
  unfold f_X10_makeEasy at h
  refine gStart (own := RX10) (by decide +kernel) rfl (Nat.le_of_ble_eq_true rfl) ?_
  intro p e s m below meth c C0 ls hl hP
  have hS : va_S (gA Γ) s.heap s.heap [] := va_S.rf
  have hl : lv_has ls 3 [(0, .ref (gB Γ + r0)), (1, .int a1)] := hl
  obtain ⟨hx, hb, hml, hr, hown, hts, hK, hlk, hX⟩ := id C0
  refine lv_iconst (v := 0) hx hb dX10_makeEasy_0 (by decide) ?_
  refine lv_istore_n (lv' := [(2, .int (0 : Int32)), (0, .ref (gB Γ + r0)), (1, .int a1)]) hx hb dX10_makeEasy_1 rfl hl (by decide) rfl (fun ls hl => ?_)
  exact bk_X10_makeEasy_2 C0 hr0 gFuel _ _ _ _ _ _ h hP hS (lv_sub hl [1, 2, 0] rfl)
set_option maxHeartbeats 2000000 in
set_option maxRecDepth 20000 in
theorem m_X10_cell (l : Launch) (Γ : gE)   (a0 : Int32) (a1 : Int32) (g : gG) (z : Int32 × gG) (h : f_X10_cell a0 a1 g = some z) : gMi l yX10_cell cX10_cell 2 (some .int) 0 0 Γ [.int a0, .int a1] g z := by
  unfold f_X10_cell at h
  refine gStart (own := RX10) (by decide +kernel) rfl (Nat.le_of_ble_eq_true rfl) ?_
  intro p e s m below meth c C0 ls hl hP
  have hS : va_S (gA Γ) s.heap s.heap [] := va_S.rf
  have hl : lv_has ls 2 [(0, .int a0), (1, .int a1)] := hl
  obtain ⟨hx, hb, hml, hr, hown, hts, hK, hlk, hX⟩ := id C0
  refine lv_sipush (v := 342) hx hb dX10_cell_0 (by decide) ?_
  refine lv_bipush (v := 13) hx hb dX10_cell_3 (by decide) ?_
  refine lv_iload_n hx hb dX10_cell_5 rfl (lv_at hl 0 rfl) ?_
  refine lv_imul hx hb dX10_cell_6 ?_
  refine lv_iadd hx hb dX10_cell_7 ?_
  refine lv_iload_n hx hb dX10_cell_8 rfl (lv_at hl 1 rfl) ?_
  refine lv_iadd hx hb dX10_cell_9 ?_
  exact giret hx hb hr hlk hP hS dX10_cell_10 h
set_option maxHeartbeats 2000000 in
set_option maxRecDepth 20000 in
theorem bs_X10_visited_4 {p : Program} {l : Launch} {e : Env} {s : State} {m : MethodId} {args : Array Value} {below : List Frame} {meth : Method} {c : Code} {Γ : gE} (C0 : gCx p s m args meth c Γ RX10 cX10_visited 4 (some .int)) {r0 nr0 : Nat} (hr0 : isI r0 nr0) {z : Int32 × gG} {F4 : Int32 → Int32 → Int32 → gG → Option (Int32 × gG)} {l1 : Int32} {l2 : Int32} {l3 : Int32} {g : gG} {H : Heap} {locs : List Loc} {ls : Array Slot} (hF4 : ∀ (l1 : Int32) (l2 : Int32) (l3 : Int32) (g : gG) (H : Heap) (locs : List Loc) (ls : Array Slot), F4 l1 l2 l3 g = some z → va_P (gD Γ) gcls (lay Γ g) H → va_S (gA Γ) s.heap H locs → lv_has ls 4 [(0, .ref (gB Γ + r0)), (1, .int l1), (2, .int l2), (3, .int l3)] → W p l e (gRm 1 21) s m args below meth c H locs 0 0 (MQ below (gQi Γ z) args s 0 0 (gA Γ)) (F0 m 4 ls [])) (h : fs_X10_visited_4 r0 nr0 F4 l1 l2 l3 g = some z) (hP : va_P (gD Γ) gcls (lay Γ g) H) (hS : va_S (gA Γ) s.heap H locs) (hl : lv_has ls 4 [(0, .ref (gB Γ + r0)), (1, .int l1), (2, .int l2), (3, .int l3)]) : W p l e (gRm 1 21) s m args below meth c H locs 0 0 (MQ below (gQi Γ z) args s 0 0 (gA Γ)) (F0 m 4 ls []) := by
  unfold fs_X10_visited_4 at h
  obtain ⟨hx, hb, hml, hr, hown, hts, hK, hlk, hX⟩ := id C0
  refine lv_iload_n hx hb dX10_visited_4 rfl (lv_at hl 3 rfl) ?_
  refine lv_aload_n hx hb dX10_visited_5 rfl (lv_at hl 0 rfl) ?_
  refine lv_iload_n hx hb dX10_visited_6 rfl (lv_at hl 1 rfl) ?_
  refine lv_iconst (v := 0) hx hb dX10_visited_7 (by decide) ?_
  refine gCSi (rest := [.ref (gB Γ + r0), .int l3]) C0 cal_X10_cell wl_X10_101 wt_X10_cell ⟨Nat.le_of_ble_eq_true rfl, Nat.le_of_ble_eq_true rfl⟩ ⟨Nat.le_of_ble_eq_true rfl, Nat.le_of_ble_eq_true rfl⟩ [.int l1, .int (0 : Int32)] rfl (Nat.le_of_ble_eq_true rfl) hP hS hl.1 dX10_visited_8 h (fun u hu => m_X10_cell l Γ l1 (0 : Int32) g u hu) (fun u1 H locs h hP hS => ?_) rfl
  refine gIld hx hb hK hP hr0 dX10_visited_11 h (fun h => ?_)
  refine lv_icmp_ge (tgt := 35) hx hb dX10_visited_12 (by decide) (fun c2 => ?_) (fun c2 => ?_)
  · replace h := gpos c2 h
    refine lv_iload_n hx hb dX10_visited_35 rfl (lv_at hl 2 rfl) ?_
    exact giret hx hb hr hlk hP hS dX10_visited_36 h
  · replace h := gneg c2 h
    refine lv_iload_n hx hb dX10_visited_15 rfl (lv_at hl 2 rfl) ?_
    refine lv_iconst (v := 1) hx hb dX10_visited_16 (by decide) ?_
    refine lv_aload_n hx hb dX10_visited_17 rfl (lv_at hl 0 rfl) ?_
    refine lv_iload_n hx hb dX10_visited_18 rfl (lv_at hl 1 rfl) ?_
    refine lv_iconst (v := 3) hx hb dX10_visited_19 (by decide) ?_
    refine lv_iload_n hx hb dX10_visited_20 rfl (lv_at hl 3 rfl) ?_
    refine lv_iadd hx hb dX10_visited_21 ?_
    refine gCSi (rest := [.ref (gB Γ + r0), .int (1 : Int32), .int l2]) C0 cal_X10_cell wl_X10_101 wt_X10_cell ⟨Nat.le_of_ble_eq_true rfl, Nat.le_of_ble_eq_true rfl⟩ ⟨Nat.le_of_ble_eq_true rfl, Nat.le_of_ble_eq_true rfl⟩ [.int l1, .int ((3 : Int32) + l3)] rfl (Nat.le_of_ble_eq_true rfl) hP hS hl.1 dX10_visited_22 h (fun u hu => m_X10_cell l Γ l1 ((3 : Int32) + l3) u1.2 u hu) (fun u3 H locs h hP hS => ?_) rfl
    refine gIld hx hb hK hP hr0 dX10_visited_25 h (fun h => ?_)
    refine lv_ishl hx hb dX10_visited_26 ?_
    refine lv_ior hx hb dX10_visited_27 ?_
    refine lv_topi (fun x4 ex4 => ?_)
    replace h := gLetI ex4 h
    refine lv_istore_n (lv' := [(2, .int x4), (0, .ref (gB Γ + r0)), (1, .int l1), (3, .int l3)]) hx hb dX10_visited_28 rfl hl (by decide) rfl (fun ls hl => ?_)
    obtain ⟨x5, ex5⟩ : ∃ y : Int32, y = l3 + (1 : Int32) := ⟨_, rfl⟩
    replace h := gLetI ex5 h
    refine lv_iinc (v := x5) (lv' := [(3, .int x5), (2, .int x4), (0, .ref (gB Γ + r0)), (1, .int l1)]) hx hb dX10_visited_29 hl (k := 3) rfl (by rw [ex5]; rfl) (by decide) rfl (fun ls hl => ?_)
    refine lv_goto (tgt := 4) hx hb dX10_visited_32 (by decide) ?_
    exact hF4 _ _ _ _ _ _ _ h hP hS (lv_sub hl [2, 3, 1, 0] rfl)
set_option maxHeartbeats 2000000 in
set_option maxRecDepth 20000 in
theorem bk_X10_visited_4 {p : Program} {l : Launch} {e : Env} {s : State} {m : MethodId} {args : Array Value} {below : List Frame} {meth : Method} {c : Code} {Γ : gE} (C0 : gCx p s m args meth c Γ RX10 cX10_visited 4 (some .int)) {r0 nr0 : Nat} (hr0 : isI r0 nr0) {z : Int32 × gG}   : ∀ (n : Nat) (l1 : Int32) (l2 : Int32) (l3 : Int32) (g : gG) (H : Heap) (locs : List Loc) (ls : Array Slot), fb_X10_visited_4 r0 nr0 n l1 l2 l3 g = some z → va_P (gD Γ) gcls (lay Γ g) H → va_S (gA Γ) s.heap H locs → lv_has ls 4 [(0, .ref (gB Γ + r0)), (1, .int l1), (2, .int l2), (3, .int l3)] → W p l e (gRm 1 21) s m args below meth c H locs 0 0 (MQ below (gQi Γ z) args s 0 0 (gA Γ)) (F0 m 4 ls []) := by
  intro n
  induction n with
  | zero => intro l1 l2 l3 g H locs ls h hP hS hl; cases h
  | succ n ih => intro l1 l2 l3 g H locs ls h hP hS hl; exact bs_X10_visited_4 C0 hr0 ih h hP hS hl
set_option maxHeartbeats 2000000 in
set_option maxRecDepth 20000 in
theorem m_X10_visited (l : Launch) (Γ : gE) {r0 nr0 : Nat} (hr0 : isI r0 nr0) (a1 : Int32) (g : gG) (z : Int32 × gG) (h : f_X10_visited r0 nr0 a1 g = some z) : gMi l yX10_visited cX10_visited 4 (some .int) 1 21 Γ [.ref (gB Γ + r0), .int a1] g z := by
  unfold f_X10_visited at h
  refine gStart (own := RX10) (by decide +kernel) rfl (Nat.le_of_ble_eq_true rfl) ?_
  intro p e s m below meth c C0 ls hl hP
  have hS : va_S (gA Γ) s.heap s.heap [] := va_S.rf
  have hl : lv_has ls 4 [(0, .ref (gB Γ + r0)), (1, .int a1)] := hl
  obtain ⟨hx, hb, hml, hr, hown, hts, hK, hlk, hX⟩ := id C0
  refine lv_iconst (v := 0) hx hb dX10_visited_0 (by decide) ?_
  refine lv_istore_n (lv' := [(2, .int (0 : Int32)), (0, .ref (gB Γ + r0)), (1, .int a1)]) hx hb dX10_visited_1 rfl hl (by decide) rfl (fun ls hl => ?_)
  refine lv_iconst (v := 0) hx hb dX10_visited_2 (by decide) ?_
  refine lv_istore_n (lv' := [(3, .int (0 : Int32)), (2, .int (0 : Int32)), (0, .ref (gB Γ + r0)), (1, .int a1)]) hx hb dX10_visited_3 rfl hl (by decide) rfl (fun ls hl => ?_)
  exact bk_X10_visited_4 C0 hr0 gFuel _ _ _ _ _ _ _ h hP hS (lv_sub hl [2, 3, 1, 0] rfl)
set_option maxHeartbeats 2000000 in
set_option maxRecDepth 20000 in
theorem m_X10_last (l : Launch) (Γ : gE) {r0 nr0 : Nat} (hr0 : isI r0 nr0) (a1 : Int32) (g : gG) (z : Int32 × gG) (h : f_X10_last r0 nr0 a1 g = some z) : gMi l yX10_last cX10_last 3 (some .int) 1 21 Γ [.ref (gB Γ + r0), .int a1] g z := by
  unfold f_X10_last at h
  refine gStart (own := RX10) (by decide +kernel) rfl (Nat.le_of_ble_eq_true rfl) ?_
  intro p e s m below meth c C0 ls hl hP
  have hS : va_S (gA Γ) s.heap s.heap [] := va_S.rf
  have hl : lv_has ls 3 [(0, .ref (gB Γ + r0)), (1, .int a1)] := hl
  obtain ⟨hx, hb, hml, hr, hown, hts, hK, hlk, hX⟩ := id C0
  refine lv_aload_n hx hb dX10_last_0 rfl (lv_at hl 0 rfl) ?_
  refine lv_iload_n hx hb dX10_last_1 rfl (lv_at hl 1 rfl) ?_
  refine lv_iconst (v := 0) hx hb dX10_last_2 (by decide) ?_
  refine gCSi (rest := [.ref (gB Γ + r0)]) C0 cal_X10_cell wl_X10_101 wt_X10_cell ⟨Nat.le_of_ble_eq_true rfl, Nat.le_of_ble_eq_true rfl⟩ ⟨Nat.le_of_ble_eq_true rfl, Nat.le_of_ble_eq_true rfl⟩ [.int a1, .int (0 : Int32)] rfl (Nat.le_of_ble_eq_true rfl) hP hS hl.1 dX10_last_3 h (fun u hu => m_X10_cell l Γ a1 (0 : Int32) g u hu) (fun u1 H locs h hP hS => ?_) rfl
  refine gIld hx hb hK hP hr0 dX10_last_6 h (fun h => ?_)
  refine lv_topi (fun x2 ex2 => ?_)
  replace h := gLetI ex2 h
  refine lv_istore_n (lv' := [(2, .int x2), (0, .ref (gB Γ + r0)), (1, .int a1)]) hx hb dX10_last_7 rfl hl (by decide) rfl (fun ls hl => ?_)
  refine lv_iload_n hx hb dX10_last_8 rfl (lv_at hl 0 rfl) ?_
  refine lv_if_ne (tgt := 17) hx hb dX10_last_9 (by decide) (fun c3 => ?_) (fun c3 => ?_)
  · replace h := gneg c3 h
    refine lv_aload_n hx hb dX10_last_17 rfl (lv_at hl 1 rfl) ?_
    refine lv_iload_n hx hb dX10_last_18 rfl (lv_at hl 2 rfl) ?_
    refine lv_iconst (v := 3) hx hb dX10_last_19 (by decide) ?_
    refine lv_iload_n hx hb dX10_last_20 rfl (lv_at hl 0 rfl) ?_
    refine lv_iadd hx hb dX10_last_21 ?_
    refine lv_iconst (v := 1) hx hb dX10_last_22 (by decide) ?_
    refine lv_isub hx hb dX10_last_23 ?_
    refine gCSi (rest := [.ref (gB Γ + r0)]) C0 cal_X10_cell wl_X10_101 wt_X10_cell ⟨Nat.le_of_ble_eq_true rfl, Nat.le_of_ble_eq_true rfl⟩ ⟨Nat.le_of_ble_eq_true rfl, Nat.le_of_ble_eq_true rfl⟩ [.int a1, .int (((3 : Int32) + x2) - (1 : Int32))] rfl (Nat.le_of_ble_eq_true rfl) hP hS hl.1 dX10_last_24 h (fun u hu => m_X10_cell l Γ a1 (((3 : Int32) + x2) - (1 : Int32)) u1.2 u hu) (fun u4 H locs h hP hS => ?_) rfl
    refine gIld hx hb hK hP hr0 dX10_last_27 h (fun h => ?_)
    exact giret hx hb hr hlk hP hS dX10_last_28 h
  · replace h := gpos c3 h
    refine lv_bipush (v := -9) hx hb dX10_last_12 (by decide) ?_
    refine lv_goto (tgt := 28) hx hb dX10_last_14 (by decide) ?_
    exact giret hx hb hr hlk hP hS dX10_last_28 h
set_option maxHeartbeats 2000000 in
set_option maxRecDepth 20000 in
theorem m_X10_isThere (l : Launch) (Γ : gE) {r0 nr0 : Nat} (hr0 : isI r0 nr0) (a1 : Int32) (g : gG) (z : Int32 × gG) (h : f_X10_isThere r0 nr0 a1 g = some z) : gMi l yX10_isThere cX10_isThere 2 (some .boolean) 2 44 Γ [.ref (gB Γ + r0), .int a1] g z := by
  unfold f_X10_isThere at h
  refine gStart (own := RX10) (by decide +kernel) rfl (Nat.le_of_ble_eq_true rfl) ?_
  intro p e s m below meth c C0 ls hl hP
  have hS : va_S (gA Γ) s.heap s.heap [] := va_S.rf
  have hl : lv_has ls 2 [(0, .ref (gB Γ + r0)), (1, .int a1)] := hl
  obtain ⟨hx, hb, hml, hr, hown, hts, hK, hlk, hX⟩ := id C0
  refine lv_aload_n hx hb dX10_isThere_0 rfl (lv_at hl 0 rfl) ?_
  refine lv_iload_n hx hb dX10_isThere_1 rfl (lv_at hl 1 rfl) ?_
  refine gCSi (rest := []) C0 cal_X10_visited wl_X10_104 wt_X10_visited ⟨Nat.le_of_ble_eq_true rfl, Nat.le_of_ble_eq_true rfl⟩ ⟨Nat.le_of_ble_eq_true rfl, Nat.le_of_ble_eq_true rfl⟩ [.ref (gB Γ + r0), .int a1] rfl (Nat.le_of_ble_eq_true rfl) hP hS hl.1 dX10_isThere_2 h (fun u hu => m_X10_visited l Γ hr0 a1 g u hu) (fun u1 H locs h hP hS => ?_) rfl
  refine lv_aload_n hx hb dX10_isThere_5 rfl (lv_at hl 0 rfl) ?_
  refine gCSi (rest := [.int u1.1]) C0 cal_X10_chest wl_X10_94 wt_X10_chest ⟨Nat.le_of_ble_eq_true rfl, Nat.le_of_ble_eq_true rfl⟩ ⟨Nat.le_of_ble_eq_true rfl, Nat.le_of_ble_eq_true rfl⟩ [.ref (gB Γ + r0)] rfl (Nat.le_of_ble_eq_true rfl) hP hS hl.1 dX10_isThere_6 h (fun u hu => m_X10_chest l Γ hr0 u1.2 u hu) (fun u2 H locs h hP hS => ?_) rfl
  refine gCSi (rest := []) C0 cal_X10_has wl_X10_65 wt_X10_has ⟨Nat.le_of_ble_eq_true rfl, Nat.le_of_ble_eq_true rfl⟩ ⟨Nat.le_of_ble_eq_true rfl, Nat.le_of_ble_eq_true rfl⟩ [.int u1.1, .int u2.1] rfl (Nat.le_of_ble_eq_true rfl) hP hS hl.1 dX10_isThere_9 h (fun u hu => m_X10_has l Γ u1.1 u2.1 u2.2 u hu) (fun u3 H locs h hP hS => ?_) rfl
  exact gzret hx hb hr hlk hP hS dX10_isThere_12 h
set_option maxHeartbeats 2000000 in
set_option maxRecDepth 20000 in
theorem m_X10_score (l : Launch) (Γ : gE) {r0 nr0 : Nat} (hr0 : isI r0 nr0) (a1 : Int32) (g : gG) (z : Int32 × gG) (h : f_X10_score r0 nr0 a1 g = some z) : gMi l yX10_score cX10_score 3 (some .int) 3 65 Γ [.ref (gB Γ + r0), .int a1] g z := by
  unfold f_X10_score at h
  refine gStart (own := RX10) (by decide +kernel) rfl (Nat.le_of_ble_eq_true rfl) ?_
  intro p e s m below meth c C0 ls hl hP
  have hS : va_S (gA Γ) s.heap s.heap [] := va_S.rf
  have hl : lv_has ls 3 [(0, .ref (gB Γ + r0)), (1, .int a1)] := hl
  obtain ⟨hx, hb, hml, hr, hown, hts, hK, hlk, hX⟩ := id C0
  refine lv_sipush (v := 200) hx hb dX10_score_0 (by decide) ?_
  refine lv_aload_n hx hb dX10_score_3 rfl (lv_at hl 0 rfl) ?_
  refine lv_iload_n hx hb dX10_score_4 rfl (lv_at hl 1 rfl) ?_
  refine lv_iconst (v := 1) hx hb dX10_score_5 (by decide) ?_
  refine gCSi (rest := [.ref (gB Γ + r0), .int (200 : Int32)]) C0 cal_X10_cell wl_X10_101 wt_X10_cell ⟨Nat.le_of_ble_eq_true rfl, Nat.le_of_ble_eq_true rfl⟩ ⟨Nat.le_of_ble_eq_true rfl, Nat.le_of_ble_eq_true rfl⟩ [.int a1, .int (1 : Int32)] rfl (Nat.le_of_ble_eq_true rfl) hP hS hl.1 dX10_score_6 h (fun u hu => m_X10_cell l Γ a1 (1 : Int32) g u hu) (fun u1 H locs h hP hS => ?_) rfl
  refine gIld hx hb hK hP hr0 dX10_score_9 h (fun h => ?_)
  refine lv_isub hx hb dX10_score_10 ?_
  refine lv_bipush (v := 10) hx hb dX10_score_11 (by decide) ?_
  refine lv_aload_n hx hb dX10_score_13 rfl (lv_at hl 0 rfl) ?_
  refine lv_iload_n hx hb dX10_score_14 rfl (lv_at hl 1 rfl) ?_
  refine lv_iconst (v := 2) hx hb dX10_score_15 (by decide) ?_
  refine gCSi (rest := [.ref (gB Γ + r0), .int (10 : Int32), .int ((200 : Int32) - (u1.2.1 r0 u1.1.toNatClampNeg))]) C0 cal_X10_cell wl_X10_101 wt_X10_cell ⟨Nat.le_of_ble_eq_true rfl, Nat.le_of_ble_eq_true rfl⟩ ⟨Nat.le_of_ble_eq_true rfl, Nat.le_of_ble_eq_true rfl⟩ [.int a1, .int (2 : Int32)] rfl (Nat.le_of_ble_eq_true rfl) hP hS hl.1 dX10_score_16 h (fun u hu => m_X10_cell l Γ a1 (2 : Int32) u1.2 u hu) (fun u2 H locs h hP hS => ?_) rfl
  refine gIld hx hb hK hP hr0 dX10_score_19 h (fun h => ?_)
  refine lv_imul hx hb dX10_score_20 ?_
  refine lv_isub hx hb dX10_score_21 ?_
  refine lv_topi (fun x3 ex3 => ?_)
  replace h := gLetI ex3 h
  refine lv_istore_n (lv' := [(2, .int x3), (0, .ref (gB Γ + r0)), (1, .int a1)]) hx hb dX10_score_22 rfl hl (by decide) rfl (fun ls hl => ?_)
  refine lv_aload_n hx hb dX10_score_23 rfl (lv_at hl 1 rfl) ?_
  refine lv_iload_n hx hb dX10_score_24 rfl (lv_at hl 2 rfl) ?_
  refine gCSi (rest := []) C0 cal_X10_isThere wl_X10_108 wt_X10_isThere ⟨Nat.le_of_ble_eq_true rfl, Nat.le_of_ble_eq_true rfl⟩ ⟨Nat.le_of_ble_eq_true rfl, Nat.le_of_ble_eq_true rfl⟩ [.ref (gB Γ + r0), .int a1] rfl (Nat.le_of_ble_eq_true rfl) hP hS hl.1 dX10_score_25 h (fun u hu => m_X10_isThere l Γ hr0 a1 u2.2 u hu) (fun u4 H locs h hP hS => ?_) rfl
  refine lv_if_eq (tgt := 39) hx hb dX10_score_28 (by decide) (fun c5 => ?_) (fun c5 => ?_)
  · replace h := gpos c5 h
    refine lv_iconst (v := 0) hx hb dX10_score_39 (by decide) ?_
    exact giret hx hb hr hlk hP hS dX10_score_40 h
  · replace h := gneg c5 h
    refine lv_iload_n hx hb dX10_score_31 rfl (lv_at hl 0 rfl) ?_
    refine lv_if_le (tgt := 39) hx hb dX10_score_32 (by decide) (fun c6 => ?_) (fun c6 => ?_)
    · replace h := gpos c6 h
      refine lv_iconst (v := 0) hx hb dX10_score_39 (by decide) ?_
      exact giret hx hb hr hlk hP hS dX10_score_40 h
    · replace h := gneg c6 h
      refine lv_iload_n hx hb dX10_score_35 rfl (lv_at hl 0 rfl) ?_
      refine lv_goto (tgt := 40) hx hb dX10_score_36 (by decide) ?_
      exact giret hx hb hr hlk hP hS dX10_score_40 h
set_option maxHeartbeats 2000000 in
set_option maxRecDepth 20000 in
theorem m_X10_visit (l : Launch) (Γ : gE) {r0 nr0 : Nat} (hr0 : isI r0 nr0) (a1 : Int32) (a2 : Int32) (g : gG) (z : Unit × gG) (h : f_X10_visit r0 nr0 a1 a2 g = some z) : gMv l yX10_visit cX10_visit 3 none 2 45 Γ [.ref (gB Γ + r0), .int a1, .int a2] g z := by
  unfold f_X10_visit at h
  refine gStart (own := RX10) (by decide +kernel) rfl (Nat.le_of_ble_eq_true rfl) ?_
  intro p e s m below meth c C0 ls hl hP
  have hS : va_S (gA Γ) s.heap s.heap [] := va_S.rf
  have hl : lv_has ls 3 [(0, .ref (gB Γ + r0)), (1, .int a1), (2, .int a2)] := hl
  obtain ⟨hx, hb, hml, hr, hown, hts, hK, hlk, hX⟩ := id C0
  refine lv_aload_n hx hb dX10_visit_0 rfl (lv_at hl 0 rfl) ?_
  refine lv_iload_n hx hb dX10_visit_1 rfl (lv_at hl 1 rfl) ?_
  refine lv_iconst (v := 1) hx hb dX10_visit_2 (by decide) ?_
  refine gCSi (rest := [.ref (gB Γ + r0)]) C0 cal_X10_cell wl_X10_101 wt_X10_cell ⟨Nat.le_of_ble_eq_true rfl, Nat.le_of_ble_eq_true rfl⟩ ⟨Nat.le_of_ble_eq_true rfl, Nat.le_of_ble_eq_true rfl⟩ [.int a1, .int (1 : Int32)] rfl (Nat.le_of_ble_eq_true rfl) hP hS hl.1 dX10_visit_3 h (fun u hu => m_X10_cell l Γ a1 (1 : Int32) g u hu) (fun u1 H locs h hP hS => ?_) rfl
  refine lv_dup2_11 hx hb dX10_visit_6 rfl rfl ?_
  refine gIld hx hb hK hP hr0 dX10_visit_7 h (fun h => ?_)
  refine lv_aload_n hx hb dX10_visit_8 rfl (lv_at hl 0 rfl) ?_
  refine lv_aload_n hx hb dX10_visit_9 rfl (lv_at hl 0 rfl) ?_
  refine lv_iload_n hx hb dX10_visit_10 rfl (lv_at hl 1 rfl) ?_
  refine gCSi (rest := [.ref (gB Γ + r0), .int (u1.2.1 r0 u1.1.toNatClampNeg), .int u1.1, .ref (gB Γ + r0)]) C0 cal_X10_last wl_X10_112 wt_X10_last ⟨Nat.le_of_ble_eq_true rfl, Nat.le_of_ble_eq_true rfl⟩ ⟨Nat.le_of_ble_eq_true rfl, Nat.le_of_ble_eq_true rfl⟩ [.ref (gB Γ + r0), .int a1] rfl (Nat.le_of_ble_eq_true rfl) hP hS hl.1 dX10_visit_11 h (fun u hu => m_X10_last l Γ hr0 a1 u1.2 u hu) (fun u2 H locs h hP hS => ?_) rfl
  refine lv_iload_n hx hb dX10_visit_14 rfl (lv_at hl 2 rfl) ?_
  refine gCSi (rest := [.int (u1.2.1 r0 u1.1.toNatClampNeg), .int u1.1, .ref (gB Γ + r0)]) C0 cal_X10_minutes wl_X10_115 wt_X10_minutes ⟨Nat.le_of_ble_eq_true rfl, Nat.le_of_ble_eq_true rfl⟩ ⟨Nat.le_of_ble_eq_true rfl, Nat.le_of_ble_eq_true rfl⟩ [.ref (gB Γ + r0), .int u2.1, .int a2] rfl (Nat.le_of_ble_eq_true rfl) hP hS hl.1 dX10_visit_15 h (fun u hu => m_X10_minutes l Γ hr0 u2.1 a2 u2.2 u hu) (fun u3 H locs h hP hS => ?_) rfl
  refine lv_iadd hx hb dX10_visit_18 ?_
  refine gIst hx hb hK hP hS hr0 dX10_visit_19 h (fun H locs g4 h hP hS => ?_)
  refine lv_aload_n hx hb dX10_visit_20 rfl (lv_at hl 0 rfl) ?_
  refine lv_iload_n hx hb dX10_visit_21 rfl (lv_at hl 1 rfl) ?_
  refine lv_iconst (v := 3) hx hb dX10_visit_22 (by decide) ?_
  refine lv_aload_n hx hb dX10_visit_23 rfl (lv_at hl 0 rfl) ?_
  refine lv_iload_n hx hb dX10_visit_24 rfl (lv_at hl 1 rfl) ?_
  refine lv_iconst (v := 0) hx hb dX10_visit_25 (by decide) ?_
  refine gCSi (rest := [.ref (gB Γ + r0), .int (3 : Int32), .int a1, .ref (gB Γ + r0)]) C0 cal_X10_cell wl_X10_101 wt_X10_cell ⟨Nat.le_of_ble_eq_true rfl, Nat.le_of_ble_eq_true rfl⟩ ⟨Nat.le_of_ble_eq_true rfl, Nat.le_of_ble_eq_true rfl⟩ [.int a1, .int (0 : Int32)] rfl (Nat.le_of_ble_eq_true rfl) hP hS hl.1 dX10_visit_26 h (fun u hu => m_X10_cell l Γ a1 (0 : Int32) g4 u hu) (fun u5 H locs h hP hS => ?_) rfl
  refine gIld hx hb hK hP hr0 dX10_visit_29 h (fun h => ?_)
  refine lv_iadd hx hb dX10_visit_30 ?_
  refine gCSi (rest := [.ref (gB Γ + r0)]) C0 cal_X10_cell wl_X10_101 wt_X10_cell ⟨Nat.le_of_ble_eq_true rfl, Nat.le_of_ble_eq_true rfl⟩ ⟨Nat.le_of_ble_eq_true rfl, Nat.le_of_ble_eq_true rfl⟩ [.int a1, .int ((3 : Int32) + (u5.2.1 r0 u5.1.toNatClampNeg))] rfl (Nat.le_of_ble_eq_true rfl) hP hS hl.1 dX10_visit_31 h (fun u hu => m_X10_cell l Γ a1 ((3 : Int32) + (u5.2.1 r0 u5.1.toNatClampNeg)) u5.2 u hu) (fun u6 H locs h hP hS => ?_) rfl
  refine lv_iload_n hx hb dX10_visit_34 rfl (lv_at hl 2 rfl) ?_
  refine gIst hx hb hK hP hS hr0 dX10_visit_35 h (fun H locs g7 h hP hS => ?_)
  refine lv_aload_n hx hb dX10_visit_36 rfl (lv_at hl 0 rfl) ?_
  refine lv_iload_n hx hb dX10_visit_37 rfl (lv_at hl 1 rfl) ?_
  refine lv_iconst (v := 0) hx hb dX10_visit_38 (by decide) ?_
  refine gCSi (rest := [.ref (gB Γ + r0)]) C0 cal_X10_cell wl_X10_101 wt_X10_cell ⟨Nat.le_of_ble_eq_true rfl, Nat.le_of_ble_eq_true rfl⟩ ⟨Nat.le_of_ble_eq_true rfl, Nat.le_of_ble_eq_true rfl⟩ [.int a1, .int (0 : Int32)] rfl (Nat.le_of_ble_eq_true rfl) hP hS hl.1 dX10_visit_39 h (fun u hu => m_X10_cell l Γ a1 (0 : Int32) g7 u hu) (fun u8 H locs h hP hS => ?_) rfl
  refine lv_dup2_11 hx hb dX10_visit_42 rfl rfl ?_
  refine gIld hx hb hK hP hr0 dX10_visit_43 h (fun h => ?_)
  refine lv_iconst (v := 1) hx hb dX10_visit_44 (by decide) ?_
  refine lv_iadd hx hb dX10_visit_45 ?_
  refine gIst hx hb hK hP hS hr0 dX10_visit_46 h (fun H locs g9 h hP hS => ?_)
  exact gvret hx hb hr hlk hP hS dX10_visit_47 h
set_option maxHeartbeats 2000000 in
set_option maxRecDepth 20000 in
theorem bs_X10_clearTeam_2 {p : Program} {l : Launch} {e : Env} {s : State} {m : MethodId} {args : Array Value} {below : List Frame} {meth : Method} {c : Code} {Γ : gE} (C0 : gCx p s m args meth c Γ RX10 cX10_clearTeam 3 none) {r0 nr0 : Nat} (hr0 : isI r0 nr0) {z : Unit × gG} {F2 : Int32 → Int32 → gG → Option (Unit × gG)} {l1 : Int32} {l2 : Int32} {g : gG} {H : Heap} {locs : List Loc} {ls : Array Slot} (hF2 : ∀ (l1 : Int32) (l2 : Int32) (g : gG) (H : Heap) (locs : List Loc) (ls : Array Slot), F2 l1 l2 g = some z → va_P (gD Γ) gcls (lay Γ g) H → va_S (gA Γ) s.heap H locs → lv_has ls 3 [(0, .ref (gB Γ + r0)), (1, .int l1), (2, .int l2)] → W p l e (gRm 1 21) s m args below meth c H locs 0 0 (MQ below (gQv Γ z) args s 0 0 (gA Γ)) (F0 m 2 ls [])) (h : fs_X10_clearTeam_2 r0 nr0 F2 l1 l2 g = some z) (hP : va_P (gD Γ) gcls (lay Γ g) H) (hS : va_S (gA Γ) s.heap H locs) (hl : lv_has ls 3 [(0, .ref (gB Γ + r0)), (1, .int l1), (2, .int l2)]) : W p l e (gRm 1 21) s m args below meth c H locs 0 0 (MQ below (gQv Γ z) args s 0 0 (gA Γ)) (F0 m 2 ls []) := by
  unfold fs_X10_clearTeam_2 at h
  obtain ⟨hx, hb, hml, hr, hown, hts, hK, hlk, hX⟩ := id C0
  refine lv_iload_n hx hb dX10_clearTeam_2 rfl (lv_at hl 2 rfl) ?_
  refine lv_bipush (v := 13) hx hb dX10_clearTeam_3 (by decide) ?_
  refine lv_icmp_ge (tgt := 22) hx hb dX10_clearTeam_5 (by decide) (fun c1 => ?_) (fun c1 => ?_)
  · replace h := gpos c1 h
    exact gvret hx hb hr hlk hP hS dX10_clearTeam_22 h
  · replace h := gneg c1 h
    refine lv_aload_n hx hb dX10_clearTeam_8 rfl (lv_at hl 0 rfl) ?_
    refine lv_iload_n hx hb dX10_clearTeam_9 rfl (lv_at hl 1 rfl) ?_
    refine lv_iload_n hx hb dX10_clearTeam_10 rfl (lv_at hl 2 rfl) ?_
    refine gCSi (rest := [.ref (gB Γ + r0)]) C0 cal_X10_cell wl_X10_101 wt_X10_cell ⟨Nat.le_of_ble_eq_true rfl, Nat.le_of_ble_eq_true rfl⟩ ⟨Nat.le_of_ble_eq_true rfl, Nat.le_of_ble_eq_true rfl⟩ [.int l1, .int l2] rfl (Nat.le_of_ble_eq_true rfl) hP hS hl.1 dX10_clearTeam_11 h (fun u hu => m_X10_cell l Γ l1 l2 g u hu) (fun u2 H locs h hP hS => ?_) rfl
    refine lv_iconst (v := 0) hx hb dX10_clearTeam_14 (by decide) ?_
    refine gIst hx hb hK hP hS hr0 dX10_clearTeam_15 h (fun H locs g3 h hP hS => ?_)
    obtain ⟨x4, ex4⟩ : ∃ y : Int32, y = l2 + (1 : Int32) := ⟨_, rfl⟩
    replace h := gLetI ex4 h
    refine lv_iinc (v := x4) (lv' := [(2, .int x4), (0, .ref (gB Γ + r0)), (1, .int l1)]) hx hb dX10_clearTeam_16 hl (k := 2) rfl (by rw [ex4]; rfl) (by decide) rfl (fun ls hl => ?_)
    refine lv_goto (tgt := 2) hx hb dX10_clearTeam_19 (by decide) ?_
    exact hF2 _ _ _ _ _ _ h hP hS (lv_sub hl [1, 2, 0] rfl)
set_option maxHeartbeats 2000000 in
set_option maxRecDepth 20000 in
theorem bk_X10_clearTeam_2 {p : Program} {l : Launch} {e : Env} {s : State} {m : MethodId} {args : Array Value} {below : List Frame} {meth : Method} {c : Code} {Γ : gE} (C0 : gCx p s m args meth c Γ RX10 cX10_clearTeam 3 none) {r0 nr0 : Nat} (hr0 : isI r0 nr0) {z : Unit × gG}   : ∀ (n : Nat) (l1 : Int32) (l2 : Int32) (g : gG) (H : Heap) (locs : List Loc) (ls : Array Slot), fb_X10_clearTeam_2 r0 nr0 n l1 l2 g = some z → va_P (gD Γ) gcls (lay Γ g) H → va_S (gA Γ) s.heap H locs → lv_has ls 3 [(0, .ref (gB Γ + r0)), (1, .int l1), (2, .int l2)] → W p l e (gRm 1 21) s m args below meth c H locs 0 0 (MQ below (gQv Γ z) args s 0 0 (gA Γ)) (F0 m 2 ls []) := by
  intro n
  induction n with
  | zero => intro l1 l2 g H locs ls h hP hS hl; cases h
  | succ n ih => intro l1 l2 g H locs ls h hP hS hl; exact bs_X10_clearTeam_2 C0 hr0 ih h hP hS hl
set_option maxHeartbeats 2000000 in
set_option maxRecDepth 20000 in
theorem m_X10_clearTeam (l : Launch) (Γ : gE) {r0 nr0 : Nat} (hr0 : isI r0 nr0) (a1 : Int32) (g : gG) (z : Unit × gG) (h : f_X10_clearTeam r0 nr0 a1 g = some z) : gMv l yX10_clearTeam cX10_clearTeam 3 none 1 21 Γ [.ref (gB Γ + r0), .int a1] g z := by
  unfold f_X10_clearTeam at h
  refine gStart (own := RX10) (by decide +kernel) rfl (Nat.le_of_ble_eq_true rfl) ?_
  intro p e s m below meth c C0 ls hl hP
  have hS : va_S (gA Γ) s.heap s.heap [] := va_S.rf
  have hl : lv_has ls 3 [(0, .ref (gB Γ + r0)), (1, .int a1)] := hl
  obtain ⟨hx, hb, hml, hr, hown, hts, hK, hlk, hX⟩ := id C0
  refine lv_iconst (v := 0) hx hb dX10_clearTeam_0 (by decide) ?_
  refine lv_istore_n (lv' := [(2, .int (0 : Int32)), (0, .ref (gB Γ + r0)), (1, .int a1)]) hx hb dX10_clearTeam_1 rfl hl (by decide) rfl (fun ls hl => ?_)
  exact bk_X10_clearTeam_2 C0 hr0 gFuel _ _ _ _ _ _ h hP hS (lv_sub hl [1, 2, 0] rfl)
set_option maxHeartbeats 2000000 in
set_option maxRecDepth 20000 in
theorem bs_X10_drop_6 {p : Program} {l : Launch} {e : Env} {s : State} {m : MethodId} {args : Array Value} {below : List Frame} {meth : Method} {c : Code} {Γ : gE} (C0 : gCx p s m args meth c Γ RX10 cX10_drop 3 none) {r0 nr0 : Nat} (hr0 : isI r0 nr0) {z : Unit × gG} {F6 : Int32 → gG → Option (Unit × gG)} {l2 : Int32} {g : gG} {H : Heap} {locs : List Loc} {ls : Array Slot} (hF6 : ∀ (l2 : Int32) (g : gG) (H : Heap) (locs : List Loc) (ls : Array Slot), F6 l2 g = some z → va_P (gD Γ) gcls (lay Γ g) H → va_S (gA Γ) s.heap H locs → lv_has ls 3 [(0, .ref (gB Γ + r0)), (2, .int l2)] → W p l e (gRm 1 21) s m args below meth c H locs 0 0 (MQ below (gQv Γ z) args s 0 0 (gA Γ)) (F0 m 6 ls [])) (h : fs_X10_drop_6 r0 nr0 F6 l2 g = some z) (hP : va_P (gD Γ) gcls (lay Γ g) H) (hS : va_S (gA Γ) s.heap H locs) (hl : lv_has ls 3 [(0, .ref (gB Γ + r0)), (2, .int l2)]) : W p l e (gRm 1 21) s m args below meth c H locs 0 0 (MQ below (gQv Γ z) args s 0 0 (gA Γ)) (F0 m 6 ls []) := by
  unfold fs_X10_drop_6 at h
  obtain ⟨hx, hb, hml, hr, hown, hts, hK, hlk, hX⟩ := id C0
  refine lv_iload_n hx hb dX10_drop_6 rfl (lv_at hl 1 rfl) ?_
  refine lv_sipush (v := 381) hx hb dX10_drop_7 (by decide) ?_
  refine lv_icmp_ge (tgt := 28) hx hb dX10_drop_10 (by decide) (fun c1 => ?_) (fun c1 => ?_)
  · replace h := gpos c1 h
    refine lv_aload_n hx hb dX10_drop_28 rfl (lv_at hl 0 rfl) ?_
    refine lv_iconst (v := 1) hx hb dX10_drop_29 (by decide) ?_
    refine lv_dup2_11 hx hb dX10_drop_30 rfl rfl ?_
    refine gIld hx hb hK hP hr0 dX10_drop_31 h (fun h => ?_)
    refine lv_iconst (v := 1) hx hb dX10_drop_32 (by decide) ?_
    refine lv_isub hx hb dX10_drop_33 ?_
    refine gIst hx hb hK hP hS hr0 dX10_drop_34 h (fun H locs g2 h hP hS => ?_)
    exact gvret hx hb hr hlk hP hS dX10_drop_35 h
  · replace h := gneg c1 h
    refine lv_aload_n hx hb dX10_drop_13 rfl (lv_at hl 0 rfl) ?_
    refine lv_iload_n hx hb dX10_drop_14 rfl (lv_at hl 1 rfl) ?_
    refine lv_aload_n hx hb dX10_drop_15 rfl (lv_at hl 0 rfl) ?_
    refine lv_iload_n hx hb dX10_drop_16 rfl (lv_at hl 1 rfl) ?_
    refine lv_bipush (v := 13) hx hb dX10_drop_17 (by decide) ?_
    refine lv_iadd hx hb dX10_drop_19 ?_
    refine gIld hx hb hK hP hr0 dX10_drop_20 h (fun h => ?_)
    refine gIst hx hb hK hP hS hr0 dX10_drop_21 h (fun H locs g3 h hP hS => ?_)
    obtain ⟨x4, ex4⟩ : ∃ y : Int32, y = l2 + (1 : Int32) := ⟨_, rfl⟩
    replace h := gLetI ex4 h
    refine lv_iinc (v := x4) (lv' := [(2, .int x4), (0, .ref (gB Γ + r0))]) hx hb dX10_drop_22 hl (k := 1) rfl (by rw [ex4]; rfl) (by decide) rfl (fun ls hl => ?_)
    refine lv_goto (tgt := 6) hx hb dX10_drop_25 (by decide) ?_
    exact hF6 _ _ _ _ _ h hP hS (lv_sub hl [1, 0] rfl)
set_option maxHeartbeats 2000000 in
set_option maxRecDepth 20000 in
theorem bk_X10_drop_6 {p : Program} {l : Launch} {e : Env} {s : State} {m : MethodId} {args : Array Value} {below : List Frame} {meth : Method} {c : Code} {Γ : gE} (C0 : gCx p s m args meth c Γ RX10 cX10_drop 3 none) {r0 nr0 : Nat} (hr0 : isI r0 nr0) {z : Unit × gG}   : ∀ (n : Nat) (l2 : Int32) (g : gG) (H : Heap) (locs : List Loc) (ls : Array Slot), fb_X10_drop_6 r0 nr0 n l2 g = some z → va_P (gD Γ) gcls (lay Γ g) H → va_S (gA Γ) s.heap H locs → lv_has ls 3 [(0, .ref (gB Γ + r0)), (2, .int l2)] → W p l e (gRm 1 21) s m args below meth c H locs 0 0 (MQ below (gQv Γ z) args s 0 0 (gA Γ)) (F0 m 6 ls []) := by
  intro n
  induction n with
  | zero => intro l2 g H locs ls h hP hS hl; cases h
  | succ n ih => intro l2 g H locs ls h hP hS hl; exact bs_X10_drop_6 C0 hr0 ih h hP hS hl
set_option maxHeartbeats 2000000 in
set_option maxRecDepth 20000 in
theorem m_X10_drop (l : Launch) (Γ : gE) {r0 nr0 : Nat} (hr0 : isI r0 nr0) (a1 : Int32) (g : gG) (z : Unit × gG) (h : f_X10_drop r0 nr0 a1 g = some z) : gMv l yX10_drop cX10_drop 3 none 1 21 Γ [.ref (gB Γ + r0), .int a1] g z := by
  unfold f_X10_drop at h
  refine gStart (own := RX10) (by decide +kernel) rfl (Nat.le_of_ble_eq_true rfl) ?_
  intro p e s m below meth c C0 ls hl hP
  have hS : va_S (gA Γ) s.heap s.heap [] := va_S.rf
  have hl : lv_has ls 3 [(0, .ref (gB Γ + r0)), (1, .int a1)] := hl
  obtain ⟨hx, hb, hml, hr, hown, hts, hK, hlk, hX⟩ := id C0
  refine lv_iload_n hx hb dX10_drop_0 rfl (lv_at hl 1 rfl) ?_
  refine lv_iconst (v := 0) hx hb dX10_drop_1 (by decide) ?_
  refine gCSi (rest := []) C0 cal_X10_cell wl_X10_101 wt_X10_cell ⟨Nat.le_of_ble_eq_true rfl, Nat.le_of_ble_eq_true rfl⟩ ⟨Nat.le_of_ble_eq_true rfl, Nat.le_of_ble_eq_true rfl⟩ [.int a1, .int (0 : Int32)] rfl (Nat.le_of_ble_eq_true rfl) hP hS hl.1 dX10_drop_2 h (fun u hu => m_X10_cell l Γ a1 (0 : Int32) g u hu) (fun u1 H locs h hP hS => ?_) rfl
  refine lv_topi (fun x2 ex2 => ?_)
  replace h := gLetI ex2 h
  refine lv_istore_n (lv' := [(2, .int x2), (0, .ref (gB Γ + r0)), (1, .int a1)]) hx hb dX10_drop_5 rfl hl (by decide) rfl (fun ls hl => ?_)
  exact bk_X10_drop_6 C0 hr0 gFuel _ _ _ _ _ h hP hS (lv_sub hl [1, 0] rfl)
set_option maxHeartbeats 2000000 in
set_option maxRecDepth 20000 in
theorem bs_X10_layGood_98 {p : Program} {l : Launch} {e : Env} {s : State} {m : MethodId} {args : Array Value} {below : List Frame} {meth : Method} {c : Code} {Γ : gE} (C0 : gCx p s m args meth c Γ RX10 cX10_layGood 7 none) {r1 nr1 : Nat} (hr1 : isI r1 nr1) {z : Unit × gG} {F12 : Int32 → Int32 → Int32 → gG → Option (Unit × gG)} {l2 : Int32} {l3 : Int32} {l4 : Int32} {l5 : Int32} {g : gG} {H : Heap} {locs : List Loc} {ls : Array Slot} (hF12 : ∀ (l2 : Int32) (l3 : Int32) (l4 : Int32) (g : gG) (H : Heap) (locs : List Loc) (ls : Array Slot), F12 l2 l3 l4 g = some z → va_P (gD Γ) gcls (lay Γ g) H → va_S (gA Γ) s.heap H locs → lv_has ls 7 [(0, .ref (gB Γ + 174)), (1, .ref (gB Γ + r1)), (2, .int l2), (3, .int l3), (4, .int l4)] → W p l e (gRm 3 65) s m args below meth c H locs 0 0 (MQ below (gQv Γ z) args s 0 0 (gA Γ)) (F0 m 12 ls [])) (h : fs_X10_layGood_98 r1 nr1 F12 l2 l3 l4 l5 g = some z) (hP : va_P (gD Γ) gcls (lay Γ g) H) (hS : va_S (gA Γ) s.heap H locs) (hl : lv_has ls 7 [(0, .ref (gB Γ + 174)), (1, .ref (gB Γ + r1)), (2, .int l2), (3, .int l3), (4, .int l4), (5, .int l5)]) : W p l e (gRm 3 65) s m args below meth c H locs 0 0 (MQ below (gQv Γ z) args s 0 0 (gA Γ)) (F0 m 98 ls []) := by
  unfold fs_X10_layGood_98 at h
  obtain ⟨hx, hb, hml, hr, hown, hts, hK, hlk, hX⟩ := id C0
  refine lv_aload_n hx hb dX10_layGood_98 rfl (lv_at hl 0 rfl) ?_
  refine gf_10_19 hx hb hown hts hK hP wf_X10_50 dX10_layGood_99 ?_
  refine lv_iload hx hb dX10_layGood_102 (lv_at hl 4 rfl) ?_
  refine lv_iload hx hb dX10_layGood_104 (lv_at hl 5 rfl) ?_
  refine gZst hx hb hK hP hS is_188 dX10_layGood_106 h (fun H locs g1 h hP hS => ?_)
  obtain ⟨x2, ex2⟩ : ∃ y : Int32, y = l4 + (-1 : Int32) := ⟨_, rfl⟩
  replace h := gLetI ex2 h
  refine lv_iinc (v := x2) (lv' := [(4, .int x2), (0, .ref (gB Γ + 174)), (1, .ref (gB Γ + r1)), (2, .int l2), (3, .int l3), (5, .int l5)]) hx hb dX10_layGood_107 hl (k := 4) rfl (by rw [ex2]; rfl) (by decide) rfl (fun ls hl => ?_)
  refine lv_goto (tgt := 12) hx hb dX10_layGood_110 (by decide) ?_
  exact hF12 _ _ _ _ _ _ _ h hP hS (lv_sub hl [1, 2, 3, 4, 0] rfl)
set_option maxHeartbeats 2000000 in
set_option maxRecDepth 20000 in
theorem bs_X10_layGood_90 {p : Program} {l : Launch} {e : Env} {s : State} {m : MethodId} {args : Array Value} {below : List Frame} {meth : Method} {c : Code} {Γ : gE} (C0 : gCx p s m args meth c Γ RX10 cX10_layGood 7 none) {r1 nr1 : Nat} (hr1 : isI r1 nr1) {z : Unit × gG} {F12 : Int32 → Int32 → Int32 → gG → Option (Unit × gG)} {F42 : Int32 → Int32 → Int32 → Int32 → Int32 → gG → Option (Unit × gG)} {l2 : Int32} {l3 : Int32} {l4 : Int32} {l6 : Int32} {s0 : Int32} {g : gG} {H : Heap} {locs : List Loc} {ls : Array Slot} (hF12 : ∀ (l2 : Int32) (l3 : Int32) (l4 : Int32) (g : gG) (H : Heap) (locs : List Loc) (ls : Array Slot), F12 l2 l3 l4 g = some z → va_P (gD Γ) gcls (lay Γ g) H → va_S (gA Γ) s.heap H locs → lv_has ls 7 [(0, .ref (gB Γ + 174)), (1, .ref (gB Γ + r1)), (2, .int l2), (3, .int l3), (4, .int l4)] → W p l e (gRm 3 65) s m args below meth c H locs 0 0 (MQ below (gQv Γ z) args s 0 0 (gA Γ)) (F0 m 12 ls [])) (hF42 : ∀ (l2 : Int32) (l3 : Int32) (l4 : Int32) (l5 : Int32) (l6 : Int32) (g : gG) (H : Heap) (locs : List Loc) (ls : Array Slot), F42 l2 l3 l4 l5 l6 g = some z → va_P (gD Γ) gcls (lay Γ g) H → va_S (gA Γ) s.heap H locs → lv_has ls 7 [(0, .ref (gB Γ + 174)), (1, .ref (gB Γ + r1)), (2, .int l2), (3, .int l3), (4, .int l4), (5, .int l5), (6, .int l6)] → W p l e (gRm 3 65) s m args below meth c H locs 0 0 (MQ below (gQv Γ z) args s 0 0 (gA Γ)) (F0 m 42 ls [])) (h : fs_X10_layGood_90 r1 nr1 F12 F42 l2 l3 l4 l6 s0 g = some z) (hP : va_P (gD Γ) gcls (lay Γ g) H) (hS : va_S (gA Γ) s.heap H locs) (hl : lv_has ls 7 [(0, .ref (gB Γ + 174)), (1, .ref (gB Γ + r1)), (2, .int l2), (3, .int l3), (4, .int l4), (6, .int l6)]) : W p l e (gRm 3 65) s m args below meth c H locs 0 0 (MQ below (gQv Γ z) args s 0 0 (gA Γ)) (F0 m 90 ls [.int s0]) := by
  unfold fs_X10_layGood_90 at h
  obtain ⟨hx, hb, hml, hr, hown, hts, hK, hlk, hX⟩ := id C0
  refine lv_istore (lv' := [(5, .int s0), (0, .ref (gB Γ + 174)), (1, .ref (gB Γ + r1)), (2, .int l2), (3, .int l3), (4, .int l4), (6, .int l6)]) hx hb dX10_layGood_90 hl (by decide) rfl (fun ls hl => ?_)
  obtain ⟨x1, ex1⟩ : ∃ y : Int32, y = l6 + (1 : Int32) := ⟨_, rfl⟩
  replace h := gLetI ex1 h
  refine lv_iinc (v := x1) (lv' := [(6, .int x1), (5, .int s0), (0, .ref (gB Γ + 174)), (1, .ref (gB Γ + r1)), (2, .int l2), (3, .int l3), (4, .int l4)]) hx hb dX10_layGood_92 hl (k := 6) rfl (by rw [ex1]; rfl) (by decide) rfl (fun ls hl => ?_)
  refine lv_goto (tgt := 42) hx hb dX10_layGood_95 (by decide) ?_
  exact hF42 _ _ _ _ _ _ _ _ _ h hP hS (lv_sub hl [2, 3, 4, 5, 6, 1, 0] rfl)
set_option maxHeartbeats 2000000 in
set_option maxRecDepth 20000 in
theorem bs_X10_layGood_89 {p : Program} {l : Launch} {e : Env} {s : State} {m : MethodId} {args : Array Value} {below : List Frame} {meth : Method} {c : Code} {Γ : gE} (C0 : gCx p s m args meth c Γ RX10 cX10_layGood 7 none) {r1 nr1 : Nat} (hr1 : isI r1 nr1) {z : Unit × gG} {F12 : Int32 → Int32 → Int32 → gG → Option (Unit × gG)} {F42 : Int32 → Int32 → Int32 → Int32 → Int32 → gG → Option (Unit × gG)} {l2 : Int32} {l3 : Int32} {l4 : Int32} {l6 : Int32} {g : gG} {H : Heap} {locs : List Loc} {ls : Array Slot} (hF12 : ∀ (l2 : Int32) (l3 : Int32) (l4 : Int32) (g : gG) (H : Heap) (locs : List Loc) (ls : Array Slot), F12 l2 l3 l4 g = some z → va_P (gD Γ) gcls (lay Γ g) H → va_S (gA Γ) s.heap H locs → lv_has ls 7 [(0, .ref (gB Γ + 174)), (1, .ref (gB Γ + r1)), (2, .int l2), (3, .int l3), (4, .int l4)] → W p l e (gRm 3 65) s m args below meth c H locs 0 0 (MQ below (gQv Γ z) args s 0 0 (gA Γ)) (F0 m 12 ls [])) (hF42 : ∀ (l2 : Int32) (l3 : Int32) (l4 : Int32) (l5 : Int32) (l6 : Int32) (g : gG) (H : Heap) (locs : List Loc) (ls : Array Slot), F42 l2 l3 l4 l5 l6 g = some z → va_P (gD Γ) gcls (lay Γ g) H → va_S (gA Γ) s.heap H locs → lv_has ls 7 [(0, .ref (gB Γ + 174)), (1, .ref (gB Γ + r1)), (2, .int l2), (3, .int l3), (4, .int l4), (5, .int l5), (6, .int l6)] → W p l e (gRm 3 65) s m args below meth c H locs 0 0 (MQ below (gQv Γ z) args s 0 0 (gA Γ)) (F0 m 42 ls [])) (h : fs_X10_layGood_89 r1 nr1 F12 F42 l2 l3 l4 l6 g = some z) (hP : va_P (gD Γ) gcls (lay Γ g) H) (hS : va_S (gA Γ) s.heap H locs) (hl : lv_has ls 7 [(0, .ref (gB Γ + 174)), (1, .ref (gB Γ + r1)), (2, .int l2), (3, .int l3), (4, .int l4), (6, .int l6)]) : W p l e (gRm 3 65) s m args below meth c H locs 0 0 (MQ below (gQv Γ z) args s 0 0 (gA Γ)) (F0 m 89 ls []) := by
  unfold fs_X10_layGood_89 at h
  obtain ⟨hx, hb, hml, hr, hown, hts, hK, hlk, hX⟩ := id C0
  refine lv_iconst (v := 0) hx hb dX10_layGood_89 (by decide) ?_
  exact bs_X10_layGood_90 C0 hr1 hF12 hF42 h hP hS (lv_sub hl [0, 1, 2, 3, 4, 5] rfl)
set_option maxHeartbeats 2000000 in
set_option maxRecDepth 20000 in
theorem bs_X10_layGood_42 {p : Program} {l : Launch} {e : Env} {s : State} {m : MethodId} {args : Array Value} {below : List Frame} {meth : Method} {c : Code} {Γ : gE} (C0 : gCx p s m args meth c Γ RX10 cX10_layGood 7 none) {r1 nr1 : Nat} (hr1 : isI r1 nr1) {z : Unit × gG} {F12 : Int32 → Int32 → Int32 → gG → Option (Unit × gG)} {F42 : Int32 → Int32 → Int32 → Int32 → Int32 → gG → Option (Unit × gG)} {l2 : Int32} {l3 : Int32} {l4 : Int32} {l5 : Int32} {l6 : Int32} {g : gG} {H : Heap} {locs : List Loc} {ls : Array Slot} (hF12 : ∀ (l2 : Int32) (l3 : Int32) (l4 : Int32) (g : gG) (H : Heap) (locs : List Loc) (ls : Array Slot), F12 l2 l3 l4 g = some z → va_P (gD Γ) gcls (lay Γ g) H → va_S (gA Γ) s.heap H locs → lv_has ls 7 [(0, .ref (gB Γ + 174)), (1, .ref (gB Γ + r1)), (2, .int l2), (3, .int l3), (4, .int l4)] → W p l e (gRm 3 65) s m args below meth c H locs 0 0 (MQ below (gQv Γ z) args s 0 0 (gA Γ)) (F0 m 12 ls [])) (hF42 : ∀ (l2 : Int32) (l3 : Int32) (l4 : Int32) (l5 : Int32) (l6 : Int32) (g : gG) (H : Heap) (locs : List Loc) (ls : Array Slot), F42 l2 l3 l4 l5 l6 g = some z → va_P (gD Γ) gcls (lay Γ g) H → va_S (gA Γ) s.heap H locs → lv_has ls 7 [(0, .ref (gB Γ + 174)), (1, .ref (gB Γ + r1)), (2, .int l2), (3, .int l3), (4, .int l4), (5, .int l5), (6, .int l6)] → W p l e (gRm 3 65) s m args below meth c H locs 0 0 (MQ below (gQv Γ z) args s 0 0 (gA Γ)) (F0 m 42 ls [])) (h : fs_X10_layGood_42 r1 nr1 F12 F42 l2 l3 l4 l5 l6 g = some z) (hP : va_P (gD Γ) gcls (lay Γ g) H) (hS : va_S (gA Γ) s.heap H locs) (hl : lv_has ls 7 [(0, .ref (gB Γ + 174)), (1, .ref (gB Γ + r1)), (2, .int l2), (3, .int l3), (4, .int l4), (5, .int l5), (6, .int l6)]) : W p l e (gRm 3 65) s m args below meth c H locs 0 0 (MQ below (gQv Γ z) args s 0 0 (gA Γ)) (F0 m 42 ls []) := by
  unfold fs_X10_layGood_42 at h
  obtain ⟨hx, hb, hml, hr, hown, hts, hK, hlk, hX⟩ := id C0
  refine lv_iload hx hb dX10_layGood_42 (lv_at hl 6 rfl) ?_
  refine lv_iload_n hx hb dX10_layGood_44 rfl (lv_at hl 3 rfl) ?_
  refine lv_icmp_ge (tgt := 98) hx hb dX10_layGood_45 (by decide) (fun c1 => ?_) (fun c1 => ?_)
  · replace h := gpos c1 h
    exact bs_X10_layGood_98 C0 hr1 hF12 h hP hS (lv_sub hl [0, 1, 2, 3, 4, 5] rfl)
  · replace h := gneg c1 h
    refine lv_iload hx hb dX10_layGood_48 (lv_at hl 5 rfl) ?_
    refine lv_if_ne (tgt := 98) hx hb dX10_layGood_50 (by decide) (fun c2 => ?_) (fun c2 => ?_)
    · replace h := gneg c2 h
      exact bs_X10_layGood_98 C0 hr1 hF12 h hP hS (lv_sub hl [0, 1, 2, 3, 4, 5] rfl)
    · replace h := gpos c2 h
      refine lv_iload hx hb dX10_layGood_53 (lv_at hl 6 rfl) ?_
      refine lv_iload_n hx hb dX10_layGood_55 rfl (lv_at hl 2 rfl) ?_
      refine lv_icmp_eq (tgt := 89) hx hb dX10_layGood_56 (by decide) (fun c3 => ?_) (fun c3 => ?_)
      · replace h := gpos c3 h
        exact bs_X10_layGood_89 C0 hr1 hF12 hF42 h hP hS (lv_sub hl [0, 1, 2, 3, 4, 6] rfl)
      · replace h := gneg c3 h
        refine lv_aload_n hx hb dX10_layGood_59 rfl (lv_at hl 1 rfl) ?_
        refine lv_iload hx hb dX10_layGood_60 (lv_at hl 4 rfl) ?_
        refine lv_iload hx hb dX10_layGood_62 (lv_at hl 6 rfl) ?_
        refine gCSi (rest := []) C0 cal_X10_canVisit wl_X10_98 wt_X10_canVisit ⟨Nat.le_of_ble_eq_true rfl, Nat.le_of_ble_eq_true rfl⟩ ⟨Nat.le_of_ble_eq_true rfl, Nat.le_of_ble_eq_true rfl⟩ [.ref (gB Γ + r1), .int l4, .int l6] rfl (Nat.le_of_ble_eq_true rfl) hP hS hl.1 dX10_layGood_64 h (fun u hu => m_X10_canVisit l Γ hr1 l4 l6 g u hu) (fun u4 H locs h hP hS => ?_) rfl
        refine lv_if_eq (tgt := 89) hx hb dX10_layGood_67 (by decide) (fun c5 => ?_) (fun c5 => ?_)
        · replace h := gpos c5 h
          exact bs_X10_layGood_89 C0 hr1 hF12 hF42 h hP hS (lv_sub hl [0, 1, 2, 3, 4, 6] rfl)
        · replace h := gneg c5 h
          refine lv_aload_n hx hb dX10_layGood_70 rfl (lv_at hl 0 rfl) ?_
          refine gf_10_19 hx hb hown hts hK hP wf_X10_50 dX10_layGood_71 ?_
          refine lv_iload hx hb dX10_layGood_74 (lv_at hl 4 rfl) ?_
          refine lv_iconst (v := 1) hx hb dX10_layGood_76 (by decide) ?_
          refine lv_iload hx hb dX10_layGood_77 (lv_at hl 6 rfl) ?_
          refine lv_ishl hx hb dX10_layGood_79 ?_
          refine lv_ior hx hb dX10_layGood_80 ?_
          refine gZld hx hb hK hP is_188 dX10_layGood_81 h (fun h => ?_)
          refine lv_if_eq (tgt := 89) hx hb dX10_layGood_82 (by decide) (fun c6 => ?_) (fun c6 => ?_)
          · replace h := gpos c6 h
            exact bs_X10_layGood_89 C0 hr1 hF12 hF42 h hP hS (lv_sub hl [0, 1, 2, 3, 4, 6] rfl)
          · replace h := gneg c6 h
            refine lv_iconst (v := 1) hx hb dX10_layGood_85 (by decide) ?_
            refine lv_goto (tgt := 90) hx hb dX10_layGood_86 (by decide) ?_
            exact bs_X10_layGood_90 C0 hr1 hF12 hF42 h hP hS (lv_sub hl [0, 1, 2, 3, 4, 6] rfl)
set_option maxHeartbeats 2000000 in
set_option maxRecDepth 20000 in
theorem bk_X10_layGood_42 {p : Program} {l : Launch} {e : Env} {s : State} {m : MethodId} {args : Array Value} {below : List Frame} {meth : Method} {c : Code} {Γ : gE} (C0 : gCx p s m args meth c Γ RX10 cX10_layGood 7 none) {r1 nr1 : Nat} (hr1 : isI r1 nr1) {z : Unit × gG} {F12 : Int32 → Int32 → Int32 → gG → Option (Unit × gG)} (hF12 : ∀ (l2 : Int32) (l3 : Int32) (l4 : Int32) (g : gG) (H : Heap) (locs : List Loc) (ls : Array Slot), F12 l2 l3 l4 g = some z → va_P (gD Γ) gcls (lay Γ g) H → va_S (gA Γ) s.heap H locs → lv_has ls 7 [(0, .ref (gB Γ + 174)), (1, .ref (gB Γ + r1)), (2, .int l2), (3, .int l3), (4, .int l4)] → W p l e (gRm 3 65) s m args below meth c H locs 0 0 (MQ below (gQv Γ z) args s 0 0 (gA Γ)) (F0 m 12 ls [])) : ∀ (n : Nat) (l2 : Int32) (l3 : Int32) (l4 : Int32) (l5 : Int32) (l6 : Int32) (g : gG) (H : Heap) (locs : List Loc) (ls : Array Slot), fb_X10_layGood_42 r1 nr1 F12 n l2 l3 l4 l5 l6 g = some z → va_P (gD Γ) gcls (lay Γ g) H → va_S (gA Γ) s.heap H locs → lv_has ls 7 [(0, .ref (gB Γ + 174)), (1, .ref (gB Γ + r1)), (2, .int l2), (3, .int l3), (4, .int l4), (5, .int l5), (6, .int l6)] → W p l e (gRm 3 65) s m args below meth c H locs 0 0 (MQ below (gQv Γ z) args s 0 0 (gA Γ)) (F0 m 42 ls []) := by
  intro n
  induction n with
  | zero => intro l2 l3 l4 l5 l6 g H locs ls h hP hS hl; cases h
  | succ n ih => intro l2 l3 l4 l5 l6 g H locs ls h hP hS hl; exact bs_X10_layGood_42 C0 hr1 hF12 ih h hP hS hl
set_option maxHeartbeats 2000000 in
set_option maxRecDepth 20000 in
theorem bs_X10_layGood_37 {p : Program} {l : Launch} {e : Env} {s : State} {m : MethodId} {args : Array Value} {below : List Frame} {meth : Method} {c : Code} {Γ : gE} (C0 : gCx p s m args meth c Γ RX10 cX10_layGood 7 none) {r1 nr1 : Nat} (hr1 : isI r1 nr1) {z : Unit × gG} {F12 : Int32 → Int32 → Int32 → gG → Option (Unit × gG)} {l2 : Int32} {l3 : Int32} {l4 : Int32} {s0 : Int32} {g : gG} {H : Heap} {locs : List Loc} {ls : Array Slot} (hF12 : ∀ (l2 : Int32) (l3 : Int32) (l4 : Int32) (g : gG) (H : Heap) (locs : List Loc) (ls : Array Slot), F12 l2 l3 l4 g = some z → va_P (gD Γ) gcls (lay Γ g) H → va_S (gA Γ) s.heap H locs → lv_has ls 7 [(0, .ref (gB Γ + 174)), (1, .ref (gB Γ + r1)), (2, .int l2), (3, .int l3), (4, .int l4)] → W p l e (gRm 3 65) s m args below meth c H locs 0 0 (MQ below (gQv Γ z) args s 0 0 (gA Γ)) (F0 m 12 ls [])) (h : fs_X10_layGood_37 r1 nr1 F12 l2 l3 l4 s0 g = some z) (hP : va_P (gD Γ) gcls (lay Γ g) H) (hS : va_S (gA Γ) s.heap H locs) (hl : lv_has ls 7 [(0, .ref (gB Γ + 174)), (1, .ref (gB Γ + r1)), (2, .int l2), (3, .int l3), (4, .int l4)]) : W p l e (gRm 3 65) s m args below meth c H locs 0 0 (MQ below (gQv Γ z) args s 0 0 (gA Γ)) (F0 m 37 ls [.int s0]) := by
  unfold fs_X10_layGood_37 at h
  obtain ⟨hx, hb, hml, hr, hown, hts, hK, hlk, hX⟩ := id C0
  refine lv_istore (lv' := [(5, .int s0), (0, .ref (gB Γ + 174)), (1, .ref (gB Γ + r1)), (2, .int l2), (3, .int l3), (4, .int l4)]) hx hb dX10_layGood_37 hl (by decide) rfl (fun ls hl => ?_)
  refine lv_iconst (v := 0) hx hb dX10_layGood_39 (by decide) ?_
  refine lv_istore (lv' := [(6, .int (0 : Int32)), (5, .int s0), (0, .ref (gB Γ + 174)), (1, .ref (gB Γ + r1)), (2, .int l2), (3, .int l3), (4, .int l4)]) hx hb dX10_layGood_40 hl (by decide) rfl (fun ls hl => ?_)
  exact bk_X10_layGood_42 C0 hr1 hF12 gFuel _ _ _ _ _ _ _ _ _ h hP hS (lv_sub hl [2, 3, 4, 5, 6, 1, 0] rfl)
set_option maxHeartbeats 2000000 in
set_option maxRecDepth 20000 in
theorem bs_X10_layGood_36 {p : Program} {l : Launch} {e : Env} {s : State} {m : MethodId} {args : Array Value} {below : List Frame} {meth : Method} {c : Code} {Γ : gE} (C0 : gCx p s m args meth c Γ RX10 cX10_layGood 7 none) {r1 nr1 : Nat} (hr1 : isI r1 nr1) {z : Unit × gG} {F12 : Int32 → Int32 → Int32 → gG → Option (Unit × gG)} {l2 : Int32} {l3 : Int32} {l4 : Int32} {g : gG} {H : Heap} {locs : List Loc} {ls : Array Slot} (hF12 : ∀ (l2 : Int32) (l3 : Int32) (l4 : Int32) (g : gG) (H : Heap) (locs : List Loc) (ls : Array Slot), F12 l2 l3 l4 g = some z → va_P (gD Γ) gcls (lay Γ g) H → va_S (gA Γ) s.heap H locs → lv_has ls 7 [(0, .ref (gB Γ + 174)), (1, .ref (gB Γ + r1)), (2, .int l2), (3, .int l3), (4, .int l4)] → W p l e (gRm 3 65) s m args below meth c H locs 0 0 (MQ below (gQv Γ z) args s 0 0 (gA Γ)) (F0 m 12 ls [])) (h : fs_X10_layGood_36 r1 nr1 F12 l2 l3 l4 g = some z) (hP : va_P (gD Γ) gcls (lay Γ g) H) (hS : va_S (gA Γ) s.heap H locs) (hl : lv_has ls 7 [(0, .ref (gB Γ + 174)), (1, .ref (gB Γ + r1)), (2, .int l2), (3, .int l3), (4, .int l4)]) : W p l e (gRm 3 65) s m args below meth c H locs 0 0 (MQ below (gQv Γ z) args s 0 0 (gA Γ)) (F0 m 36 ls []) := by
  unfold fs_X10_layGood_36 at h
  obtain ⟨hx, hb, hml, hr, hown, hts, hK, hlk, hX⟩ := id C0
  refine lv_iconst (v := 0) hx hb dX10_layGood_36 (by decide) ?_
  exact bs_X10_layGood_37 C0 hr1 hF12 h hP hS (lv_sub hl [0, 1, 2, 3, 4] rfl)
set_option maxHeartbeats 2000000 in
set_option maxRecDepth 20000 in
theorem bs_X10_layGood_12 {p : Program} {l : Launch} {e : Env} {s : State} {m : MethodId} {args : Array Value} {below : List Frame} {meth : Method} {c : Code} {Γ : gE} (C0 : gCx p s m args meth c Γ RX10 cX10_layGood 7 none) {r1 nr1 : Nat} (hr1 : isI r1 nr1) {z : Unit × gG} {F12 : Int32 → Int32 → Int32 → gG → Option (Unit × gG)} {l2 : Int32} {l3 : Int32} {l4 : Int32} {g : gG} {H : Heap} {locs : List Loc} {ls : Array Slot} (hF12 : ∀ (l2 : Int32) (l3 : Int32) (l4 : Int32) (g : gG) (H : Heap) (locs : List Loc) (ls : Array Slot), F12 l2 l3 l4 g = some z → va_P (gD Γ) gcls (lay Γ g) H → va_S (gA Γ) s.heap H locs → lv_has ls 7 [(0, .ref (gB Γ + 174)), (1, .ref (gB Γ + r1)), (2, .int l2), (3, .int l3), (4, .int l4)] → W p l e (gRm 3 65) s m args below meth c H locs 0 0 (MQ below (gQv Γ z) args s 0 0 (gA Γ)) (F0 m 12 ls [])) (h : fs_X10_layGood_12 r1 nr1 F12 l2 l3 l4 g = some z) (hP : va_P (gD Γ) gcls (lay Γ g) H) (hS : va_S (gA Γ) s.heap H locs) (hl : lv_has ls 7 [(0, .ref (gB Γ + 174)), (1, .ref (gB Γ + r1)), (2, .int l2), (3, .int l3), (4, .int l4)]) : W p l e (gRm 3 65) s m args below meth c H locs 0 0 (MQ below (gQv Γ z) args s 0 0 (gA Γ)) (F0 m 12 ls []) := by
  unfold fs_X10_layGood_12 at h
  obtain ⟨hx, hb, hml, hr, hown, hts, hK, hlk, hX⟩ := id C0
  refine lv_iload hx hb dX10_layGood_12 (lv_at hl 4 rfl) ?_
  refine lv_if_lt (tgt := 113) hx hb dX10_layGood_14 (by decide) (fun c1 => ?_) (fun c1 => ?_)
  · replace h := gpos c1 h
    exact gvret hx hb hr hlk hP hS dX10_layGood_113 h
  · replace h := gneg c1 h
    refine lv_iload_n hx hb dX10_layGood_17 rfl (lv_at hl 2 rfl) ?_
    refine lv_iload_n hx hb dX10_layGood_18 rfl (lv_at hl 3 rfl) ?_
    refine lv_icmp_eq (tgt := 36) hx hb dX10_layGood_19 (by decide) (fun c2 => ?_) (fun c2 => ?_)
    · replace h := gpos c2 h
      exact bs_X10_layGood_36 C0 hr1 hF12 h hP hS (lv_sub hl [0, 1, 2, 3, 4] rfl)
    · replace h := gneg c2 h
      refine lv_aload_n hx hb dX10_layGood_22 rfl (lv_at hl 1 rfl) ?_
      refine lv_iload_n hx hb dX10_layGood_23 rfl (lv_at hl 3 rfl) ?_
      refine lv_iload hx hb dX10_layGood_24 (lv_at hl 4 rfl) ?_
      refine gCSi (rest := []) C0 cal_X10_isHeld wl_X10_86 wt_X10_isHeld ⟨Nat.le_of_ble_eq_true rfl, Nat.le_of_ble_eq_true rfl⟩ ⟨Nat.le_of_ble_eq_true rfl, Nat.le_of_ble_eq_true rfl⟩ [.ref (gB Γ + r1), .int l3, .int l4] rfl (Nat.le_of_ble_eq_true rfl) hP hS hl.1 dX10_layGood_26 h (fun u hu => m_X10_isHeld l Γ hr1 l3 l4 g u hu) (fun u3 H locs h hP hS => ?_) rfl
      refine lv_if_eq (tgt := 36) hx hb dX10_layGood_29 (by decide) (fun c4 => ?_) (fun c4 => ?_)
      · replace h := gpos c4 h
        exact bs_X10_layGood_36 C0 hr1 hF12 h hP hS (lv_sub hl [0, 1, 2, 3, 4] rfl)
      · replace h := gneg c4 h
        refine lv_iconst (v := 1) hx hb dX10_layGood_32 (by decide) ?_
        refine lv_goto (tgt := 37) hx hb dX10_layGood_33 (by decide) ?_
        exact bs_X10_layGood_37 C0 hr1 hF12 h hP hS (lv_sub hl [0, 1, 2, 3, 4] rfl)
set_option maxHeartbeats 2000000 in
set_option maxRecDepth 20000 in
theorem bk_X10_layGood_12 {p : Program} {l : Launch} {e : Env} {s : State} {m : MethodId} {args : Array Value} {below : List Frame} {meth : Method} {c : Code} {Γ : gE} (C0 : gCx p s m args meth c Γ RX10 cX10_layGood 7 none) {r1 nr1 : Nat} (hr1 : isI r1 nr1) {z : Unit × gG}   : ∀ (n : Nat) (l2 : Int32) (l3 : Int32) (l4 : Int32) (g : gG) (H : Heap) (locs : List Loc) (ls : Array Slot), fb_X10_layGood_12 r1 nr1 n l2 l3 l4 g = some z → va_P (gD Γ) gcls (lay Γ g) H → va_S (gA Γ) s.heap H locs → lv_has ls 7 [(0, .ref (gB Γ + 174)), (1, .ref (gB Γ + r1)), (2, .int l2), (3, .int l3), (4, .int l4)] → W p l e (gRm 3 65) s m args below meth c H locs 0 0 (MQ below (gQv Γ z) args s 0 0 (gA Γ)) (F0 m 12 ls []) := by
  intro n
  induction n with
  | zero => intro l2 l3 l4 g H locs ls h hP hS hl; cases h
  | succ n ih => intro l2 l3 l4 g H locs ls h hP hS hl; exact bs_X10_layGood_12 C0 hr1 ih h hP hS hl
set_option maxHeartbeats 2000000 in
set_option maxRecDepth 20000 in
theorem m_X10_layGood (l : Launch) (Γ : gE) {r1 nr1 : Nat} (hr1 : isI r1 nr1) (a2 : Int32) (g : gG) (z : Unit × gG) (h : f_X10_layGood r1 nr1 a2 g = some z) : gMv l yX10_layGood cX10_layGood 7 none 3 65 Γ [.ref (gB Γ + 174), .ref (gB Γ + r1), .int a2] g z := by
  unfold f_X10_layGood at h
  refine gStart (own := RX10) (by decide +kernel) rfl (Nat.le_of_ble_eq_true rfl) ?_
  intro p e s m below meth c C0 ls hl hP
  have hS : va_S (gA Γ) s.heap s.heap [] := va_S.rf
  have hl : lv_has ls 7 [(0, .ref (gB Γ + 174)), (1, .ref (gB Γ + r1)), (2, .int a2)] := hl
  obtain ⟨hx, hb, hml, hr, hown, hts, hK, hlk, hX⟩ := id C0
  refine lv_aload_n hx hb dX10_layGood_0 rfl (lv_at hl 1 rfl) ?_
  refine gCSi (rest := []) C0 cal_X10_chest wl_X10_94 wt_X10_chest ⟨Nat.le_of_ble_eq_true rfl, Nat.le_of_ble_eq_true rfl⟩ ⟨Nat.le_of_ble_eq_true rfl, Nat.le_of_ble_eq_true rfl⟩ [.ref (gB Γ + r1)] rfl (Nat.le_of_ble_eq_true rfl) hP hS hl.1 dX10_layGood_1 h (fun u hu => m_X10_chest l Γ hr1 g u hu) (fun u1 H locs h hP hS => ?_) rfl
  refine lv_topi (fun x2 ex2 => ?_)
  replace h := gLetI ex2 h
  refine lv_istore_n (lv' := [(3, .int x2), (0, .ref (gB Γ + 174)), (1, .ref (gB Γ + r1)), (2, .int a2)]) hx hb dX10_layGood_4 rfl hl (by decide) rfl (fun ls hl => ?_)
  refine lv_iconst (v := 1) hx hb dX10_layGood_5 (by decide) ?_
  refine lv_iload_n hx hb dX10_layGood_6 rfl (lv_at hl 0 rfl) ?_
  refine lv_ishl hx hb dX10_layGood_7 ?_
  refine lv_iconst (v := 1) hx hb dX10_layGood_8 (by decide) ?_
  refine lv_isub hx hb dX10_layGood_9 ?_
  refine lv_topi (fun x3 ex3 => ?_)
  replace h := gLetI ex3 h
  refine lv_istore (lv' := [(4, .int x3), (3, .int x2), (0, .ref (gB Γ + 174)), (1, .ref (gB Γ + r1)), (2, .int a2)]) hx hb dX10_layGood_10 hl (by decide) rfl (fun ls hl => ?_)
  exact bk_X10_layGood_12 C0 hr1 gFuel _ _ _ _ _ _ _ h hP hS (lv_sub hl [2, 3, 4, 1, 0] rfl)
set_option maxHeartbeats 2000000 in
set_option maxRecDepth 20000 in
theorem m_X10_reaches (l : Launch) (Γ : gE) {r1 nr1 : Nat} (hr1 : isI r1 nr1) (a2 : Int32) (g : gG) (z : Int32 × gG) (h : f_X10_reaches r1 nr1 a2 g = some z) : gMi l yX10_reaches cX10_reaches 3 (some .boolean) 1 21 Γ [.ref (gB Γ + 174), .ref (gB Γ + r1), .int a2] g z := by
  unfold f_X10_reaches at h
  refine gStart (own := RX10) (by decide +kernel) rfl (Nat.le_of_ble_eq_true rfl) ?_
  intro p e s m below meth c C0 ls hl hP
  have hS : va_S (gA Γ) s.heap s.heap [] := va_S.rf
  have hl : lv_has ls 3 [(0, .ref (gB Γ + 174)), (1, .ref (gB Γ + r1)), (2, .int a2)] := hl
  obtain ⟨hx, hb, hml, hr, hown, hts, hK, hlk, hX⟩ := id C0
  refine lv_iload_n hx hb dX10_reaches_0 rfl (lv_at hl 2 rfl) ?_
  refine lv_aload_n hx hb dX10_reaches_1 rfl (lv_at hl 1 rfl) ?_
  refine gCSi (rest := [.int a2]) C0 cal_X10_chest wl_X10_94 wt_X10_chest ⟨Nat.le_of_ble_eq_true rfl, Nat.le_of_ble_eq_true rfl⟩ ⟨Nat.le_of_ble_eq_true rfl, Nat.le_of_ble_eq_true rfl⟩ [.ref (gB Γ + r1)] rfl (Nat.le_of_ble_eq_true rfl) hP hS hl.1 dX10_reaches_2 h (fun u hu => m_X10_chest l Γ hr1 g u hu) (fun u1 H locs h hP hS => ?_) rfl
  refine gCSi (rest := []) C0 cal_X10_has wl_X10_65 wt_X10_has ⟨Nat.le_of_ble_eq_true rfl, Nat.le_of_ble_eq_true rfl⟩ ⟨Nat.le_of_ble_eq_true rfl, Nat.le_of_ble_eq_true rfl⟩ [.int a2, .int u1.1] rfl (Nat.le_of_ble_eq_true rfl) hP hS hl.1 dX10_reaches_5 h (fun u hu => m_X10_has l Γ a2 u1.1 u1.2 u hu) (fun u2 H locs h hP hS => ?_) rfl
  refine lv_if_ne (tgt := 20) hx hb dX10_reaches_8 (by decide) (fun c3 => ?_) (fun c3 => ?_)
  · replace h := gneg c3 h
    refine lv_iconst (v := 1) hx hb dX10_reaches_20 (by decide) ?_
    refine lv_goto (tgt := 25) hx hb dX10_reaches_21 (by decide) ?_
    exact gzret0 hx hb hr hlk hP hS rfl dX10_reaches_25 h
  · replace h := gpos c3 h
    refine lv_aload_n hx hb dX10_reaches_11 rfl (lv_at hl 0 rfl) ?_
    refine gf_10_19 hx hb hown hts hK hP wf_X10_50 dX10_reaches_12 ?_
    refine lv_iload_n hx hb dX10_reaches_15 rfl (lv_at hl 2 rfl) ?_
    refine gZld hx hb hK hP is_188 dX10_reaches_16 h (fun h => ?_)
    refine lv_if_eq (tgt := 24) hx hb dX10_reaches_17 (by decide) (fun c4 => ?_) (fun c4 => ?_)
    · replace h := gpos c4 h
      refine lv_iconst (v := 0) hx hb dX10_reaches_24 (by decide) ?_
      exact gzret0 hx hb hr hlk hP hS rfl dX10_reaches_25 h
    · replace h := gneg c4 h
      refine lv_iconst (v := 1) hx hb dX10_reaches_20 (by decide) ?_
      refine lv_goto (tgt := 25) hx hb dX10_reaches_21 (by decide) ?_
      exact gzret0 hx hb hr hlk hP hS rfl dX10_reaches_25 h
set_option maxHeartbeats 2000000 in
set_option maxRecDepth 20000 in
theorem bs_X10_safeOf_68 {p : Program} {l : Launch} {e : Env} {s : State} {m : MethodId} {args : Array Value} {below : List Frame} {meth : Method} {c : Code} {Γ : gE} (C0 : gCx p s m args meth c Γ RX10 cX10_safeOf 7 (some .int)) {r1 nr1 : Nat} (hr1 : isI r1 nr1) {z : Int32 × gG} {F26 : Int32 → Int32 → Int32 → Int32 → gG → Option (Int32 × gG)} {l3 : Int32} {l4 : Int32} {l6 : Int32} {s0 : Int32} {s1 : Int32} {g : gG} {H : Heap} {locs : List Loc} {ls : Array Slot} (hF26 : ∀ (l3 : Int32) (l4 : Int32) (l5 : Int32) (l6 : Int32) (g : gG) (H : Heap) (locs : List Loc) (ls : Array Slot), F26 l3 l4 l5 l6 g = some z → va_P (gD Γ) gcls (lay Γ g) H → va_S (gA Γ) s.heap H locs → lv_has ls 7 [(0, .ref (gB Γ + 174)), (1, .ref (gB Γ + r1)), (3, .int l3), (4, .int l4), (5, .int l5), (6, .int l6)] → W p l e (gRm 4 91) s m args below meth c H locs 0 0 (MQ below (gQi Γ z) args s 0 0 (gA Γ)) (F0 m 26 ls [])) (h : fs_X10_safeOf_68 r1 nr1 F26 l3 l4 l6 s0 s1 g = some z) (hP : va_P (gD Γ) gcls (lay Γ g) H) (hS : va_S (gA Γ) s.heap H locs) (hl : lv_has ls 7 [(0, .ref (gB Γ + 174)), (1, .ref (gB Γ + r1)), (3, .int l3), (4, .int l4), (6, .int l6)]) : W p l e (gRm 4 91) s m args below meth c H locs 0 0 (MQ below (gQi Γ z) args s 0 0 (gA Γ)) (F0 m 68 ls [.int s1, .int s0]) := by
  unfold fs_X10_safeOf_68 at h
  obtain ⟨hx, hb, hml, hr, hown, hts, hK, hlk, hX⟩ := id C0
  refine lv_ior hx hb dX10_safeOf_68 ?_
  refine lv_topi (fun x1 ex1 => ?_)
  replace h := gLetI ex1 h
  refine lv_istore (lv' := [(5, .int x1), (0, .ref (gB Γ + 174)), (1, .ref (gB Γ + r1)), (3, .int l3), (4, .int l4), (6, .int l6)]) hx hb dX10_safeOf_69 hl (by decide) rfl (fun ls hl => ?_)
  obtain ⟨x2, ex2⟩ : ∃ y : Int32, y = l6 + (1 : Int32) := ⟨_, rfl⟩
  replace h := gLetI ex2 h
  refine lv_iinc (v := x2) (lv' := [(6, .int x2), (5, .int x1), (0, .ref (gB Γ + 174)), (1, .ref (gB Γ + r1)), (3, .int l3), (4, .int l4)]) hx hb dX10_safeOf_71 hl (k := 5) rfl (by rw [ex2]; rfl) (by decide) rfl (fun ls hl => ?_)
  refine lv_goto (tgt := 26) hx hb dX10_safeOf_74 (by decide) ?_
  exact hF26 _ _ _ _ _ _ _ _ h hP hS (lv_sub hl [2, 3, 4, 5, 1, 0] rfl)
set_option maxHeartbeats 2000000 in
set_option maxRecDepth 20000 in
theorem bs_X10_safeOf_67 {p : Program} {l : Launch} {e : Env} {s : State} {m : MethodId} {args : Array Value} {below : List Frame} {meth : Method} {c : Code} {Γ : gE} (C0 : gCx p s m args meth c Γ RX10 cX10_safeOf 7 (some .int)) {r1 nr1 : Nat} (hr1 : isI r1 nr1) {z : Int32 × gG} {F26 : Int32 → Int32 → Int32 → Int32 → gG → Option (Int32 × gG)} {l3 : Int32} {l4 : Int32} {l6 : Int32} {s0 : Int32} {g : gG} {H : Heap} {locs : List Loc} {ls : Array Slot} (hF26 : ∀ (l3 : Int32) (l4 : Int32) (l5 : Int32) (l6 : Int32) (g : gG) (H : Heap) (locs : List Loc) (ls : Array Slot), F26 l3 l4 l5 l6 g = some z → va_P (gD Γ) gcls (lay Γ g) H → va_S (gA Γ) s.heap H locs → lv_has ls 7 [(0, .ref (gB Γ + 174)), (1, .ref (gB Γ + r1)), (3, .int l3), (4, .int l4), (5, .int l5), (6, .int l6)] → W p l e (gRm 4 91) s m args below meth c H locs 0 0 (MQ below (gQi Γ z) args s 0 0 (gA Γ)) (F0 m 26 ls [])) (h : fs_X10_safeOf_67 r1 nr1 F26 l3 l4 l6 s0 g = some z) (hP : va_P (gD Γ) gcls (lay Γ g) H) (hS : va_S (gA Γ) s.heap H locs) (hl : lv_has ls 7 [(0, .ref (gB Γ + 174)), (1, .ref (gB Γ + r1)), (3, .int l3), (4, .int l4), (6, .int l6)]) : W p l e (gRm 4 91) s m args below meth c H locs 0 0 (MQ below (gQi Γ z) args s 0 0 (gA Γ)) (F0 m 67 ls [.int s0]) := by
  unfold fs_X10_safeOf_67 at h
  obtain ⟨hx, hb, hml, hr, hown, hts, hK, hlk, hX⟩ := id C0
  refine lv_iconst (v := 0) hx hb dX10_safeOf_67 (by decide) ?_
  exact bs_X10_safeOf_68 C0 hr1 hF26 h hP hS (lv_sub hl [0, 1, 2, 3, 4] rfl)
set_option maxHeartbeats 2000000 in
set_option maxRecDepth 20000 in
theorem bs_X10_safeOf_26 {p : Program} {l : Launch} {e : Env} {s : State} {m : MethodId} {args : Array Value} {below : List Frame} {meth : Method} {c : Code} {Γ : gE} (C0 : gCx p s m args meth c Γ RX10 cX10_safeOf 7 (some .int)) {r1 nr1 : Nat} (hr1 : isI r1 nr1) {z : Int32 × gG} {F26 : Int32 → Int32 → Int32 → Int32 → gG → Option (Int32 × gG)} {l3 : Int32} {l4 : Int32} {l5 : Int32} {l6 : Int32} {g : gG} {H : Heap} {locs : List Loc} {ls : Array Slot} (hF26 : ∀ (l3 : Int32) (l4 : Int32) (l5 : Int32) (l6 : Int32) (g : gG) (H : Heap) (locs : List Loc) (ls : Array Slot), F26 l3 l4 l5 l6 g = some z → va_P (gD Γ) gcls (lay Γ g) H → va_S (gA Γ) s.heap H locs → lv_has ls 7 [(0, .ref (gB Γ + 174)), (1, .ref (gB Γ + r1)), (3, .int l3), (4, .int l4), (5, .int l5), (6, .int l6)] → W p l e (gRm 4 91) s m args below meth c H locs 0 0 (MQ below (gQi Γ z) args s 0 0 (gA Γ)) (F0 m 26 ls [])) (h : fs_X10_safeOf_26 r1 nr1 F26 l3 l4 l5 l6 g = some z) (hP : va_P (gD Γ) gcls (lay Γ g) H) (hS : va_S (gA Γ) s.heap H locs) (hl : lv_has ls 7 [(0, .ref (gB Γ + 174)), (1, .ref (gB Γ + r1)), (3, .int l3), (4, .int l4), (5, .int l5), (6, .int l6)]) : W p l e (gRm 4 91) s m args below meth c H locs 0 0 (MQ below (gQi Γ z) args s 0 0 (gA Γ)) (F0 m 26 ls []) := by
  unfold fs_X10_safeOf_26 at h
  obtain ⟨hx, hb, hml, hr, hown, hts, hK, hlk, hX⟩ := id C0
  refine lv_iload hx hb dX10_safeOf_26 (lv_at hl 5 rfl) ?_
  refine lv_aload_n hx hb dX10_safeOf_28 rfl (lv_at hl 1 rfl) ?_
  refine lv_iconst (v := 0) hx hb dX10_safeOf_29 (by decide) ?_
  refine gIld hx hb hK hP hr1 dX10_safeOf_30 h (fun h => ?_)
  refine lv_icmp_ge (tgt := 77) hx hb dX10_safeOf_31 (by decide) (fun c1 => ?_) (fun c1 => ?_)
  · replace h := gpos c1 h
    refine lv_iload hx hb dX10_safeOf_77 (lv_at hl 4 rfl) ?_
    exact giret hx hb hr hlk hP hS dX10_safeOf_79 h
  · replace h := gneg c1 h
    refine lv_iload hx hb dX10_safeOf_34 (lv_at hl 4 rfl) ?_
    refine lv_iload hx hb dX10_safeOf_36 (lv_at hl 3 rfl) ?_
    refine lv_iload hx hb dX10_safeOf_38 (lv_at hl 5 rfl) ?_
    refine gCSi (rest := [.int l5]) C0 cal_X10_has wl_X10_65 wt_X10_has ⟨Nat.le_of_ble_eq_true rfl, Nat.le_of_ble_eq_true rfl⟩ ⟨Nat.le_of_ble_eq_true rfl, Nat.le_of_ble_eq_true rfl⟩ [.int l4, .int l6] rfl (Nat.le_of_ble_eq_true rfl) hP hS hl.1 dX10_safeOf_40 h (fun u hu => m_X10_has l Γ l4 l6 g u hu) (fun u2 H locs h hP hS => ?_) rfl
    refine lv_if_eq (tgt := 67) hx hb dX10_safeOf_43 (by decide) (fun c3 => ?_) (fun c3 => ?_)
    · replace h := gpos c3 h
      exact bs_X10_safeOf_67 C0 hr1 hF26 h hP hS (lv_sub hl [0, 1, 2, 3, 5] rfl)
    · replace h := gneg c3 h
      refine lv_aload_n hx hb dX10_safeOf_46 rfl (lv_at hl 0 rfl) ?_
      refine lv_aload_n hx hb dX10_safeOf_47 rfl (lv_at hl 1 rfl) ?_
      refine lv_iload_n hx hb dX10_safeOf_48 rfl (lv_at hl 2 rfl) ?_
      refine lv_iconst (v := 1) hx hb dX10_safeOf_49 (by decide) ?_
      refine lv_iload hx hb dX10_safeOf_50 (lv_at hl 5 rfl) ?_
      refine lv_ishl hx hb dX10_safeOf_52 ?_
      refine lv_ior hx hb dX10_safeOf_53 ?_
      refine gCVi (rest := [.int l5]) C0 cal_X10_reaches wl_X10_126 wi_X10_reaches ws_X10_reaches ⟨Nat.le_of_ble_eq_true rfl, Nat.le_of_ble_eq_true rfl⟩ ⟨Nat.le_of_ble_eq_true rfl, Nat.le_of_ble_eq_true rfl⟩ grv_10 [.ref (gB Γ + r1), .int (l3 ||| ((1 : Int32) <<< (l6 &&& 31)))] rfl (Nat.le_of_ble_eq_true rfl) hP hS hl.1 dX10_safeOf_54 h (fun u hu => m_X10_reaches l Γ hr1 (l3 ||| ((1 : Int32) <<< (l6 &&& 31))) u2.2 u hu) (fun u4 H locs h hP hS => ?_) rfl
      refine lv_if_eq (tgt := 67) hx hb dX10_safeOf_57 (by decide) (fun c5 => ?_) (fun c5 => ?_)
      · replace h := gpos c5 h
        exact bs_X10_safeOf_67 C0 hr1 hF26 h hP hS (lv_sub hl [0, 1, 2, 3, 5] rfl)
      · replace h := gneg c5 h
        refine lv_iconst (v := 1) hx hb dX10_safeOf_60 (by decide) ?_
        refine lv_iload hx hb dX10_safeOf_61 (lv_at hl 5 rfl) ?_
        refine lv_ishl hx hb dX10_safeOf_63 ?_
        refine lv_goto (tgt := 68) hx hb dX10_safeOf_64 (by decide) ?_
        exact bs_X10_safeOf_68 C0 hr1 hF26 h hP hS (lv_sub hl [0, 1, 2, 3, 5] rfl)
set_option maxHeartbeats 2000000 in
set_option maxRecDepth 20000 in
theorem bk_X10_safeOf_26 {p : Program} {l : Launch} {e : Env} {s : State} {m : MethodId} {args : Array Value} {below : List Frame} {meth : Method} {c : Code} {Γ : gE} (C0 : gCx p s m args meth c Γ RX10 cX10_safeOf 7 (some .int)) {r1 nr1 : Nat} (hr1 : isI r1 nr1) {z : Int32 × gG}   : ∀ (n : Nat) (l3 : Int32) (l4 : Int32) (l5 : Int32) (l6 : Int32) (g : gG) (H : Heap) (locs : List Loc) (ls : Array Slot), fb_X10_safeOf_26 r1 nr1 n l3 l4 l5 l6 g = some z → va_P (gD Γ) gcls (lay Γ g) H → va_S (gA Γ) s.heap H locs → lv_has ls 7 [(0, .ref (gB Γ + 174)), (1, .ref (gB Γ + r1)), (3, .int l3), (4, .int l4), (5, .int l5), (6, .int l6)] → W p l e (gRm 4 91) s m args below meth c H locs 0 0 (MQ below (gQi Γ z) args s 0 0 (gA Γ)) (F0 m 26 ls []) := by
  intro n
  induction n with
  | zero => intro l3 l4 l5 l6 g H locs ls h hP hS hl; cases h
  | succ n ih => intro l3 l4 l5 l6 g H locs ls h hP hS hl; exact bs_X10_safeOf_26 C0 hr1 ih h hP hS hl
set_option maxHeartbeats 2000000 in
set_option maxRecDepth 20000 in
theorem m_X10_safeOf (l : Launch) (Γ : gE) {r1 nr1 : Nat} (hr1 : isI r1 nr1) (a2 : Int32) (g : gG) (z : Int32 × gG) (h : f_X10_safeOf r1 nr1 a2 g = some z) : gMi l yX10_safeOf cX10_safeOf 7 (some .int) 4 91 Γ [.ref (gB Γ + 174), .ref (gB Γ + r1), .int a2] g z := by
  unfold f_X10_safeOf at h
  refine gStart (own := RX10) (by decide +kernel) rfl (Nat.le_of_ble_eq_true rfl) ?_
  intro p e s m below meth c C0 ls hl hP
  have hS : va_S (gA Γ) s.heap s.heap [] := va_S.rf
  have hl : lv_has ls 7 [(0, .ref (gB Γ + 174)), (1, .ref (gB Γ + r1)), (2, .int a2)] := hl
  obtain ⟨hx, hb, hml, hr, hown, hts, hK, hlk, hX⟩ := id C0
  refine lv_aload_n hx hb dX10_safeOf_0 rfl (lv_at hl 1 rfl) ?_
  refine lv_iload_n hx hb dX10_safeOf_1 rfl (lv_at hl 2 rfl) ?_
  refine gCSi (rest := []) C0 cal_X10_visited wl_X10_104 wt_X10_visited ⟨Nat.le_of_ble_eq_true rfl, Nat.le_of_ble_eq_true rfl⟩ ⟨Nat.le_of_ble_eq_true rfl, Nat.le_of_ble_eq_true rfl⟩ [.ref (gB Γ + r1), .int a2] rfl (Nat.le_of_ble_eq_true rfl) hP hS hl.1 dX10_safeOf_2 h (fun u hu => m_X10_visited l Γ hr1 a2 g u hu) (fun u1 H locs h hP hS => ?_) rfl
  refine lv_topi (fun x2 ex2 => ?_)
  replace h := gLetI ex2 h
  refine lv_istore_n (lv' := [(3, .int x2), (0, .ref (gB Γ + 174)), (1, .ref (gB Γ + r1)), (2, .int a2)]) hx hb dX10_safeOf_5 rfl hl (by decide) rfl (fun ls hl => ?_)
  refine lv_aload_n hx hb dX10_safeOf_6 rfl (lv_at hl 2 rfl) ?_
  refine lv_iload_n hx hb dX10_safeOf_7 rfl (lv_at hl 0 rfl) ?_
  refine gCSi (rest := []) C0 cal_X10_openOf wl_X10_119 wt_X10_openOf ⟨Nat.le_of_ble_eq_true rfl, Nat.le_of_ble_eq_true rfl⟩ ⟨Nat.le_of_ble_eq_true rfl, Nat.le_of_ble_eq_true rfl⟩ [.ref (gB Γ + r1), .int x2] rfl (Nat.le_of_ble_eq_true rfl) hP hS hl.1 dX10_safeOf_8 h (fun u hu => m_X10_openOf l Γ hr1 x2 u1.2 u hu) (fun u3 H locs h hP hS => ?_) rfl
  refine lv_topi (fun x4 ex4 => ?_)
  replace h := gLetI ex4 h
  refine lv_istore (lv' := [(4, .int x4), (3, .int x2), (0, .ref (gB Γ + 174)), (1, .ref (gB Γ + r1)), (2, .int a2)]) hx hb dX10_safeOf_11 hl (by decide) rfl (fun ls hl => ?_)
  refine lv_iconst (v := 0) hx hb dX10_safeOf_13 (by decide) ?_
  refine lv_istore (lv' := [(5, .int (0 : Int32)), (4, .int x4), (3, .int x2), (0, .ref (gB Γ + 174)), (1, .ref (gB Γ + r1)), (2, .int a2)]) hx hb dX10_safeOf_14 hl (by decide) rfl (fun ls hl => ?_)
  refine lv_aload_n hx hb dX10_safeOf_16 rfl (lv_at hl 3 rfl) ?_
  refine lv_aload_n hx hb dX10_safeOf_17 rfl (lv_at hl 4 rfl) ?_
  refine lv_bipush (v := -9) hx hb dX10_safeOf_18 (by decide) ?_
  refine gCVv (rest := []) C0 cal_X10_layGood wl_X10_122 wi_X10_layGood ws_X10_layGood ⟨Nat.le_of_ble_eq_true rfl, Nat.le_of_ble_eq_true rfl⟩ ⟨Nat.le_of_ble_eq_true rfl, Nat.le_of_ble_eq_true rfl⟩ grv_10 [.ref (gB Γ + r1), .int (-9 : Int32)] rfl (Nat.le_of_ble_eq_true rfl) hP hS hl.1 dX10_safeOf_20 h (fun u hu => m_X10_layGood l Γ hr1 (-9 : Int32) u3.2 u hu) (fun u5 H locs h hP hS => ?_) rfl
  refine lv_iconst (v := 0) hx hb dX10_safeOf_23 (by decide) ?_
  refine lv_istore (lv' := [(6, .int (0 : Int32)), (5, .int (0 : Int32)), (4, .int x4), (3, .int x2), (0, .ref (gB Γ + 174)), (1, .ref (gB Γ + r1)), (2, .int a2)]) hx hb dX10_safeOf_24 hl (by decide) rfl (fun ls hl => ?_)
  exact bk_X10_safeOf_26 C0 hr1 gFuel _ _ _ _ _ _ _ _ h hP hS (lv_sub hl [4, 5, 3, 2, 1, 0] rfl)
set_option maxHeartbeats 2000000 in
set_option maxRecDepth 20000 in
theorem bs_X10_smallest_2 {p : Program} {l : Launch} {e : Env} {s : State} {m : MethodId} {args : Array Value} {below : List Frame} {meth : Method} {c : Code} {Γ : gE} (C0 : gCx p s m args meth c Γ RX10 cX10_smallest 2 (some .int))   {z : Int32 × gG} {F2 : Int32 → Int32 → gG → Option (Int32 × gG)} {l0 : Int32} {l1 : Int32} {g : gG} {H : Heap} {locs : List Loc} {ls : Array Slot} (hF2 : ∀ (l0 : Int32) (l1 : Int32) (g : gG) (H : Heap) (locs : List Loc) (ls : Array Slot), F2 l0 l1 g = some z → va_P (gD Γ) gcls (lay Γ g) H → va_S (gA Γ) s.heap H locs → lv_has ls 2 [(0, .int l0), (1, .int l1)] → W p l e (gRm 1 21) s m args below meth c H locs 0 0 (MQ below (gQi Γ z) args s 0 0 (gA Γ)) (F0 m 2 ls [])) (h : fs_X10_smallest_2 F2 l0 l1 g = some z) (hP : va_P (gD Γ) gcls (lay Γ g) H) (hS : va_S (gA Γ) s.heap H locs) (hl : lv_has ls 2 [(0, .int l0), (1, .int l1)]) : W p l e (gRm 1 21) s m args below meth c H locs 0 0 (MQ below (gQi Γ z) args s 0 0 (gA Γ)) (F0 m 2 ls []) := by
  unfold fs_X10_smallest_2 at h
  obtain ⟨hx, hb, hml, hr, hown, hts, hK, hlk, hX⟩ := id C0
  refine lv_iload_n hx hb dX10_smallest_2 rfl (lv_at hl 1 rfl) ?_
  refine lv_bipush (v := 10) hx hb dX10_smallest_3 (by decide) ?_
  refine lv_icmp_ge (tgt := 24) hx hb dX10_smallest_5 (by decide) (fun c1 => ?_) (fun c1 => ?_)
  · replace h := gpos c1 h
    refine lv_bipush (v := -9) hx hb dX10_smallest_24 (by decide) ?_
    exact giret hx hb hr hlk hP hS dX10_smallest_26 h
  · replace h := gneg c1 h
    refine lv_iload_n hx hb dX10_smallest_8 rfl (lv_at hl 0 rfl) ?_
    refine lv_iload_n hx hb dX10_smallest_9 rfl (lv_at hl 1 rfl) ?_
    refine gCSi (rest := []) C0 cal_X10_has wl_X10_65 wt_X10_has ⟨Nat.le_of_ble_eq_true rfl, Nat.le_of_ble_eq_true rfl⟩ ⟨Nat.le_of_ble_eq_true rfl, Nat.le_of_ble_eq_true rfl⟩ [.int l0, .int l1] rfl (Nat.le_of_ble_eq_true rfl) hP hS hl.1 dX10_smallest_10 h (fun u hu => m_X10_has l Γ l0 l1 g u hu) (fun u2 H locs h hP hS => ?_) rfl
    refine lv_if_eq (tgt := 18) hx hb dX10_smallest_13 (by decide) (fun c3 => ?_) (fun c3 => ?_)
    · replace h := gpos c3 h
      obtain ⟨x4, ex4⟩ : ∃ y : Int32, y = l1 + (1 : Int32) := ⟨_, rfl⟩
      replace h := gLetI ex4 h
      refine lv_iinc (v := x4) (lv' := [(1, .int x4), (0, .int l0)]) hx hb dX10_smallest_18 hl (k := 1) rfl (by rw [ex4]; rfl) (by decide) rfl (fun ls hl => ?_)
      refine lv_goto (tgt := 2) hx hb dX10_smallest_21 (by decide) ?_
      exact hF2 _ _ _ _ _ _ h hP hS (lv_sub hl [1, 0] rfl)
    · replace h := gneg c3 h
      refine lv_iload_n hx hb dX10_smallest_16 rfl (lv_at hl 1 rfl) ?_
      exact giret hx hb hr hlk hP hS dX10_smallest_17 h
set_option maxHeartbeats 2000000 in
set_option maxRecDepth 20000 in
theorem bk_X10_smallest_2 {p : Program} {l : Launch} {e : Env} {s : State} {m : MethodId} {args : Array Value} {below : List Frame} {meth : Method} {c : Code} {Γ : gE} (C0 : gCx p s m args meth c Γ RX10 cX10_smallest 2 (some .int))   {z : Int32 × gG}   : ∀ (n : Nat) (l0 : Int32) (l1 : Int32) (g : gG) (H : Heap) (locs : List Loc) (ls : Array Slot), fb_X10_smallest_2 n l0 l1 g = some z → va_P (gD Γ) gcls (lay Γ g) H → va_S (gA Γ) s.heap H locs → lv_has ls 2 [(0, .int l0), (1, .int l1)] → W p l e (gRm 1 21) s m args below meth c H locs 0 0 (MQ below (gQi Γ z) args s 0 0 (gA Γ)) (F0 m 2 ls []) := by
  intro n
  induction n with
  | zero => intro l0 l1 g H locs ls h hP hS hl; cases h
  | succ n ih => intro l0 l1 g H locs ls h hP hS hl; exact bs_X10_smallest_2 C0  ih h hP hS hl
set_option maxHeartbeats 2000000 in
set_option maxRecDepth 20000 in
theorem m_X10_smallest (l : Launch) (Γ : gE)   (a0 : Int32) (g : gG) (z : Int32 × gG) (h : f_X10_smallest a0 g = some z) : gMi l yX10_smallest cX10_smallest 2 (some .int) 1 21 Γ [.int a0] g z := by
  unfold f_X10_smallest at h
  refine gStart (own := RX10) (by decide +kernel) rfl (Nat.le_of_ble_eq_true rfl) ?_
  intro p e s m below meth c C0 ls hl hP
  have hS : va_S (gA Γ) s.heap s.heap [] := va_S.rf
  have hl : lv_has ls 2 [(0, .int a0)] := hl
  obtain ⟨hx, hb, hml, hr, hown, hts, hK, hlk, hX⟩ := id C0
  refine lv_iconst (v := 0) hx hb dX10_smallest_0 (by decide) ?_
  refine lv_istore_n (lv' := [(1, .int (0 : Int32)), (0, .int a0)]) hx hb dX10_smallest_1 rfl hl (by decide) rfl (fun ls hl => ?_)
  exact bk_X10_smallest_2 C0  gFuel _ _ _ _ _ _ h hP hS (lv_sub hl [1, 0] rfl)
set_option maxHeartbeats 2000000 in
set_option maxRecDepth 20000 in
theorem bs_X10_layFewest_136 {p : Program} {l : Launch} {e : Env} {s : State} {m : MethodId} {args : Array Value} {below : List Frame} {meth : Method} {c : Code} {Γ : gE} (C0 : gCx p s m args meth c Γ RX10 cX10_layFewest 7 none) {r1 nr1 : Nat} (hr1 : isI r1 nr1) {z : Unit × gG} {F11 : Int32 → Int32 → gG → Option (Unit × gG)} {F59 : Int32 → Int32 → Int32 → gG → Option (Unit × gG)} {l2 : Int32} {l3 : Int32} {l5 : Int32} {l6 : Int32} {s1 : Int32} {s2 : Int32} {g : gG} {H : Heap} {locs : List Loc} {ls : Array Slot} (hF11 : ∀ (l2 : Int32) (l3 : Int32) (g : gG) (H : Heap) (locs : List Loc) (ls : Array Slot), F11 l2 l3 g = some z → va_P (gD Γ) gcls (lay Γ g) H → va_S (gA Γ) s.heap H locs → lv_has ls 7 [(0, .ref (gB Γ + 174)), (1, .ref (gB Γ + r1)), (2, .int l2), (3, .int l3)] → W p l e (gRm 3 65) s m args below meth c H locs 0 0 (MQ below (gQv Γ z) args s 0 0 (gA Γ)) (F0 m 11 ls [])) (hF59 : ∀ (l2 : Int32) (l3 : Int32) (l5 : Int32) (g : gG) (H : Heap) (locs : List Loc) (ls : Array Slot), F59 l2 l3 l5 g = some z → va_P (gD Γ) gcls (lay Γ g) H → va_S (gA Γ) s.heap H locs → lv_has ls 7 [(0, .ref (gB Γ + 174)), (1, .ref (gB Γ + r1)), (2, .int l2), (3, .int l3), (5, .int l5)] → W p l e (gRm 3 65) s m args below meth c H locs 0 0 (MQ below (gQv Γ z) args s 0 0 (gA Γ)) (F0 m 59 ls [])) (h : fs_X10_layFewest_136 r1 nr1 F11 F59 l2 l3 l5 l6 s1 s2 g = some z) (hP : va_P (gD Γ) gcls (lay Γ g) H) (hS : va_S (gA Γ) s.heap H locs) (hl : lv_has ls 7 [(0, .ref (gB Γ + 174)), (1, .ref (gB Γ + r1)), (2, .int l2), (3, .int l3), (5, .int l5), (6, .int l6)]) : W p l e (gRm 3 65) s m args below meth c H locs 0 0 (MQ below (gQv Γ z) args s 0 0 (gA Γ)) (F0 m 136 ls [.int s2, .int s1, .ref (gB Γ + 190)]) := by
  unfold fs_X10_layFewest_136 at h
  obtain ⟨hx, hb, hml, hr, hown, hts, hK, hlk, hX⟩ := id C0
  refine gIst hx hb hK hP hS is_190 dX10_layFewest_136 h (fun H locs g1 h hP hS => ?_)
  refine lv_aload_n hx hb dX10_layFewest_137 rfl (lv_at hl 0 rfl) ?_
  refine gf_10_22 hx hb hown hts hK hP wf_X10_59 dX10_layFewest_138 ?_
  refine lv_iload_n hx hb dX10_layFewest_141 rfl (lv_at hl 3 rfl) ?_
  refine lv_dup2_11 hx hb dX10_layFewest_142 rfl rfl ?_
  refine gIld hx hb hK hP is_191 dX10_layFewest_143 h (fun h => ?_)
  refine lv_aload_n hx hb dX10_layFewest_144 rfl (lv_at hl 0 rfl) ?_
  refine gf_10_22 hx hb hown hts hK hP wf_X10_59 dX10_layFewest_145 ?_
  refine lv_iload hx hb dX10_layFewest_148 (lv_at hl 5 rfl) ?_
  refine gIld hx hb hK hP is_191 dX10_layFewest_150 h (fun h => ?_)
  refine lv_iadd hx hb dX10_layFewest_151 ?_
  refine gIst hx hb hK hP hS is_191 dX10_layFewest_152 h (fun H locs g2 h hP hS => ?_)
  obtain ⟨x3, ex3⟩ : ∃ y : Int32, y = l5 + (1 : Int32) := ⟨_, rfl⟩
  replace h := gLetI ex3 h
  refine lv_iinc (v := x3) (lv' := [(5, .int x3), (0, .ref (gB Γ + 174)), (1, .ref (gB Γ + r1)), (2, .int l2), (3, .int l3), (6, .int l6)]) hx hb dX10_layFewest_153 hl (k := 4) rfl (by rw [ex3]; rfl) (by decide) rfl (fun ls hl => ?_)
  refine lv_goto (tgt := 59) hx hb dX10_layFewest_156 (by decide) ?_
  exact hF59 _ _ _ _ _ _ _ h hP hS (lv_sub hl [1, 2, 3, 4, 0] rfl)
set_option maxHeartbeats 2000000 in
set_option maxRecDepth 20000 in
theorem bs_X10_layFewest_130 {p : Program} {l : Launch} {e : Env} {s : State} {m : MethodId} {args : Array Value} {below : List Frame} {meth : Method} {c : Code} {Γ : gE} (C0 : gCx p s m args meth c Γ RX10 cX10_layFewest 7 none) {r1 nr1 : Nat} (hr1 : isI r1 nr1) {z : Unit × gG} {F11 : Int32 → Int32 → gG → Option (Unit × gG)} {F59 : Int32 → Int32 → Int32 → gG → Option (Unit × gG)} {l2 : Int32} {l3 : Int32} {l5 : Int32} {l6 : Int32} {s1 : Int32} {g : gG} {H : Heap} {locs : List Loc} {ls : Array Slot} (hF11 : ∀ (l2 : Int32) (l3 : Int32) (g : gG) (H : Heap) (locs : List Loc) (ls : Array Slot), F11 l2 l3 g = some z → va_P (gD Γ) gcls (lay Γ g) H → va_S (gA Γ) s.heap H locs → lv_has ls 7 [(0, .ref (gB Γ + 174)), (1, .ref (gB Γ + r1)), (2, .int l2), (3, .int l3)] → W p l e (gRm 3 65) s m args below meth c H locs 0 0 (MQ below (gQv Γ z) args s 0 0 (gA Γ)) (F0 m 11 ls [])) (hF59 : ∀ (l2 : Int32) (l3 : Int32) (l5 : Int32) (g : gG) (H : Heap) (locs : List Loc) (ls : Array Slot), F59 l2 l3 l5 g = some z → va_P (gD Γ) gcls (lay Γ g) H → va_S (gA Γ) s.heap H locs → lv_has ls 7 [(0, .ref (gB Γ + 174)), (1, .ref (gB Γ + r1)), (2, .int l2), (3, .int l3), (5, .int l5)] → W p l e (gRm 3 65) s m args below meth c H locs 0 0 (MQ below (gQv Γ z) args s 0 0 (gA Γ)) (F0 m 59 ls [])) (h : fs_X10_layFewest_130 r1 nr1 F11 F59 l2 l3 l5 l6 s1 g = some z) (hP : va_P (gD Γ) gcls (lay Γ g) H) (hS : va_S (gA Γ) s.heap H locs) (hl : lv_has ls 7 [(0, .ref (gB Γ + 174)), (1, .ref (gB Γ + r1)), (2, .int l2), (3, .int l3), (5, .int l5), (6, .int l6)]) : W p l e (gRm 3 65) s m args below meth c H locs 0 0 (MQ below (gQv Γ z) args s 0 0 (gA Γ)) (F0 m 130 ls [.int s1, .ref (gB Γ + 190)]) := by
  unfold fs_X10_layFewest_130 at h
  obtain ⟨hx, hb, hml, hr, hown, hts, hK, hlk, hX⟩ := id C0
  refine lv_aload_n hx hb dX10_layFewest_130 rfl (lv_at hl 0 rfl) ?_
  refine gf_10_21 hx hb hown hts hK hP wf_X10_56 dX10_layFewest_131 ?_
  refine lv_iload_n hx hb dX10_layFewest_134 rfl (lv_at hl 3 rfl) ?_
  refine gIld hx hb hK hP is_190 dX10_layFewest_135 h (fun h => ?_)
  exact bs_X10_layFewest_136 C0 hr1 hF11 hF59 h hP hS (lv_sub hl [0, 1, 2, 3, 4, 5] rfl)
set_option maxHeartbeats 2000000 in
set_option maxRecDepth 20000 in
theorem bs_X10_layFewest_59 {p : Program} {l : Launch} {e : Env} {s : State} {m : MethodId} {args : Array Value} {below : List Frame} {meth : Method} {c : Code} {Γ : gE} (C0 : gCx p s m args meth c Γ RX10 cX10_layFewest 7 none) {r1 nr1 : Nat} (hr1 : isI r1 nr1) {z : Unit × gG} {F11 : Int32 → Int32 → gG → Option (Unit × gG)} {F59 : Int32 → Int32 → Int32 → gG → Option (Unit × gG)} {l2 : Int32} {l3 : Int32} {l5 : Int32} {g : gG} {H : Heap} {locs : List Loc} {ls : Array Slot} (hF11 : ∀ (l2 : Int32) (l3 : Int32) (g : gG) (H : Heap) (locs : List Loc) (ls : Array Slot), F11 l2 l3 g = some z → va_P (gD Γ) gcls (lay Γ g) H → va_S (gA Γ) s.heap H locs → lv_has ls 7 [(0, .ref (gB Γ + 174)), (1, .ref (gB Γ + r1)), (2, .int l2), (3, .int l3)] → W p l e (gRm 3 65) s m args below meth c H locs 0 0 (MQ below (gQv Γ z) args s 0 0 (gA Γ)) (F0 m 11 ls [])) (hF59 : ∀ (l2 : Int32) (l3 : Int32) (l5 : Int32) (g : gG) (H : Heap) (locs : List Loc) (ls : Array Slot), F59 l2 l3 l5 g = some z → va_P (gD Γ) gcls (lay Γ g) H → va_S (gA Γ) s.heap H locs → lv_has ls 7 [(0, .ref (gB Γ + 174)), (1, .ref (gB Γ + r1)), (2, .int l2), (3, .int l3), (5, .int l5)] → W p l e (gRm 3 65) s m args below meth c H locs 0 0 (MQ below (gQv Γ z) args s 0 0 (gA Γ)) (F0 m 59 ls [])) (h : fs_X10_layFewest_59 r1 nr1 F11 F59 l2 l3 l5 g = some z) (hP : va_P (gD Γ) gcls (lay Γ g) H) (hS : va_S (gA Γ) s.heap H locs) (hl : lv_has ls 7 [(0, .ref (gB Γ + 174)), (1, .ref (gB Γ + r1)), (2, .int l2), (3, .int l3), (5, .int l5)]) : W p l e (gRm 3 65) s m args below meth c H locs 0 0 (MQ below (gQv Γ z) args s 0 0 (gA Γ)) (F0 m 59 ls []) := by
  unfold fs_X10_layFewest_59 at h
  obtain ⟨hx, hb, hml, hr, hown, hts, hK, hlk, hX⟩ := id C0
  refine lv_iload hx hb dX10_layFewest_59 (lv_at hl 4 rfl) ?_
  refine lv_iload_n hx hb dX10_layFewest_61 rfl (lv_at hl 2 rfl) ?_
  refine lv_icmp_ge (tgt := 159) hx hb dX10_layFewest_62 (by decide) (fun c1 => ?_) (fun c1 => ?_)
  · replace h := gpos c1 h
    obtain ⟨x2, ex2⟩ : ∃ y : Int32, y = l3 + (-1 : Int32) := ⟨_, rfl⟩
    replace h := gLetI ex2 h
    refine lv_iinc (v := x2) (lv' := [(3, .int x2), (0, .ref (gB Γ + 174)), (1, .ref (gB Γ + r1)), (2, .int l2), (5, .int l5)]) hx hb dX10_layFewest_159 hl (k := 3) rfl (by rw [ex2]; rfl) (by decide) rfl (fun ls hl => ?_)
    refine lv_goto (tgt := 11) hx hb dX10_layFewest_162 (by decide) ?_
    exact hF11 _ _ _ _ _ _ h hP hS (lv_sub hl [1, 2, 3, 0] rfl)
  · replace h := gneg c1 h
    refine lv_aload_n hx hb dX10_layFewest_65 rfl (lv_at hl 1 rfl) ?_
    refine lv_iload_n hx hb dX10_layFewest_66 rfl (lv_at hl 3 rfl) ?_
    refine lv_iload hx hb dX10_layFewest_67 (lv_at hl 4 rfl) ?_
    refine gCSi (rest := []) C0 cal_X10_canVisit wl_X10_98 wt_X10_canVisit ⟨Nat.le_of_ble_eq_true rfl, Nat.le_of_ble_eq_true rfl⟩ ⟨Nat.le_of_ble_eq_true rfl, Nat.le_of_ble_eq_true rfl⟩ [.ref (gB Γ + r1), .int l3, .int l5] rfl (Nat.le_of_ble_eq_true rfl) hP hS hl.1 dX10_layFewest_69 h (fun u hu => m_X10_canVisit l Γ hr1 l3 l5 g u hu) (fun u3 H locs h hP hS => ?_) rfl
    refine lv_if_eq (tgt := 153) hx hb dX10_layFewest_72 (by decide) (fun c4 => ?_) (fun c4 => ?_)
    · replace h := gpos c4 h
      obtain ⟨x5, ex5⟩ : ∃ y : Int32, y = l5 + (1 : Int32) := ⟨_, rfl⟩
      replace h := gLetI ex5 h
      refine lv_iinc (v := x5) (lv' := [(5, .int x5), (0, .ref (gB Γ + 174)), (1, .ref (gB Γ + r1)), (2, .int l2), (3, .int l3)]) hx hb dX10_layFewest_153 hl (k := 4) rfl (by rw [ex5]; rfl) (by decide) rfl (fun ls hl => ?_)
      refine lv_goto (tgt := 59) hx hb dX10_layFewest_156 (by decide) ?_
      exact hF59 _ _ _ _ _ _ _ h hP hS (lv_sub hl [1, 2, 3, 4, 0] rfl)
    · replace h := gneg c4 h
      refine lv_iload_n hx hb dX10_layFewest_75 rfl (lv_at hl 3 rfl) ?_
      refine lv_iconst (v := 1) hx hb dX10_layFewest_76 (by decide) ?_
      refine lv_iload hx hb dX10_layFewest_77 (lv_at hl 4 rfl) ?_
      refine lv_ishl hx hb dX10_layFewest_79 ?_
      refine lv_ior hx hb dX10_layFewest_80 ?_
      refine lv_topi (fun x6 ex6 => ?_)
      replace h := gLetI ex6 h
      refine lv_istore (lv' := [(6, .int x6), (0, .ref (gB Γ + 174)), (1, .ref (gB Γ + r1)), (2, .int l2), (3, .int l3), (5, .int l5)]) hx hb dX10_layFewest_81 hl (by decide) rfl (fun ls hl => ?_)
      refine lv_aload_n hx hb dX10_layFewest_83 rfl (lv_at hl 1 rfl) ?_
      refine gf_10_21 hx hb hown hts hK hP wf_X10_56 dX10_layFewest_84 ?_
      refine lv_iload_n hx hb dX10_layFewest_87 rfl (lv_at hl 4 rfl) ?_
      refine lv_aload_n hx hb dX10_layFewest_88 rfl (lv_at hl 1 rfl) ?_
      refine gf_10_21 hx hb hown hts hK hP wf_X10_56 dX10_layFewest_89 ?_
      refine lv_iload hx hb dX10_layFewest_92 (lv_at hl 0 rfl) ?_
      refine gIld hx hb hK hP is_190 dX10_layFewest_94 h (fun h => ?_)
      refine lv_ldc (v := 99999999) hx hb hown (hts _ wk_X10_129) dX10_layFewest_95 ?_
      refine lv_icmp_ge (tgt := 130) hx hb dX10_layFewest_97 (by decide) (fun c7 => ?_) (fun c7 => ?_)
      · replace h := gpos c7 h
        exact bs_X10_layFewest_130 C0 hr1 hF11 hF59 h hP hS (lv_sub hl [1, 2, 3, 4, 5, 0] rfl)
      · replace h := gneg c7 h
        refine lv_aload_n hx hb dX10_layFewest_100 rfl (lv_at hl 1 rfl) ?_
        refine gf_10_21 hx hb hown hts hK hP wf_X10_56 dX10_layFewest_101 ?_
        refine lv_iload hx hb dX10_layFewest_104 (lv_at hl 0 rfl) ?_
        refine gIld hx hb hK hP is_190 dX10_layFewest_106 h (fun h => ?_)
        refine lv_iconst (v := 1) hx hb dX10_layFewest_107 (by decide) ?_
        refine lv_iadd hx hb dX10_layFewest_108 ?_
        refine lv_aload_n hx hb dX10_layFewest_109 rfl (lv_at hl 1 rfl) ?_
        refine gf_10_21 hx hb hown hts hK hP wf_X10_56 dX10_layFewest_110 ?_
        refine lv_iload_n hx hb dX10_layFewest_113 rfl (lv_at hl 4 rfl) ?_
        refine gIld hx hb hK hP is_190 dX10_layFewest_114 h (fun h => ?_)
        refine lv_icmp_ge (tgt := 130) hx hb dX10_layFewest_115 (by decide) (fun c8 => ?_) (fun c8 => ?_)
        · replace h := gpos c8 h
          exact bs_X10_layFewest_130 C0 hr1 hF11 hF59 h hP hS (lv_sub hl [1, 2, 3, 4, 5, 0] rfl)
        · replace h := gneg c8 h
          refine lv_aload_n hx hb dX10_layFewest_118 rfl (lv_at hl 1 rfl) ?_
          refine gf_10_21 hx hb hown hts hK hP wf_X10_56 dX10_layFewest_119 ?_
          refine lv_iload hx hb dX10_layFewest_122 (lv_at hl 0 rfl) ?_
          refine gIld hx hb hK hP is_190 dX10_layFewest_124 h (fun h => ?_)
          refine lv_iconst (v := 1) hx hb dX10_layFewest_125 (by decide) ?_
          refine lv_iadd hx hb dX10_layFewest_126 ?_
          refine lv_goto (tgt := 136) hx hb dX10_layFewest_127 (by decide) ?_
          exact bs_X10_layFewest_136 C0 hr1 hF11 hF59 h hP hS (lv_sub hl [1, 2, 3, 4, 5, 0] rfl)
set_option maxHeartbeats 2000000 in
set_option maxRecDepth 20000 in
theorem bk_X10_layFewest_59 {p : Program} {l : Launch} {e : Env} {s : State} {m : MethodId} {args : Array Value} {below : List Frame} {meth : Method} {c : Code} {Γ : gE} (C0 : gCx p s m args meth c Γ RX10 cX10_layFewest 7 none) {r1 nr1 : Nat} (hr1 : isI r1 nr1) {z : Unit × gG} {F11 : Int32 → Int32 → gG → Option (Unit × gG)} (hF11 : ∀ (l2 : Int32) (l3 : Int32) (g : gG) (H : Heap) (locs : List Loc) (ls : Array Slot), F11 l2 l3 g = some z → va_P (gD Γ) gcls (lay Γ g) H → va_S (gA Γ) s.heap H locs → lv_has ls 7 [(0, .ref (gB Γ + 174)), (1, .ref (gB Γ + r1)), (2, .int l2), (3, .int l3)] → W p l e (gRm 3 65) s m args below meth c H locs 0 0 (MQ below (gQv Γ z) args s 0 0 (gA Γ)) (F0 m 11 ls [])) : ∀ (n : Nat) (l2 : Int32) (l3 : Int32) (l5 : Int32) (g : gG) (H : Heap) (locs : List Loc) (ls : Array Slot), fb_X10_layFewest_59 r1 nr1 F11 n l2 l3 l5 g = some z → va_P (gD Γ) gcls (lay Γ g) H → va_S (gA Γ) s.heap H locs → lv_has ls 7 [(0, .ref (gB Γ + 174)), (1, .ref (gB Γ + r1)), (2, .int l2), (3, .int l3), (5, .int l5)] → W p l e (gRm 3 65) s m args below meth c H locs 0 0 (MQ below (gQv Γ z) args s 0 0 (gA Γ)) (F0 m 59 ls []) := by
  intro n
  induction n with
  | zero => intro l2 l3 l5 g H locs ls h hP hS hl; cases h
  | succ n ih => intro l2 l3 l5 g H locs ls h hP hS hl; exact bs_X10_layFewest_59 C0 hr1 hF11 ih h hP hS hl
set_option maxHeartbeats 2000000 in
set_option maxRecDepth 20000 in
theorem bs_X10_layFewest_55 {p : Program} {l : Launch} {e : Env} {s : State} {m : MethodId} {args : Array Value} {below : List Frame} {meth : Method} {c : Code} {Γ : gE} (C0 : gCx p s m args meth c Γ RX10 cX10_layFewest 7 none) {r1 nr1 : Nat} (hr1 : isI r1 nr1) {z : Unit × gG} {F11 : Int32 → Int32 → gG → Option (Unit × gG)} {l2 : Int32} {l3 : Int32} {s1 : Int32} {s2 : Int32} {g : gG} {H : Heap} {locs : List Loc} {ls : Array Slot} (hF11 : ∀ (l2 : Int32) (l3 : Int32) (g : gG) (H : Heap) (locs : List Loc) (ls : Array Slot), F11 l2 l3 g = some z → va_P (gD Γ) gcls (lay Γ g) H → va_S (gA Γ) s.heap H locs → lv_has ls 7 [(0, .ref (gB Γ + 174)), (1, .ref (gB Γ + r1)), (2, .int l2), (3, .int l3)] → W p l e (gRm 3 65) s m args below meth c H locs 0 0 (MQ below (gQv Γ z) args s 0 0 (gA Γ)) (F0 m 11 ls [])) (h : fs_X10_layFewest_55 r1 nr1 F11 l2 l3 s1 s2 g = some z) (hP : va_P (gD Γ) gcls (lay Γ g) H) (hS : va_S (gA Γ) s.heap H locs) (hl : lv_has ls 7 [(0, .ref (gB Γ + 174)), (1, .ref (gB Γ + r1)), (2, .int l2), (3, .int l3)]) : W p l e (gRm 3 65) s m args below meth c H locs 0 0 (MQ below (gQv Γ z) args s 0 0 (gA Γ)) (F0 m 55 ls [.int s2, .int s1, .ref (gB Γ + 191)]) := by
  unfold fs_X10_layFewest_55 at h
  obtain ⟨hx, hb, hml, hr, hown, hts, hK, hlk, hX⟩ := id C0
  refine gIst hx hb hK hP hS is_191 dX10_layFewest_55 h (fun H locs g1 h hP hS => ?_)
  refine lv_iconst (v := 0) hx hb dX10_layFewest_56 (by decide) ?_
  refine lv_istore (lv' := [(5, .int (0 : Int32)), (0, .ref (gB Γ + 174)), (1, .ref (gB Γ + r1)), (2, .int l2), (3, .int l3)]) hx hb dX10_layFewest_57 hl (by decide) rfl (fun ls hl => ?_)
  exact bk_X10_layFewest_59 C0 hr1 hF11 gFuel _ _ _ _ _ _ _ h hP hS (lv_sub hl [1, 2, 3, 4, 0] rfl)
set_option maxHeartbeats 2000000 in
set_option maxRecDepth 20000 in
theorem bs_X10_layFewest_39 {p : Program} {l : Launch} {e : Env} {s : State} {m : MethodId} {args : Array Value} {below : List Frame} {meth : Method} {c : Code} {Γ : gE} (C0 : gCx p s m args meth c Γ RX10 cX10_layFewest 7 none) {r1 nr1 : Nat} (hr1 : isI r1 nr1) {z : Unit × gG} {F11 : Int32 → Int32 → gG → Option (Unit × gG)} {l2 : Int32} {l3 : Int32} {l4 : Int32} {s1 : Int32} {s2 : Int32} {g : gG} {H : Heap} {locs : List Loc} {ls : Array Slot} (hF11 : ∀ (l2 : Int32) (l3 : Int32) (g : gG) (H : Heap) (locs : List Loc) (ls : Array Slot), F11 l2 l3 g = some z → va_P (gD Γ) gcls (lay Γ g) H → va_S (gA Γ) s.heap H locs → lv_has ls 7 [(0, .ref (gB Γ + 174)), (1, .ref (gB Γ + r1)), (2, .int l2), (3, .int l3)] → W p l e (gRm 3 65) s m args below meth c H locs 0 0 (MQ below (gQv Γ z) args s 0 0 (gA Γ)) (F0 m 11 ls [])) (h : fs_X10_layFewest_39 r1 nr1 F11 l2 l3 l4 s1 s2 g = some z) (hP : va_P (gD Γ) gcls (lay Γ g) H) (hS : va_S (gA Γ) s.heap H locs) (hl : lv_has ls 7 [(0, .ref (gB Γ + 174)), (1, .ref (gB Γ + r1)), (2, .int l2), (3, .int l3), (4, .int l4)]) : W p l e (gRm 3 65) s m args below meth c H locs 0 0 (MQ below (gQv Γ z) args s 0 0 (gA Γ)) (F0 m 39 ls [.int s2, .int s1, .ref (gB Γ + 190)]) := by
  unfold fs_X10_layFewest_39 at h
  obtain ⟨hx, hb, hml, hr, hown, hts, hK, hlk, hX⟩ := id C0
  refine gIst hx hb hK hP hS is_190 dX10_layFewest_39 h (fun H locs g1 h hP hS => ?_)
  refine lv_aload_n hx hb dX10_layFewest_40 rfl (lv_at hl 0 rfl) ?_
  refine gf_10_22 hx hb hown hts hK hP wf_X10_59 dX10_layFewest_41 ?_
  refine lv_iload_n hx hb dX10_layFewest_44 rfl (lv_at hl 3 rfl) ?_
  refine lv_iload hx hb dX10_layFewest_45 (lv_at hl 4 rfl) ?_
  refine lv_if_eq (tgt := 54) hx hb dX10_layFewest_47 (by decide) (fun c2 => ?_) (fun c2 => ?_)
  · replace h := gpos c2 h
    refine lv_iconst (v := 0) hx hb dX10_layFewest_54 (by decide) ?_
    exact bs_X10_layFewest_55 C0 hr1 hF11 h hP hS (lv_sub hl [0, 1, 2, 3] rfl)
  · replace h := gneg c2 h
    refine lv_iconst (v := 1) hx hb dX10_layFewest_50 (by decide) ?_
    refine lv_goto (tgt := 55) hx hb dX10_layFewest_51 (by decide) ?_
    exact bs_X10_layFewest_55 C0 hr1 hF11 h hP hS (lv_sub hl [0, 1, 2, 3] rfl)
set_option maxHeartbeats 2000000 in
set_option maxRecDepth 20000 in
theorem bs_X10_layFewest_11 {p : Program} {l : Launch} {e : Env} {s : State} {m : MethodId} {args : Array Value} {below : List Frame} {meth : Method} {c : Code} {Γ : gE} (C0 : gCx p s m args meth c Γ RX10 cX10_layFewest 7 none) {r1 nr1 : Nat} (hr1 : isI r1 nr1) {z : Unit × gG} {F11 : Int32 → Int32 → gG → Option (Unit × gG)} {l2 : Int32} {l3 : Int32} {g : gG} {H : Heap} {locs : List Loc} {ls : Array Slot} (hF11 : ∀ (l2 : Int32) (l3 : Int32) (g : gG) (H : Heap) (locs : List Loc) (ls : Array Slot), F11 l2 l3 g = some z → va_P (gD Γ) gcls (lay Γ g) H → va_S (gA Γ) s.heap H locs → lv_has ls 7 [(0, .ref (gB Γ + 174)), (1, .ref (gB Γ + r1)), (2, .int l2), (3, .int l3)] → W p l e (gRm 3 65) s m args below meth c H locs 0 0 (MQ below (gQv Γ z) args s 0 0 (gA Γ)) (F0 m 11 ls [])) (h : fs_X10_layFewest_11 r1 nr1 F11 l2 l3 g = some z) (hP : va_P (gD Γ) gcls (lay Γ g) H) (hS : va_S (gA Γ) s.heap H locs) (hl : lv_has ls 7 [(0, .ref (gB Γ + 174)), (1, .ref (gB Γ + r1)), (2, .int l2), (3, .int l3)]) : W p l e (gRm 3 65) s m args below meth c H locs 0 0 (MQ below (gQv Γ z) args s 0 0 (gA Γ)) (F0 m 11 ls []) := by
  unfold fs_X10_layFewest_11 at h
  obtain ⟨hx, hb, hml, hr, hown, hts, hK, hlk, hX⟩ := id C0
  refine lv_iload_n hx hb dX10_layFewest_11 rfl (lv_at hl 3 rfl) ?_
  refine lv_if_lt (tgt := 165) hx hb dX10_layFewest_12 (by decide) (fun c1 => ?_) (fun c1 => ?_)
  · replace h := gpos c1 h
    exact gvret hx hb hr hlk hP hS dX10_layFewest_165 h
  · replace h := gneg c1 h
    refine lv_aload_n hx hb dX10_layFewest_15 rfl (lv_at hl 1 rfl) ?_
    refine lv_iload_n hx hb dX10_layFewest_16 rfl (lv_at hl 2 rfl) ?_
    refine lv_iload_n hx hb dX10_layFewest_17 rfl (lv_at hl 3 rfl) ?_
    refine gCSi (rest := []) C0 cal_X10_isHeld wl_X10_86 wt_X10_isHeld ⟨Nat.le_of_ble_eq_true rfl, Nat.le_of_ble_eq_true rfl⟩ ⟨Nat.le_of_ble_eq_true rfl, Nat.le_of_ble_eq_true rfl⟩ [.ref (gB Γ + r1), .int l2, .int l3] rfl (Nat.le_of_ble_eq_true rfl) hP hS hl.1 dX10_layFewest_18 h (fun u hu => m_X10_isHeld l Γ hr1 l2 l3 g u hu) (fun u2 H locs h hP hS => ?_) rfl
    refine lv_topi (fun x3 ex3 => ?_)
    replace h := gLetI ex3 h
    refine lv_istore (lv' := [(4, .int x3), (0, .ref (gB Γ + 174)), (1, .ref (gB Γ + r1)), (2, .int l2), (3, .int l3)]) hx hb dX10_layFewest_21 hl (by decide) rfl (fun ls hl => ?_)
    refine lv_aload_n hx hb dX10_layFewest_23 rfl (lv_at hl 1 rfl) ?_
    refine gf_10_21 hx hb hown hts hK hP wf_X10_56 dX10_layFewest_24 ?_
    refine lv_iload_n hx hb dX10_layFewest_27 rfl (lv_at hl 4 rfl) ?_
    refine lv_iload hx hb dX10_layFewest_28 (lv_at hl 0 rfl) ?_
    refine lv_if_eq (tgt := 37) hx hb dX10_layFewest_30 (by decide) (fun c4 => ?_) (fun c4 => ?_)
    · replace h := gpos c4 h
      refine lv_ldc (v := 99999999) hx hb hown (hts _ wk_X10_129) dX10_layFewest_37 ?_
      exact bs_X10_layFewest_39 C0 hr1 hF11 h hP hS (lv_sub hl [1, 2, 3, 4, 0] rfl)
    · replace h := gneg c4 h
      refine lv_iconst (v := 1) hx hb dX10_layFewest_33 (by decide) ?_
      refine lv_goto (tgt := 39) hx hb dX10_layFewest_34 (by decide) ?_
      exact bs_X10_layFewest_39 C0 hr1 hF11 h hP hS (lv_sub hl [1, 2, 3, 4, 0] rfl)
set_option maxHeartbeats 2000000 in
set_option maxRecDepth 20000 in
theorem bk_X10_layFewest_11 {p : Program} {l : Launch} {e : Env} {s : State} {m : MethodId} {args : Array Value} {below : List Frame} {meth : Method} {c : Code} {Γ : gE} (C0 : gCx p s m args meth c Γ RX10 cX10_layFewest 7 none) {r1 nr1 : Nat} (hr1 : isI r1 nr1) {z : Unit × gG}   : ∀ (n : Nat) (l2 : Int32) (l3 : Int32) (g : gG) (H : Heap) (locs : List Loc) (ls : Array Slot), fb_X10_layFewest_11 r1 nr1 n l2 l3 g = some z → va_P (gD Γ) gcls (lay Γ g) H → va_S (gA Γ) s.heap H locs → lv_has ls 7 [(0, .ref (gB Γ + 174)), (1, .ref (gB Γ + r1)), (2, .int l2), (3, .int l3)] → W p l e (gRm 3 65) s m args below meth c H locs 0 0 (MQ below (gQv Γ z) args s 0 0 (gA Γ)) (F0 m 11 ls []) := by
  intro n
  induction n with
  | zero => intro l2 l3 g H locs ls h hP hS hl; cases h
  | succ n ih => intro l2 l3 g H locs ls h hP hS hl; exact bs_X10_layFewest_11 C0 hr1 ih h hP hS hl
set_option maxHeartbeats 2000000 in
set_option maxRecDepth 20000 in
theorem m_X10_layFewest (l : Launch) (Γ : gE) {r1 nr1 : Nat} (hr1 : isI r1 nr1)  (g : gG) (z : Unit × gG) (h : f_X10_layFewest r1 nr1 g = some z) : gMv l yX10_layFewest cX10_layFewest 7 none 3 65 Γ [.ref (gB Γ + 174), .ref (gB Γ + r1)] g z := by
  unfold f_X10_layFewest at h
  refine gStart (own := RX10) (by decide +kernel) rfl (Nat.le_of_ble_eq_true rfl) ?_
  intro p e s m below meth c C0 ls hl hP
  have hS : va_S (gA Γ) s.heap s.heap [] := va_S.rf
  have hl : lv_has ls 7 [(0, .ref (gB Γ + 174)), (1, .ref (gB Γ + r1))] := hl
  obtain ⟨hx, hb, hml, hr, hown, hts, hK, hlk, hX⟩ := id C0
  refine lv_aload_n hx hb dX10_layFewest_0 rfl (lv_at hl 1 rfl) ?_
  refine gCSi (rest := []) C0 cal_X10_chest wl_X10_94 wt_X10_chest ⟨Nat.le_of_ble_eq_true rfl, Nat.le_of_ble_eq_true rfl⟩ ⟨Nat.le_of_ble_eq_true rfl, Nat.le_of_ble_eq_true rfl⟩ [.ref (gB Γ + r1)] rfl (Nat.le_of_ble_eq_true rfl) hP hS hl.1 dX10_layFewest_1 h (fun u hu => m_X10_chest l Γ hr1 g u hu) (fun u1 H locs h hP hS => ?_) rfl
  refine lv_topi (fun x2 ex2 => ?_)
  replace h := gLetI ex2 h
  refine lv_istore_n (lv' := [(2, .int x2), (0, .ref (gB Γ + 174)), (1, .ref (gB Γ + r1))]) hx hb dX10_layFewest_4 rfl hl (by decide) rfl (fun ls hl => ?_)
  refine lv_iconst (v := 1) hx hb dX10_layFewest_5 (by decide) ?_
  refine lv_iload_n hx hb dX10_layFewest_6 rfl (lv_at hl 0 rfl) ?_
  refine lv_ishl hx hb dX10_layFewest_7 ?_
  refine lv_iconst (v := 1) hx hb dX10_layFewest_8 (by decide) ?_
  refine lv_isub hx hb dX10_layFewest_9 ?_
  refine lv_topi (fun x3 ex3 => ?_)
  replace h := gLetI ex3 h
  refine lv_istore_n (lv' := [(3, .int x3), (2, .int x2), (0, .ref (gB Γ + 174)), (1, .ref (gB Γ + r1))]) hx hb dX10_layFewest_10 rfl hl (by decide) rfl (fun ls hl => ?_)
  exact bk_X10_layFewest_11 C0 hr1 gFuel _ _ _ _ _ _ h hP hS (lv_sub hl [2, 3, 1, 0] rfl)
set_option maxHeartbeats 2000000 in
set_option maxRecDepth 20000 in
theorem bs_X10_costBy_30 {p : Program} {l : Launch} {e : Env} {s : State} {m : MethodId} {args : Array Value} {below : List Frame} {meth : Method} {c : Code} {Γ : gE} (C0 : gCx p s m args meth c Γ RX10 cX10_costBy 6 (some .int)) {r1 nr1 : Nat} (hr1 : isI r1 nr1) {z : Int32 × gG}  {l3 : Int32} {l4 : Int32} {s0 : Int32} {g : gG} {H : Heap} {locs : List Loc} {ls : Array Slot}  (h : fs_X10_costBy_30 r1 nr1 l3 l4 s0 g = some z) (hP : va_P (gD Γ) gcls (lay Γ g) H) (hS : va_S (gA Γ) s.heap H locs) (hl : lv_has ls 6 [(1, .ref (gB Γ + r1)), (3, .int l3), (4, .int l4)]) : W p l e (gRm 2 45) s m args below meth c H locs 0 0 (MQ below (gQi Γ z) args s 0 0 (gA Γ)) (F0 m 30 ls [.int s0]) := by
  unfold fs_X10_costBy_30 at h
  obtain ⟨hx, hb, hml, hr, hown, hts, hK, hlk, hX⟩ := id C0
  refine lv_istore (lv' := [(5, .int s0), (1, .ref (gB Γ + r1)), (3, .int l3), (4, .int l4)]) hx hb dX10_costBy_30 hl (by decide) rfl (fun ls hl => ?_)
  refine lv_iload hx hb dX10_costBy_32 (lv_at hl 0 rfl) ?_
  refine lv_ldc (v := 99999999) hx hb hown (hts _ wk_X10_129) dX10_costBy_34 ?_
  refine lv_icmp_lt (tgt := 44) hx hb dX10_costBy_36 (by decide) (fun c1 => ?_) (fun c1 => ?_)
  · replace h := gpos c1 h
    refine lv_iload hx hb dX10_costBy_44 (lv_at hl 0 rfl) ?_
    refine lv_aload_n hx hb dX10_costBy_46 rfl (lv_at hl 1 rfl) ?_
    refine lv_iload_n hx hb dX10_costBy_47 rfl (lv_at hl 2 rfl) ?_
    refine lv_iload hx hb dX10_costBy_48 (lv_at hl 3 rfl) ?_
    refine gCSi (rest := [.int s0]) C0 cal_X10_minutes wl_X10_115 wt_X10_minutes ⟨Nat.le_of_ble_eq_true rfl, Nat.le_of_ble_eq_true rfl⟩ ⟨Nat.le_of_ble_eq_true rfl, Nat.le_of_ble_eq_true rfl⟩ [.ref (gB Γ + r1), .int l3, .int l4] rfl (Nat.le_of_ble_eq_true rfl) hP hS hl.1 dX10_costBy_50 h (fun u hu => m_X10_minutes l Γ hr1 l3 l4 g u hu) (fun u2 H locs h hP hS => ?_) rfl
    refine lv_iadd hx hb dX10_costBy_53 ?_
    exact giret hx hb hr hlk hP hS dX10_costBy_54 h
  · replace h := gneg c1 h
    refine lv_ldc (v := 99999999) hx hb hown (hts _ wk_X10_129) dX10_costBy_39 ?_
    refine lv_goto (tgt := 54) hx hb dX10_costBy_41 (by decide) ?_
    exact giret hx hb hr hlk hP hS dX10_costBy_54 h
set_option maxHeartbeats 2000000 in
set_option maxRecDepth 20000 in
theorem m_X10_costBy (l : Launch) (Γ : gE) {r1 nr1 : Nat} (hr1 : isI r1 nr1) (a2 : Int32) (a3 : Int32) (a4 : Int32) (g : gG) (z : Int32 × gG) (h : f_X10_costBy r1 nr1 a2 a3 a4 g = some z) : gMi l yX10_costBy cX10_costBy 6 (some .int) 2 45 Γ [.ref (gB Γ + 174), .ref (gB Γ + r1), .int a2, .int a3, .int a4] g z := by
  unfold f_X10_costBy at h
  refine gStart (own := RX10) (by decide +kernel) rfl (Nat.le_of_ble_eq_true rfl) ?_
  intro p e s m below meth c C0 ls hl hP
  have hS : va_S (gA Γ) s.heap s.heap [] := va_S.rf
  have hl : lv_has ls 6 [(0, .ref (gB Γ + 174)), (1, .ref (gB Γ + r1)), (2, .int a2), (3, .int a3), (4, .int a4)] := hl
  obtain ⟨hx, hb, hml, hr, hown, hts, hK, hlk, hX⟩ := id C0
  refine lv_iload hx hb dX10_costBy_0 (lv_at hl 4 rfl) ?_
  refine lv_aload_n hx hb dX10_costBy_2 rfl (lv_at hl 1 rfl) ?_
  refine gCSi (rest := [.int a4]) C0 cal_X10_chest wl_X10_94 wt_X10_chest ⟨Nat.le_of_ble_eq_true rfl, Nat.le_of_ble_eq_true rfl⟩ ⟨Nat.le_of_ble_eq_true rfl, Nat.le_of_ble_eq_true rfl⟩ [.ref (gB Γ + r1)] rfl (Nat.le_of_ble_eq_true rfl) hP hS hl.1 dX10_costBy_3 h (fun u hu => m_X10_chest l Γ hr1 g u hu) (fun u1 H locs h hP hS => ?_) rfl
  refine lv_icmp_ne (tgt := 13) hx hb dX10_costBy_6 (by decide) (fun c2 => ?_) (fun c2 => ?_)
  · replace h := gneg c2 h
    refine lv_aload_n hx hb dX10_costBy_13 rfl (lv_at hl 0 rfl) ?_
    refine gf_10_23 hx hb hown hts hK hP wf_X10_62 dX10_costBy_14 ?_
    refine lv_bipush (v := 11) hx hb dX10_costBy_17 (by decide) ?_
    refine lv_iload_n hx hb dX10_costBy_19 rfl (lv_at hl 2 rfl) ?_
    refine lv_iconst (v := 1) hx hb dX10_costBy_20 (by decide) ?_
    refine lv_iload hx hb dX10_costBy_21 (lv_at hl 4 rfl) ?_
    refine lv_ishl hx hb dX10_costBy_23 ?_
    refine lv_ior hx hb dX10_costBy_24 ?_
    refine lv_imul hx hb dX10_costBy_25 ?_
    refine lv_iload hx hb dX10_costBy_26 (lv_at hl 4 rfl) ?_
    refine lv_iadd hx hb dX10_costBy_28 ?_
    refine gIld hx hb hK hP is_192 dX10_costBy_29 h (fun h => ?_)
    exact bs_X10_costBy_30 C0 hr1 h hP hS (lv_sub hl [1, 3, 4] rfl)
  · replace h := gpos c2 h
    refine lv_iconst (v := 0) hx hb dX10_costBy_9 (by decide) ?_
    refine lv_goto (tgt := 30) hx hb dX10_costBy_10 (by decide) ?_
    exact bs_X10_costBy_30 C0 hr1 h hP hS (lv_sub hl [1, 3, 4] rfl)
set_option maxHeartbeats 2000000 in
set_option maxRecDepth 20000 in
theorem bs_X10_costFrom_55 {p : Program} {l : Launch} {e : Env} {s : State} {m : MethodId} {args : Array Value} {below : List Frame} {meth : Method} {c : Code} {Γ : gE} (C0 : gCx p s m args meth c Γ RX10 cX10_costFrom 7 (some .int)) {r1 nr1 : Nat} (hr1 : isI r1 nr1) {z : Int32 × gG} {F7 : Int32 → Int32 → Int32 → Int32 → gG → Option (Int32 × gG)} {l2 : Int32} {l3 : Int32} {l5 : Int32} {s0 : Int32} {g : gG} {H : Heap} {locs : List Loc} {ls : Array Slot} (hF7 : ∀ (l2 : Int32) (l3 : Int32) (l4 : Int32) (l5 : Int32) (g : gG) (H : Heap) (locs : List Loc) (ls : Array Slot), F7 l2 l3 l4 l5 g = some z → va_P (gD Γ) gcls (lay Γ g) H → va_S (gA Γ) s.heap H locs → lv_has ls 7 [(0, .ref (gB Γ + 174)), (1, .ref (gB Γ + r1)), (2, .int l2), (3, .int l3), (4, .int l4), (5, .int l5)] → W p l e (gRm 3 70) s m args below meth c H locs 0 0 (MQ below (gQi Γ z) args s 0 0 (gA Γ)) (F0 m 7 ls [])) (h : fs_X10_costFrom_55 r1 nr1 F7 l2 l3 l5 s0 g = some z) (hP : va_P (gD Γ) gcls (lay Γ g) H) (hS : va_S (gA Γ) s.heap H locs) (hl : lv_has ls 7 [(0, .ref (gB Γ + 174)), (1, .ref (gB Γ + r1)), (2, .int l2), (3, .int l3), (5, .int l5)]) : W p l e (gRm 3 70) s m args below meth c H locs 0 0 (MQ below (gQi Γ z) args s 0 0 (gA Γ)) (F0 m 55 ls [.int s0]) := by
  unfold fs_X10_costFrom_55 at h
  obtain ⟨hx, hb, hml, hr, hown, hts, hK, hlk, hX⟩ := id C0
  refine lv_istore (lv' := [(4, .int s0), (0, .ref (gB Γ + 174)), (1, .ref (gB Γ + r1)), (2, .int l2), (3, .int l3), (5, .int l5)]) hx hb dX10_costFrom_55 hl (by decide) rfl (fun ls hl => ?_)
  obtain ⟨x1, ex1⟩ : ∃ y : Int32, y = l5 + (1 : Int32) := ⟨_, rfl⟩
  replace h := gLetI ex1 h
  refine lv_iinc (v := x1) (lv' := [(5, .int x1), (4, .int s0), (0, .ref (gB Γ + 174)), (1, .ref (gB Γ + r1)), (2, .int l2), (3, .int l3)]) hx hb dX10_costFrom_57 hl (k := 5) rfl (by rw [ex1]; rfl) (by decide) rfl (fun ls hl => ?_)
  refine lv_goto (tgt := 7) hx hb dX10_costFrom_60 (by decide) ?_
  exact hF7 _ _ _ _ _ _ _ _ h hP hS (lv_sub hl [2, 3, 4, 5, 1, 0] rfl)
set_option maxHeartbeats 2000000 in
set_option maxRecDepth 20000 in
theorem bs_X10_costFrom_39 {p : Program} {l : Launch} {e : Env} {s : State} {m : MethodId} {args : Array Value} {below : List Frame} {meth : Method} {c : Code} {Γ : gE} (C0 : gCx p s m args meth c Γ RX10 cX10_costFrom 7 (some .int)) {r1 nr1 : Nat} (hr1 : isI r1 nr1) {z : Int32 × gG} {F7 : Int32 → Int32 → Int32 → Int32 → gG → Option (Int32 × gG)} {l2 : Int32} {l3 : Int32} {l4 : Int32} {l5 : Int32} {s0 : Int32} {g : gG} {H : Heap} {locs : List Loc} {ls : Array Slot} (hF7 : ∀ (l2 : Int32) (l3 : Int32) (l4 : Int32) (l5 : Int32) (g : gG) (H : Heap) (locs : List Loc) (ls : Array Slot), F7 l2 l3 l4 l5 g = some z → va_P (gD Γ) gcls (lay Γ g) H → va_S (gA Γ) s.heap H locs → lv_has ls 7 [(0, .ref (gB Γ + 174)), (1, .ref (gB Γ + r1)), (2, .int l2), (3, .int l3), (4, .int l4), (5, .int l5)] → W p l e (gRm 3 70) s m args below meth c H locs 0 0 (MQ below (gQi Γ z) args s 0 0 (gA Γ)) (F0 m 7 ls [])) (h : fs_X10_costFrom_39 r1 nr1 F7 l2 l3 l4 l5 s0 g = some z) (hP : va_P (gD Γ) gcls (lay Γ g) H) (hS : va_S (gA Γ) s.heap H locs) (hl : lv_has ls 7 [(0, .ref (gB Γ + 174)), (1, .ref (gB Γ + r1)), (2, .int l2), (3, .int l3), (4, .int l4), (5, .int l5)]) : W p l e (gRm 3 70) s m args below meth c H locs 0 0 (MQ below (gQi Γ z) args s 0 0 (gA Γ)) (F0 m 39 ls [.int s0]) := by
  unfold fs_X10_costFrom_39 at h
  obtain ⟨hx, hb, hml, hr, hown, hts, hK, hlk, hX⟩ := id C0
  refine lv_istore (lv' := [(6, .int s0), (0, .ref (gB Γ + 174)), (1, .ref (gB Γ + r1)), (2, .int l2), (3, .int l3), (4, .int l4), (5, .int l5)]) hx hb dX10_costFrom_39 hl (by decide) rfl (fun ls hl => ?_)
  refine lv_iload hx hb dX10_costFrom_41 (lv_at hl 0 rfl) ?_
  refine lv_iload hx hb dX10_costFrom_43 (lv_at hl 5 rfl) ?_
  refine lv_icmp_ge (tgt := 53) hx hb dX10_costFrom_45 (by decide) (fun c1 => ?_) (fun c1 => ?_)
  · replace h := gpos c1 h
    refine lv_iload hx hb dX10_costFrom_53 (lv_at hl 5 rfl) ?_
    exact bs_X10_costFrom_55 C0 hr1 hF7 h hP hS (lv_sub hl [1, 2, 3, 4, 6] rfl)
  · replace h := gneg c1 h
    refine lv_iload hx hb dX10_costFrom_48 (lv_at hl 0 rfl) ?_
    refine lv_goto (tgt := 55) hx hb dX10_costFrom_50 (by decide) ?_
    exact bs_X10_costFrom_55 C0 hr1 hF7 h hP hS (lv_sub hl [1, 2, 3, 4, 6] rfl)
set_option maxHeartbeats 2000000 in
set_option maxRecDepth 20000 in
theorem bs_X10_costFrom_7 {p : Program} {l : Launch} {e : Env} {s : State} {m : MethodId} {args : Array Value} {below : List Frame} {meth : Method} {c : Code} {Γ : gE} (C0 : gCx p s m args meth c Γ RX10 cX10_costFrom 7 (some .int)) {r1 nr1 : Nat} (hr1 : isI r1 nr1) {z : Int32 × gG} {F7 : Int32 → Int32 → Int32 → Int32 → gG → Option (Int32 × gG)} {l2 : Int32} {l3 : Int32} {l4 : Int32} {l5 : Int32} {g : gG} {H : Heap} {locs : List Loc} {ls : Array Slot} (hF7 : ∀ (l2 : Int32) (l3 : Int32) (l4 : Int32) (l5 : Int32) (g : gG) (H : Heap) (locs : List Loc) (ls : Array Slot), F7 l2 l3 l4 l5 g = some z → va_P (gD Γ) gcls (lay Γ g) H → va_S (gA Γ) s.heap H locs → lv_has ls 7 [(0, .ref (gB Γ + 174)), (1, .ref (gB Γ + r1)), (2, .int l2), (3, .int l3), (4, .int l4), (5, .int l5)] → W p l e (gRm 3 70) s m args below meth c H locs 0 0 (MQ below (gQi Γ z) args s 0 0 (gA Γ)) (F0 m 7 ls [])) (h : fs_X10_costFrom_7 r1 nr1 F7 l2 l3 l4 l5 g = some z) (hP : va_P (gD Γ) gcls (lay Γ g) H) (hS : va_S (gA Γ) s.heap H locs) (hl : lv_has ls 7 [(0, .ref (gB Γ + 174)), (1, .ref (gB Γ + r1)), (2, .int l2), (3, .int l3), (4, .int l4), (5, .int l5)]) : W p l e (gRm 3 70) s m args below meth c H locs 0 0 (MQ below (gQi Γ z) args s 0 0 (gA Γ)) (F0 m 7 ls []) := by
  unfold fs_X10_costFrom_7 at h
  obtain ⟨hx, hb, hml, hr, hown, hts, hK, hlk, hX⟩ := id C0
  refine lv_iload hx hb dX10_costFrom_7 (lv_at hl 5 rfl) ?_
  refine lv_aload_n hx hb dX10_costFrom_9 rfl (lv_at hl 1 rfl) ?_
  refine lv_iconst (v := 0) hx hb dX10_costFrom_10 (by decide) ?_
  refine gIld hx hb hK hP hr1 dX10_costFrom_11 h (fun h => ?_)
  refine lv_icmp_ge (tgt := 63) hx hb dX10_costFrom_12 (by decide) (fun c1 => ?_) (fun c1 => ?_)
  · replace h := gpos c1 h
    refine lv_iload hx hb dX10_costFrom_63 (lv_at hl 4 rfl) ?_
    exact giret hx hb hr hlk hP hS dX10_costFrom_65 h
  · replace h := gneg c1 h
    refine lv_aload_n hx hb dX10_costFrom_15 rfl (lv_at hl 1 rfl) ?_
    refine lv_iload_n hx hb dX10_costFrom_16 rfl (lv_at hl 2 rfl) ?_
    refine lv_iload hx hb dX10_costFrom_17 (lv_at hl 5 rfl) ?_
    refine gCSi (rest := []) C0 cal_X10_canVisit wl_X10_98 wt_X10_canVisit ⟨Nat.le_of_ble_eq_true rfl, Nat.le_of_ble_eq_true rfl⟩ ⟨Nat.le_of_ble_eq_true rfl, Nat.le_of_ble_eq_true rfl⟩ [.ref (gB Γ + r1), .int l2, .int l5] rfl (Nat.le_of_ble_eq_true rfl) hP hS hl.1 dX10_costFrom_19 h (fun u hu => m_X10_canVisit l Γ hr1 l2 l5 g u hu) (fun u2 H locs h hP hS => ?_) rfl
    refine lv_if_eq (tgt := 37) hx hb dX10_costFrom_22 (by decide) (fun c3 => ?_) (fun c3 => ?_)
    · replace h := gpos c3 h
      refine lv_ldc (v := 99999999) hx hb hown (hts _ wk_X10_129) dX10_costFrom_37 ?_
      exact bs_X10_costFrom_39 C0 hr1 hF7 h hP hS (lv_sub hl [0, 1, 2, 3, 4, 5] rfl)
    · replace h := gneg c3 h
      refine lv_aload_n hx hb dX10_costFrom_25 rfl (lv_at hl 0 rfl) ?_
      refine lv_aload_n hx hb dX10_costFrom_26 rfl (lv_at hl 1 rfl) ?_
      refine lv_iload_n hx hb dX10_costFrom_27 rfl (lv_at hl 2 rfl) ?_
      refine lv_iload_n hx hb dX10_costFrom_28 rfl (lv_at hl 3 rfl) ?_
      refine lv_iload hx hb dX10_costFrom_29 (lv_at hl 5 rfl) ?_
      refine gCVi (rest := []) C0 cal_X10_costBy wl_X10_133 wi_X10_costBy ws_X10_costBy ⟨Nat.le_of_ble_eq_true rfl, Nat.le_of_ble_eq_true rfl⟩ ⟨Nat.le_of_ble_eq_true rfl, Nat.le_of_ble_eq_true rfl⟩ grv_10 [.ref (gB Γ + r1), .int l2, .int l3, .int l5] rfl (Nat.le_of_ble_eq_true rfl) hP hS hl.1 dX10_costFrom_31 h (fun u hu => m_X10_costBy l Γ hr1 l2 l3 l5 u2.2 u hu) (fun u4 H locs h hP hS => ?_) rfl
      refine lv_goto (tgt := 39) hx hb dX10_costFrom_34 (by decide) ?_
      exact bs_X10_costFrom_39 C0 hr1 hF7 h hP hS (lv_sub hl [0, 1, 2, 3, 4, 5] rfl)
set_option maxHeartbeats 2000000 in
set_option maxRecDepth 20000 in
theorem bk_X10_costFrom_7 {p : Program} {l : Launch} {e : Env} {s : State} {m : MethodId} {args : Array Value} {below : List Frame} {meth : Method} {c : Code} {Γ : gE} (C0 : gCx p s m args meth c Γ RX10 cX10_costFrom 7 (some .int)) {r1 nr1 : Nat} (hr1 : isI r1 nr1) {z : Int32 × gG}   : ∀ (n : Nat) (l2 : Int32) (l3 : Int32) (l4 : Int32) (l5 : Int32) (g : gG) (H : Heap) (locs : List Loc) (ls : Array Slot), fb_X10_costFrom_7 r1 nr1 n l2 l3 l4 l5 g = some z → va_P (gD Γ) gcls (lay Γ g) H → va_S (gA Γ) s.heap H locs → lv_has ls 7 [(0, .ref (gB Γ + 174)), (1, .ref (gB Γ + r1)), (2, .int l2), (3, .int l3), (4, .int l4), (5, .int l5)] → W p l e (gRm 3 70) s m args below meth c H locs 0 0 (MQ below (gQi Γ z) args s 0 0 (gA Γ)) (F0 m 7 ls []) := by
  intro n
  induction n with
  | zero => intro l2 l3 l4 l5 g H locs ls h hP hS hl; cases h
  | succ n ih => intro l2 l3 l4 l5 g H locs ls h hP hS hl; exact bs_X10_costFrom_7 C0 hr1 ih h hP hS hl
set_option maxHeartbeats 2000000 in
set_option maxRecDepth 20000 in
theorem m_X10_costFrom (l : Launch) (Γ : gE) {r1 nr1 : Nat} (hr1 : isI r1 nr1) (a2 : Int32) (a3 : Int32) (g : gG) (z : Int32 × gG) (h : f_X10_costFrom r1 nr1 a2 a3 g = some z) : gMi l yX10_costFrom cX10_costFrom 7 (some .int) 3 70 Γ [.ref (gB Γ + 174), .ref (gB Γ + r1), .int a2, .int a3] g z := by
  unfold f_X10_costFrom at h
  refine gStart (own := RX10) (by decide +kernel) rfl (Nat.le_of_ble_eq_true rfl) ?_
  intro p e s m below meth c C0 ls hl hP
  have hS : va_S (gA Γ) s.heap s.heap [] := va_S.rf
  have hl : lv_has ls 7 [(0, .ref (gB Γ + 174)), (1, .ref (gB Γ + r1)), (2, .int a2), (3, .int a3)] := hl
  obtain ⟨hx, hb, hml, hr, hown, hts, hK, hlk, hX⟩ := id C0
  refine lv_ldc (v := 99999999) hx hb hown (hts _ wk_X10_129) dX10_costFrom_0 ?_
  refine lv_istore (lv' := [(4, .int (99999999 : Int32)), (0, .ref (gB Γ + 174)), (1, .ref (gB Γ + r1)), (2, .int a2), (3, .int a3)]) hx hb dX10_costFrom_2 hl (by decide) rfl (fun ls hl => ?_)
  refine lv_iconst (v := 0) hx hb dX10_costFrom_4 (by decide) ?_
  refine lv_istore (lv' := [(5, .int (0 : Int32)), (4, .int (99999999 : Int32)), (0, .ref (gB Γ + 174)), (1, .ref (gB Γ + r1)), (2, .int a2), (3, .int a3)]) hx hb dX10_costFrom_5 hl (by decide) rfl (fun ls hl => ?_)
  exact bk_X10_costFrom_7 C0 hr1 gFuel _ _ _ _ _ _ _ _ h hP hS (lv_sub hl [2, 3, 4, 5, 1, 0] rfl)
set_option maxHeartbeats 2000000 in
set_option maxRecDepth 20000 in
theorem bs_X10_layCost_52 {p : Program} {l : Launch} {e : Env} {s : State} {m : MethodId} {args : Array Value} {below : List Frame} {meth : Method} {c : Code} {Γ : gE} (C0 : gCx p s m args meth c Γ RX10 cX10_layCost 5 none) {r1 nr1 : Nat} (hr1 : isI r1 nr1) {z : Unit × gG} {F11 : Int32 → Int32 → gG → Option (Unit × gG)} {F18 : Int32 → Int32 → Int32 → gG → Option (Unit × gG)} {l2 : Int32} {l3 : Int32} {l4 : Int32} {s1 : Int32} {s4 : Int32} {s5 : Int32} {g : gG} {H : Heap} {locs : List Loc} {ls : Array Slot} (hF11 : ∀ (l2 : Int32) (l3 : Int32) (g : gG) (H : Heap) (locs : List Loc) (ls : Array Slot), F11 l2 l3 g = some z → va_P (gD Γ) gcls (lay Γ g) H → va_S (gA Γ) s.heap H locs → lv_has ls 5 [(0, .ref (gB Γ + 174)), (1, .ref (gB Γ + r1)), (2, .int l2), (3, .int l3)] → W p l e (gRm 4 96) s m args below meth c H locs 0 0 (MQ below (gQv Γ z) args s 0 0 (gA Γ)) (F0 m 11 ls [])) (hF18 : ∀ (l2 : Int32) (l3 : Int32) (l4 : Int32) (g : gG) (H : Heap) (locs : List Loc) (ls : Array Slot), F18 l2 l3 l4 g = some z → va_P (gD Γ) gcls (lay Γ g) H → va_S (gA Γ) s.heap H locs → lv_has ls 5 [(0, .ref (gB Γ + 174)), (1, .ref (gB Γ + r1)), (2, .int l2), (3, .int l3), (4, .int l4)] → W p l e (gRm 4 96) s m args below meth c H locs 0 0 (MQ below (gQv Γ z) args s 0 0 (gA Γ)) (F0 m 18 ls [])) (h : fs_X10_layCost_52 r1 nr1 F11 F18 l2 l3 l4 s1 s4 s5 g = some z) (hP : va_P (gD Γ) gcls (lay Γ g) H) (hS : va_S (gA Γ) s.heap H locs) (hl : lv_has ls 5 [(0, .ref (gB Γ + 174)), (1, .ref (gB Γ + r1)), (2, .int l2), (3, .int l3), (4, .int l4)]) : W p l e (gRm 4 96) s m args below meth c H locs 0 0 (MQ below (gQv Γ z) args s 0 0 (gA Γ)) (F0 m 52 ls [.int s5, .int s4, .ref (gB Γ + r1), .ref (gB Γ + 174), .int s1, .ref (gB Γ + 192)]) := by
  unfold fs_X10_layCost_52 at h
  obtain ⟨hx, hb, hml, hr, hown, hts, hK, hlk, hX⟩ := id C0
  refine gCVi (rest := [.int s1, .ref (gB Γ + 192)]) C0 cal_X10_costFrom wl_X10_130 wi_X10_costFrom ws_X10_costFrom ⟨Nat.le_of_ble_eq_true rfl, Nat.le_of_ble_eq_true rfl⟩ ⟨Nat.le_of_ble_eq_true rfl, Nat.le_of_ble_eq_true rfl⟩ grv_10 [.ref (gB Γ + r1), .int s4, .int s5] rfl (Nat.le_of_ble_eq_true rfl) hP hS hl.1 dX10_layCost_52 h (fun u hu => m_X10_costFrom l Γ hr1 s4 s5 g u hu) (fun u1 H locs h hP hS => ?_) rfl
  refine gIst hx hb hK hP hS is_192 dX10_layCost_55 h (fun H locs g2 h hP hS => ?_)
  obtain ⟨x3, ex3⟩ : ∃ y : Int32, y = l4 + (1 : Int32) := ⟨_, rfl⟩
  replace h := gLetI ex3 h
  refine lv_iinc (v := x3) (lv' := [(4, .int x3), (0, .ref (gB Γ + 174)), (1, .ref (gB Γ + r1)), (2, .int l2), (3, .int l3)]) hx hb dX10_layCost_56 hl (k := 4) rfl (by rw [ex3]; rfl) (by decide) rfl (fun ls hl => ?_)
  refine lv_goto (tgt := 18) hx hb dX10_layCost_59 (by decide) ?_
  exact hF18 _ _ _ _ _ _ _ h hP hS (lv_sub hl [1, 2, 3, 4, 0] rfl)
set_option maxHeartbeats 2000000 in
set_option maxRecDepth 20000 in
theorem bs_X10_layCost_18 {p : Program} {l : Launch} {e : Env} {s : State} {m : MethodId} {args : Array Value} {below : List Frame} {meth : Method} {c : Code} {Γ : gE} (C0 : gCx p s m args meth c Γ RX10 cX10_layCost 5 none) {r1 nr1 : Nat} (hr1 : isI r1 nr1) {z : Unit × gG} {F11 : Int32 → Int32 → gG → Option (Unit × gG)} {F18 : Int32 → Int32 → Int32 → gG → Option (Unit × gG)} {l2 : Int32} {l3 : Int32} {l4 : Int32} {g : gG} {H : Heap} {locs : List Loc} {ls : Array Slot} (hF11 : ∀ (l2 : Int32) (l3 : Int32) (g : gG) (H : Heap) (locs : List Loc) (ls : Array Slot), F11 l2 l3 g = some z → va_P (gD Γ) gcls (lay Γ g) H → va_S (gA Γ) s.heap H locs → lv_has ls 5 [(0, .ref (gB Γ + 174)), (1, .ref (gB Γ + r1)), (2, .int l2), (3, .int l3)] → W p l e (gRm 4 96) s m args below meth c H locs 0 0 (MQ below (gQv Γ z) args s 0 0 (gA Γ)) (F0 m 11 ls [])) (hF18 : ∀ (l2 : Int32) (l3 : Int32) (l4 : Int32) (g : gG) (H : Heap) (locs : List Loc) (ls : Array Slot), F18 l2 l3 l4 g = some z → va_P (gD Γ) gcls (lay Γ g) H → va_S (gA Γ) s.heap H locs → lv_has ls 5 [(0, .ref (gB Γ + 174)), (1, .ref (gB Γ + r1)), (2, .int l2), (3, .int l3), (4, .int l4)] → W p l e (gRm 4 96) s m args below meth c H locs 0 0 (MQ below (gQv Γ z) args s 0 0 (gA Γ)) (F0 m 18 ls [])) (h : fs_X10_layCost_18 r1 nr1 F11 F18 l2 l3 l4 g = some z) (hP : va_P (gD Γ) gcls (lay Γ g) H) (hS : va_S (gA Γ) s.heap H locs) (hl : lv_has ls 5 [(0, .ref (gB Γ + 174)), (1, .ref (gB Γ + r1)), (2, .int l2), (3, .int l3), (4, .int l4)]) : W p l e (gRm 4 96) s m args below meth c H locs 0 0 (MQ below (gQv Γ z) args s 0 0 (gA Γ)) (F0 m 18 ls []) := by
  unfold fs_X10_layCost_18 at h
  obtain ⟨hx, hb, hml, hr, hown, hts, hK, hlk, hX⟩ := id C0
  refine lv_iload hx hb dX10_layCost_18 (lv_at hl 4 rfl) ?_
  refine lv_bipush (v := 10) hx hb dX10_layCost_20 (by decide) ?_
  refine lv_icmp_gt (tgt := 62) hx hb dX10_layCost_22 (by decide) (fun c1 => ?_) (fun c1 => ?_)
  · replace h := gpos c1 h
    obtain ⟨x2, ex2⟩ : ∃ y : Int32, y = l3 + (-1 : Int32) := ⟨_, rfl⟩
    replace h := gLetI ex2 h
    refine lv_iinc (v := x2) (lv' := [(3, .int x2), (0, .ref (gB Γ + 174)), (1, .ref (gB Γ + r1)), (2, .int l2), (4, .int l4)]) hx hb dX10_layCost_62 hl (k := 3) rfl (by rw [ex2]; rfl) (by decide) rfl (fun ls hl => ?_)
    refine lv_goto (tgt := 11) hx hb dX10_layCost_65 (by decide) ?_
    exact hF11 _ _ _ _ _ _ h hP hS (lv_sub hl [1, 2, 3, 0] rfl)
  · replace h := gneg c1 h
    refine lv_aload_n hx hb dX10_layCost_25 rfl (lv_at hl 0 rfl) ?_
    refine gf_10_23 hx hb hown hts hK hP wf_X10_62 dX10_layCost_26 ?_
    refine lv_bipush (v := 11) hx hb dX10_layCost_29 (by decide) ?_
    refine lv_iload_n hx hb dX10_layCost_31 rfl (lv_at hl 3 rfl) ?_
    refine lv_imul hx hb dX10_layCost_32 ?_
    refine lv_iload hx hb dX10_layCost_33 (lv_at hl 4 rfl) ?_
    refine lv_iadd hx hb dX10_layCost_35 ?_
    refine lv_aload_n hx hb dX10_layCost_36 rfl (lv_at hl 0 rfl) ?_
    refine lv_aload_n hx hb dX10_layCost_37 rfl (lv_at hl 1 rfl) ?_
    refine lv_iload_n hx hb dX10_layCost_38 rfl (lv_at hl 3 rfl) ?_
    refine lv_iload hx hb dX10_layCost_39 (lv_at hl 4 rfl) ?_
    refine lv_iload_n hx hb dX10_layCost_41 rfl (lv_at hl 2 rfl) ?_
    refine lv_icmp_ge (tgt := 50) hx hb dX10_layCost_42 (by decide) (fun c3 => ?_) (fun c3 => ?_)
    · replace h := gpos c3 h
      refine lv_bipush (v := -9) hx hb dX10_layCost_50 (by decide) ?_
      exact bs_X10_layCost_52 C0 hr1 hF11 hF18 h hP hS (lv_sub hl [0, 1, 2, 3, 4] rfl)
    · replace h := gneg c3 h
      refine lv_iload hx hb dX10_layCost_45 (lv_at hl 4 rfl) ?_
      refine lv_goto (tgt := 52) hx hb dX10_layCost_47 (by decide) ?_
      exact bs_X10_layCost_52 C0 hr1 hF11 hF18 h hP hS (lv_sub hl [0, 1, 2, 3, 4] rfl)
set_option maxHeartbeats 2000000 in
set_option maxRecDepth 20000 in
theorem bk_X10_layCost_18 {p : Program} {l : Launch} {e : Env} {s : State} {m : MethodId} {args : Array Value} {below : List Frame} {meth : Method} {c : Code} {Γ : gE} (C0 : gCx p s m args meth c Γ RX10 cX10_layCost 5 none) {r1 nr1 : Nat} (hr1 : isI r1 nr1) {z : Unit × gG} {F11 : Int32 → Int32 → gG → Option (Unit × gG)} (hF11 : ∀ (l2 : Int32) (l3 : Int32) (g : gG) (H : Heap) (locs : List Loc) (ls : Array Slot), F11 l2 l3 g = some z → va_P (gD Γ) gcls (lay Γ g) H → va_S (gA Γ) s.heap H locs → lv_has ls 5 [(0, .ref (gB Γ + 174)), (1, .ref (gB Γ + r1)), (2, .int l2), (3, .int l3)] → W p l e (gRm 4 96) s m args below meth c H locs 0 0 (MQ below (gQv Γ z) args s 0 0 (gA Γ)) (F0 m 11 ls [])) : ∀ (n : Nat) (l2 : Int32) (l3 : Int32) (l4 : Int32) (g : gG) (H : Heap) (locs : List Loc) (ls : Array Slot), fb_X10_layCost_18 r1 nr1 F11 n l2 l3 l4 g = some z → va_P (gD Γ) gcls (lay Γ g) H → va_S (gA Γ) s.heap H locs → lv_has ls 5 [(0, .ref (gB Γ + 174)), (1, .ref (gB Γ + r1)), (2, .int l2), (3, .int l3), (4, .int l4)] → W p l e (gRm 4 96) s m args below meth c H locs 0 0 (MQ below (gQv Γ z) args s 0 0 (gA Γ)) (F0 m 18 ls []) := by
  intro n
  induction n with
  | zero => intro l2 l3 l4 g H locs ls h hP hS hl; cases h
  | succ n ih => intro l2 l3 l4 g H locs ls h hP hS hl; exact bs_X10_layCost_18 C0 hr1 hF11 ih h hP hS hl
set_option maxHeartbeats 2000000 in
set_option maxRecDepth 20000 in
theorem bs_X10_layCost_11 {p : Program} {l : Launch} {e : Env} {s : State} {m : MethodId} {args : Array Value} {below : List Frame} {meth : Method} {c : Code} {Γ : gE} (C0 : gCx p s m args meth c Γ RX10 cX10_layCost 5 none) {r1 nr1 : Nat} (hr1 : isI r1 nr1) {z : Unit × gG} {F11 : Int32 → Int32 → gG → Option (Unit × gG)} {l2 : Int32} {l3 : Int32} {g : gG} {H : Heap} {locs : List Loc} {ls : Array Slot} (hF11 : ∀ (l2 : Int32) (l3 : Int32) (g : gG) (H : Heap) (locs : List Loc) (ls : Array Slot), F11 l2 l3 g = some z → va_P (gD Γ) gcls (lay Γ g) H → va_S (gA Γ) s.heap H locs → lv_has ls 5 [(0, .ref (gB Γ + 174)), (1, .ref (gB Γ + r1)), (2, .int l2), (3, .int l3)] → W p l e (gRm 4 96) s m args below meth c H locs 0 0 (MQ below (gQv Γ z) args s 0 0 (gA Γ)) (F0 m 11 ls [])) (h : fs_X10_layCost_11 r1 nr1 F11 l2 l3 g = some z) (hP : va_P (gD Γ) gcls (lay Γ g) H) (hS : va_S (gA Γ) s.heap H locs) (hl : lv_has ls 5 [(0, .ref (gB Γ + 174)), (1, .ref (gB Γ + r1)), (2, .int l2), (3, .int l3)]) : W p l e (gRm 4 96) s m args below meth c H locs 0 0 (MQ below (gQv Γ z) args s 0 0 (gA Γ)) (F0 m 11 ls []) := by
  unfold fs_X10_layCost_11 at h
  obtain ⟨hx, hb, hml, hr, hown, hts, hK, hlk, hX⟩ := id C0
  refine lv_iload_n hx hb dX10_layCost_11 rfl (lv_at hl 3 rfl) ?_
  refine lv_if_lt (tgt := 68) hx hb dX10_layCost_12 (by decide) (fun c1 => ?_) (fun c1 => ?_)
  · replace h := gpos c1 h
    exact gvret hx hb hr hlk hP hS dX10_layCost_68 h
  · replace h := gneg c1 h
    refine lv_iconst (v := 0) hx hb dX10_layCost_15 (by decide) ?_
    refine lv_istore (lv' := [(4, .int (0 : Int32)), (0, .ref (gB Γ + 174)), (1, .ref (gB Γ + r1)), (2, .int l2), (3, .int l3)]) hx hb dX10_layCost_16 hl (by decide) rfl (fun ls hl => ?_)
    exact bk_X10_layCost_18 C0 hr1 hF11 gFuel _ _ _ _ _ _ _ h hP hS (lv_sub hl [1, 2, 3, 4, 0] rfl)
set_option maxHeartbeats 2000000 in
set_option maxRecDepth 20000 in
theorem bk_X10_layCost_11 {p : Program} {l : Launch} {e : Env} {s : State} {m : MethodId} {args : Array Value} {below : List Frame} {meth : Method} {c : Code} {Γ : gE} (C0 : gCx p s m args meth c Γ RX10 cX10_layCost 5 none) {r1 nr1 : Nat} (hr1 : isI r1 nr1) {z : Unit × gG}   : ∀ (n : Nat) (l2 : Int32) (l3 : Int32) (g : gG) (H : Heap) (locs : List Loc) (ls : Array Slot), fb_X10_layCost_11 r1 nr1 n l2 l3 g = some z → va_P (gD Γ) gcls (lay Γ g) H → va_S (gA Γ) s.heap H locs → lv_has ls 5 [(0, .ref (gB Γ + 174)), (1, .ref (gB Γ + r1)), (2, .int l2), (3, .int l3)] → W p l e (gRm 4 96) s m args below meth c H locs 0 0 (MQ below (gQv Γ z) args s 0 0 (gA Γ)) (F0 m 11 ls []) := by
  intro n
  induction n with
  | zero => intro l2 l3 g H locs ls h hP hS hl; cases h
  | succ n ih => intro l2 l3 g H locs ls h hP hS hl; exact bs_X10_layCost_11 C0 hr1 ih h hP hS hl
set_option maxHeartbeats 2000000 in
set_option maxRecDepth 20000 in
theorem m_X10_layCost (l : Launch) (Γ : gE) {r1 nr1 : Nat} (hr1 : isI r1 nr1)  (g : gG) (z : Unit × gG) (h : f_X10_layCost r1 nr1 g = some z) : gMv l yX10_layCost cX10_layCost 5 none 4 96 Γ [.ref (gB Γ + 174), .ref (gB Γ + r1)] g z := by
  unfold f_X10_layCost at h
  refine gStart (own := RX10) (by decide +kernel) rfl (Nat.le_of_ble_eq_true rfl) ?_
  intro p e s m below meth c C0 ls hl hP
  have hS : va_S (gA Γ) s.heap s.heap [] := va_S.rf
  have hl : lv_has ls 5 [(0, .ref (gB Γ + 174)), (1, .ref (gB Γ + r1))] := hl
  obtain ⟨hx, hb, hml, hr, hown, hts, hK, hlk, hX⟩ := id C0
  refine lv_aload_n hx hb dX10_layCost_0 rfl (lv_at hl 1 rfl) ?_
  refine gCSi (rest := []) C0 cal_X10_chest wl_X10_94 wt_X10_chest ⟨Nat.le_of_ble_eq_true rfl, Nat.le_of_ble_eq_true rfl⟩ ⟨Nat.le_of_ble_eq_true rfl, Nat.le_of_ble_eq_true rfl⟩ [.ref (gB Γ + r1)] rfl (Nat.le_of_ble_eq_true rfl) hP hS hl.1 dX10_layCost_1 h (fun u hu => m_X10_chest l Γ hr1 g u hu) (fun u1 H locs h hP hS => ?_) rfl
  refine lv_topi (fun x2 ex2 => ?_)
  replace h := gLetI ex2 h
  refine lv_istore_n (lv' := [(2, .int x2), (0, .ref (gB Γ + 174)), (1, .ref (gB Γ + r1))]) hx hb dX10_layCost_4 rfl hl (by decide) rfl (fun ls hl => ?_)
  refine lv_iconst (v := 1) hx hb dX10_layCost_5 (by decide) ?_
  refine lv_iload_n hx hb dX10_layCost_6 rfl (lv_at hl 0 rfl) ?_
  refine lv_ishl hx hb dX10_layCost_7 ?_
  refine lv_iconst (v := 1) hx hb dX10_layCost_8 (by decide) ?_
  refine lv_isub hx hb dX10_layCost_9 ?_
  refine lv_topi (fun x3 ex3 => ?_)
  replace h := gLetI ex3 h
  refine lv_istore_n (lv' := [(3, .int x3), (2, .int x2), (0, .ref (gB Γ + 174)), (1, .ref (gB Γ + r1))]) hx hb dX10_layCost_10 rfl hl (by decide) rfl (fun ls hl => ?_)
  exact bk_X10_layCost_11 C0 hr1 gFuel _ _ _ _ _ _ h hP hS (lv_sub hl [2, 3, 1, 0] rfl)
set_option maxHeartbeats 2000000 in
set_option maxRecDepth 20000 in
theorem bs_X10_deadOf_147 {p : Program} {l : Launch} {e : Env} {s : State} {m : MethodId} {args : Array Value} {below : List Frame} {meth : Method} {c : Code} {Γ : gE} (C0 : gCx p s m args meth c Γ RX10 cX10_deadOf 7 (some .int)) {r1 nr1 : Nat} (hr1 : isI r1 nr1) {z : Int32 × gG} {F17 : Int32 → Int32 → Int32 → gG → Option (Int32 × gG)} {l2 : Int32} {l4 : Int32} {s0 : Int32} {s1 : Int32} {g : gG} {H : Heap} {locs : List Loc} {ls : Array Slot} (hF17 : ∀ (l2 : Int32) (l3 : Int32) (l4 : Int32) (g : gG) (H : Heap) (locs : List Loc) (ls : Array Slot), F17 l2 l3 l4 g = some z → va_P (gD Γ) gcls (lay Γ g) H → va_S (gA Γ) s.heap H locs → lv_has ls 7 [(0, .ref (gB Γ + 174)), (1, .ref (gB Γ + r1)), (2, .int l2), (3, .int l3), (4, .int l4)] → W p l e (gRm 4 91) s m args below meth c H locs 0 0 (MQ below (gQi Γ z) args s 0 0 (gA Γ)) (F0 m 17 ls [])) (h : fs_X10_deadOf_147 r1 nr1 F17 l2 l4 s0 s1 g = some z) (hP : va_P (gD Γ) gcls (lay Γ g) H) (hS : va_S (gA Γ) s.heap H locs) (hl : lv_has ls 7 [(0, .ref (gB Γ + 174)), (1, .ref (gB Γ + r1)), (2, .int l2), (4, .int l4)]) : W p l e (gRm 4 91) s m args below meth c H locs 0 0 (MQ below (gQi Γ z) args s 0 0 (gA Γ)) (F0 m 147 ls [.int s1, .int s0]) := by
  unfold fs_X10_deadOf_147 at h
  obtain ⟨hx, hb, hml, hr, hown, hts, hK, hlk, hX⟩ := id C0
  refine lv_iadd hx hb dX10_deadOf_147 ?_
  refine lv_topi (fun x1 ex1 => ?_)
  replace h := gLetI ex1 h
  refine lv_istore_n (lv' := [(3, .int x1), (0, .ref (gB Γ + 174)), (1, .ref (gB Γ + r1)), (2, .int l2), (4, .int l4)]) hx hb dX10_deadOf_148 rfl hl (by decide) rfl (fun ls hl => ?_)
  obtain ⟨x2, ex2⟩ : ∃ y : Int32, y = l4 + (1 : Int32) := ⟨_, rfl⟩
  replace h := gLetI ex2 h
  refine lv_iinc (v := x2) (lv' := [(4, .int x2), (3, .int x1), (0, .ref (gB Γ + 174)), (1, .ref (gB Γ + r1)), (2, .int l2)]) hx hb dX10_deadOf_149 hl (k := 4) rfl (by rw [ex2]; rfl) (by decide) rfl (fun ls hl => ?_)
  refine lv_goto (tgt := 17) hx hb dX10_deadOf_152 (by decide) ?_
  exact hF17 _ _ _ _ _ _ _ h hP hS (lv_sub hl [2, 3, 4, 1, 0] rfl)
set_option maxHeartbeats 2000000 in
set_option maxRecDepth 20000 in
theorem bs_X10_deadOf_146 {p : Program} {l : Launch} {e : Env} {s : State} {m : MethodId} {args : Array Value} {below : List Frame} {meth : Method} {c : Code} {Γ : gE} (C0 : gCx p s m args meth c Γ RX10 cX10_deadOf 7 (some .int)) {r1 nr1 : Nat} (hr1 : isI r1 nr1) {z : Int32 × gG} {F17 : Int32 → Int32 → Int32 → gG → Option (Int32 × gG)} {l2 : Int32} {l4 : Int32} {s0 : Int32} {g : gG} {H : Heap} {locs : List Loc} {ls : Array Slot} (hF17 : ∀ (l2 : Int32) (l3 : Int32) (l4 : Int32) (g : gG) (H : Heap) (locs : List Loc) (ls : Array Slot), F17 l2 l3 l4 g = some z → va_P (gD Γ) gcls (lay Γ g) H → va_S (gA Γ) s.heap H locs → lv_has ls 7 [(0, .ref (gB Γ + 174)), (1, .ref (gB Γ + r1)), (2, .int l2), (3, .int l3), (4, .int l4)] → W p l e (gRm 4 91) s m args below meth c H locs 0 0 (MQ below (gQi Γ z) args s 0 0 (gA Γ)) (F0 m 17 ls [])) (h : fs_X10_deadOf_146 r1 nr1 F17 l2 l4 s0 g = some z) (hP : va_P (gD Γ) gcls (lay Γ g) H) (hS : va_S (gA Γ) s.heap H locs) (hl : lv_has ls 7 [(0, .ref (gB Γ + 174)), (1, .ref (gB Γ + r1)), (2, .int l2), (4, .int l4)]) : W p l e (gRm 4 91) s m args below meth c H locs 0 0 (MQ below (gQi Γ z) args s 0 0 (gA Γ)) (F0 m 146 ls [.int s0]) := by
  unfold fs_X10_deadOf_146 at h
  obtain ⟨hx, hb, hml, hr, hown, hts, hK, hlk, hX⟩ := id C0
  refine lv_iconst (v := 0) hx hb dX10_deadOf_146 (by decide) ?_
  exact bs_X10_deadOf_147 C0 hr1 hF17 h hP hS (lv_sub hl [0, 1, 2, 3] rfl)
set_option maxHeartbeats 2000000 in
set_option maxRecDepth 20000 in
theorem bs_X10_deadOf_121 {p : Program} {l : Launch} {e : Env} {s : State} {m : MethodId} {args : Array Value} {below : List Frame} {meth : Method} {c : Code} {Γ : gE} (C0 : gCx p s m args meth c Γ RX10 cX10_deadOf 7 (some .int)) {r1 nr1 : Nat} (hr1 : isI r1 nr1) {z : Int32 × gG} {F17 : Int32 → Int32 → Int32 → gG → Option (Int32 × gG)} {l2 : Int32} {l3 : Int32} {l4 : Int32} {g : gG} {H : Heap} {locs : List Loc} {ls : Array Slot} (hF17 : ∀ (l2 : Int32) (l3 : Int32) (l4 : Int32) (g : gG) (H : Heap) (locs : List Loc) (ls : Array Slot), F17 l2 l3 l4 g = some z → va_P (gD Γ) gcls (lay Γ g) H → va_S (gA Γ) s.heap H locs → lv_has ls 7 [(0, .ref (gB Γ + 174)), (1, .ref (gB Γ + r1)), (2, .int l2), (3, .int l3), (4, .int l4)] → W p l e (gRm 4 91) s m args below meth c H locs 0 0 (MQ below (gQi Γ z) args s 0 0 (gA Γ)) (F0 m 17 ls [])) (h : fs_X10_deadOf_121 r1 nr1 F17 l2 l3 l4 g = some z) (hP : va_P (gD Γ) gcls (lay Γ g) H) (hS : va_S (gA Γ) s.heap H locs) (hl : lv_has ls 7 [(0, .ref (gB Γ + 174)), (1, .ref (gB Γ + r1)), (2, .int l2), (3, .int l3), (4, .int l4)]) : W p l e (gRm 4 91) s m args below meth c H locs 0 0 (MQ below (gQi Γ z) args s 0 0 (gA Γ)) (F0 m 121 ls []) := by
  unfold fs_X10_deadOf_121 at h
  obtain ⟨hx, hb, hml, hr, hown, hts, hK, hlk, hX⟩ := id C0
  refine lv_iload_n hx hb dX10_deadOf_121 rfl (lv_at hl 3 rfl) ?_
  refine lv_aload_n hx hb dX10_deadOf_122 rfl (lv_at hl 0 rfl) ?_
  refine gf_10_20 hx hb hown hts hK hP wf_X10_53 dX10_deadOf_123 ?_
  refine lv_iload hx hb dX10_deadOf_126 (lv_at hl 4 rfl) ?_
  refine gZld hx hb hK hP is_189 dX10_deadOf_128 h (fun h => ?_)
  refine lv_if_eq (tgt := 146) hx hb dX10_deadOf_129 (by decide) (fun c1 => ?_) (fun c1 => ?_)
  · replace h := gpos c1 h
    exact bs_X10_deadOf_146 C0 hr1 hF17 h hP hS (lv_sub hl [0, 1, 2, 4] rfl)
  · replace h := gneg c1 h
    refine lv_aload_n hx hb dX10_deadOf_132 rfl (lv_at hl 0 rfl) ?_
    refine gf_10_19 hx hb hown hts hK hP wf_X10_50 dX10_deadOf_133 ?_
    refine lv_iload hx hb dX10_deadOf_136 (lv_at hl 4 rfl) ?_
    refine gZld hx hb hK hP is_188 dX10_deadOf_138 h (fun h => ?_)
    refine lv_if_ne (tgt := 146) hx hb dX10_deadOf_139 (by decide) (fun c2 => ?_) (fun c2 => ?_)
    · replace h := gneg c2 h
      exact bs_X10_deadOf_146 C0 hr1 hF17 h hP hS (lv_sub hl [0, 1, 2, 4] rfl)
    · replace h := gpos c2 h
      refine lv_iconst (v := 1) hx hb dX10_deadOf_142 (by decide) ?_
      refine lv_goto (tgt := 147) hx hb dX10_deadOf_143 (by decide) ?_
      exact bs_X10_deadOf_147 C0 hr1 hF17 h hP hS (lv_sub hl [0, 1, 2, 4] rfl)
set_option maxHeartbeats 2000000 in
set_option maxRecDepth 20000 in
theorem bs_X10_deadOf_114 {p : Program} {l : Launch} {e : Env} {s : State} {m : MethodId} {args : Array Value} {below : List Frame} {meth : Method} {c : Code} {Γ : gE} (C0 : gCx p s m args meth c Γ RX10 cX10_deadOf 7 (some .int)) {r1 nr1 : Nat} (hr1 : isI r1 nr1) {z : Int32 × gG} {F17 : Int32 → Int32 → Int32 → gG → Option (Int32 × gG)} {F45 : Int32 → Int32 → Int32 → Int32 → gG → Option (Int32 × gG)} {l2 : Int32} {l3 : Int32} {l4 : Int32} {l5 : Int32} {s1 : Int32} {s2 : Int32} {g : gG} {H : Heap} {locs : List Loc} {ls : Array Slot} (hF17 : ∀ (l2 : Int32) (l3 : Int32) (l4 : Int32) (g : gG) (H : Heap) (locs : List Loc) (ls : Array Slot), F17 l2 l3 l4 g = some z → va_P (gD Γ) gcls (lay Γ g) H → va_S (gA Γ) s.heap H locs → lv_has ls 7 [(0, .ref (gB Γ + 174)), (1, .ref (gB Γ + r1)), (2, .int l2), (3, .int l3), (4, .int l4)] → W p l e (gRm 4 91) s m args below meth c H locs 0 0 (MQ below (gQi Γ z) args s 0 0 (gA Γ)) (F0 m 17 ls [])) (hF45 : ∀ (l2 : Int32) (l3 : Int32) (l4 : Int32) (l5 : Int32) (g : gG) (H : Heap) (locs : List Loc) (ls : Array Slot), F45 l2 l3 l4 l5 g = some z → va_P (gD Γ) gcls (lay Γ g) H → va_S (gA Γ) s.heap H locs → lv_has ls 7 [(0, .ref (gB Γ + 174)), (1, .ref (gB Γ + r1)), (2, .int l2), (3, .int l3), (4, .int l4), (5, .int l5)] → W p l e (gRm 4 91) s m args below meth c H locs 0 0 (MQ below (gQi Γ z) args s 0 0 (gA Γ)) (F0 m 45 ls [])) (h : fs_X10_deadOf_114 r1 nr1 F17 F45 l2 l3 l4 l5 s1 s2 g = some z) (hP : va_P (gD Γ) gcls (lay Γ g) H) (hS : va_S (gA Γ) s.heap H locs) (hl : lv_has ls 7 [(0, .ref (gB Γ + 174)), (1, .ref (gB Γ + r1)), (2, .int l2), (3, .int l3), (4, .int l4), (5, .int l5)]) : W p l e (gRm 4 91) s m args below meth c H locs 0 0 (MQ below (gQi Γ z) args s 0 0 (gA Γ)) (F0 m 114 ls [.int s2, .int s1, .ref (gB Γ + 189)]) := by
  unfold fs_X10_deadOf_114 at h
  obtain ⟨hx, hb, hml, hr, hown, hts, hK, hlk, hX⟩ := id C0
  refine gZst hx hb hK hP hS is_189 dX10_deadOf_114 h (fun H locs g1 h hP hS => ?_)
  obtain ⟨x2, ex2⟩ : ∃ y : Int32, y = l5 + (1 : Int32) := ⟨_, rfl⟩
  replace h := gLetI ex2 h
  refine lv_iinc (v := x2) (lv' := [(5, .int x2), (0, .ref (gB Γ + 174)), (1, .ref (gB Γ + r1)), (2, .int l2), (3, .int l3), (4, .int l4)]) hx hb dX10_deadOf_115 hl (k := 5) rfl (by rw [ex2]; rfl) (by decide) rfl (fun ls hl => ?_)
  refine lv_goto (tgt := 45) hx hb dX10_deadOf_118 (by decide) ?_
  exact hF45 _ _ _ _ _ _ _ _ h hP hS (lv_sub hl [1, 2, 3, 4, 5, 0] rfl)
set_option maxHeartbeats 2000000 in
set_option maxRecDepth 20000 in
theorem bs_X10_deadOf_113 {p : Program} {l : Launch} {e : Env} {s : State} {m : MethodId} {args : Array Value} {below : List Frame} {meth : Method} {c : Code} {Γ : gE} (C0 : gCx p s m args meth c Γ RX10 cX10_deadOf 7 (some .int)) {r1 nr1 : Nat} (hr1 : isI r1 nr1) {z : Int32 × gG} {F17 : Int32 → Int32 → Int32 → gG → Option (Int32 × gG)} {F45 : Int32 → Int32 → Int32 → Int32 → gG → Option (Int32 × gG)} {l2 : Int32} {l3 : Int32} {l4 : Int32} {l5 : Int32} {s1 : Int32} {g : gG} {H : Heap} {locs : List Loc} {ls : Array Slot} (hF17 : ∀ (l2 : Int32) (l3 : Int32) (l4 : Int32) (g : gG) (H : Heap) (locs : List Loc) (ls : Array Slot), F17 l2 l3 l4 g = some z → va_P (gD Γ) gcls (lay Γ g) H → va_S (gA Γ) s.heap H locs → lv_has ls 7 [(0, .ref (gB Γ + 174)), (1, .ref (gB Γ + r1)), (2, .int l2), (3, .int l3), (4, .int l4)] → W p l e (gRm 4 91) s m args below meth c H locs 0 0 (MQ below (gQi Γ z) args s 0 0 (gA Γ)) (F0 m 17 ls [])) (hF45 : ∀ (l2 : Int32) (l3 : Int32) (l4 : Int32) (l5 : Int32) (g : gG) (H : Heap) (locs : List Loc) (ls : Array Slot), F45 l2 l3 l4 l5 g = some z → va_P (gD Γ) gcls (lay Γ g) H → va_S (gA Γ) s.heap H locs → lv_has ls 7 [(0, .ref (gB Γ + 174)), (1, .ref (gB Γ + r1)), (2, .int l2), (3, .int l3), (4, .int l4), (5, .int l5)] → W p l e (gRm 4 91) s m args below meth c H locs 0 0 (MQ below (gQi Γ z) args s 0 0 (gA Γ)) (F0 m 45 ls [])) (h : fs_X10_deadOf_113 r1 nr1 F17 F45 l2 l3 l4 l5 s1 g = some z) (hP : va_P (gD Γ) gcls (lay Γ g) H) (hS : va_S (gA Γ) s.heap H locs) (hl : lv_has ls 7 [(0, .ref (gB Γ + 174)), (1, .ref (gB Γ + r1)), (2, .int l2), (3, .int l3), (4, .int l4), (5, .int l5)]) : W p l e (gRm 4 91) s m args below meth c H locs 0 0 (MQ below (gQi Γ z) args s 0 0 (gA Γ)) (F0 m 113 ls [.int s1, .ref (gB Γ + 189)]) := by
  unfold fs_X10_deadOf_113 at h
  obtain ⟨hx, hb, hml, hr, hown, hts, hK, hlk, hX⟩ := id C0
  refine lv_iconst (v := 0) hx hb dX10_deadOf_113 (by decide) ?_
  exact bs_X10_deadOf_114 C0 hr1 hF17 hF45 h hP hS (lv_sub hl [0, 1, 2, 3, 4, 5] rfl)
set_option maxHeartbeats 2000000 in
set_option maxRecDepth 20000 in
theorem bs_X10_deadOf_45 {p : Program} {l : Launch} {e : Env} {s : State} {m : MethodId} {args : Array Value} {below : List Frame} {meth : Method} {c : Code} {Γ : gE} (C0 : gCx p s m args meth c Γ RX10 cX10_deadOf 7 (some .int)) {r1 nr1 : Nat} (hr1 : isI r1 nr1) {z : Int32 × gG} {F17 : Int32 → Int32 → Int32 → gG → Option (Int32 × gG)} {F45 : Int32 → Int32 → Int32 → Int32 → gG → Option (Int32 × gG)} {l2 : Int32} {l3 : Int32} {l4 : Int32} {l5 : Int32} {g : gG} {H : Heap} {locs : List Loc} {ls : Array Slot} (hF17 : ∀ (l2 : Int32) (l3 : Int32) (l4 : Int32) (g : gG) (H : Heap) (locs : List Loc) (ls : Array Slot), F17 l2 l3 l4 g = some z → va_P (gD Γ) gcls (lay Γ g) H → va_S (gA Γ) s.heap H locs → lv_has ls 7 [(0, .ref (gB Γ + 174)), (1, .ref (gB Γ + r1)), (2, .int l2), (3, .int l3), (4, .int l4)] → W p l e (gRm 4 91) s m args below meth c H locs 0 0 (MQ below (gQi Γ z) args s 0 0 (gA Γ)) (F0 m 17 ls [])) (hF45 : ∀ (l2 : Int32) (l3 : Int32) (l4 : Int32) (l5 : Int32) (g : gG) (H : Heap) (locs : List Loc) (ls : Array Slot), F45 l2 l3 l4 l5 g = some z → va_P (gD Γ) gcls (lay Γ g) H → va_S (gA Γ) s.heap H locs → lv_has ls 7 [(0, .ref (gB Γ + 174)), (1, .ref (gB Γ + r1)), (2, .int l2), (3, .int l3), (4, .int l4), (5, .int l5)] → W p l e (gRm 4 91) s m args below meth c H locs 0 0 (MQ below (gQi Γ z) args s 0 0 (gA Γ)) (F0 m 45 ls [])) (h : fs_X10_deadOf_45 r1 nr1 F17 F45 l2 l3 l4 l5 g = some z) (hP : va_P (gD Γ) gcls (lay Γ g) H) (hS : va_S (gA Γ) s.heap H locs) (hl : lv_has ls 7 [(0, .ref (gB Γ + 174)), (1, .ref (gB Γ + r1)), (2, .int l2), (3, .int l3), (4, .int l4), (5, .int l5)]) : W p l e (gRm 4 91) s m args below meth c H locs 0 0 (MQ below (gQi Γ z) args s 0 0 (gA Γ)) (F0 m 45 ls []) := by
  unfold fs_X10_deadOf_45 at h
  obtain ⟨hx, hb, hml, hr, hown, hts, hK, hlk, hX⟩ := id C0
  refine lv_iload hx hb dX10_deadOf_45 (lv_at hl 5 rfl) ?_
  refine lv_iload_n hx hb dX10_deadOf_47 rfl (lv_at hl 2 rfl) ?_
  refine lv_icmp_ge (tgt := 121) hx hb dX10_deadOf_48 (by decide) (fun c1 => ?_) (fun c1 => ?_)
  · replace h := gpos c1 h
    exact bs_X10_deadOf_121 C0 hr1 hF17 h hP hS (lv_sub hl [0, 1, 2, 3, 4] rfl)
  · replace h := gneg c1 h
    refine lv_aload_n hx hb dX10_deadOf_51 rfl (lv_at hl 0 rfl) ?_
    refine gf_10_20 hx hb hown hts hK hP wf_X10_53 dX10_deadOf_52 ?_
    refine lv_iload hx hb dX10_deadOf_55 (lv_at hl 4 rfl) ?_
    refine gZld hx hb hK hP is_189 dX10_deadOf_57 h (fun h => ?_)
    refine lv_if_ne (tgt := 121) hx hb dX10_deadOf_58 (by decide) (fun c2 => ?_) (fun c2 => ?_)
    · replace h := gneg c2 h
      exact bs_X10_deadOf_121 C0 hr1 hF17 h hP hS (lv_sub hl [0, 1, 2, 3, 4] rfl)
    · replace h := gpos c2 h
      refine lv_iload hx hb dX10_deadOf_61 (lv_at hl 4 rfl) ?_
      refine lv_iconst (v := 1) hx hb dX10_deadOf_63 (by decide) ?_
      refine lv_iload hx hb dX10_deadOf_64 (lv_at hl 5 rfl) ?_
      refine lv_ishl hx hb dX10_deadOf_66 ?_
      refine lv_iconst (v := -1) hx hb dX10_deadOf_67 (by decide) ?_
      refine lv_ixor hx hb dX10_deadOf_68 ?_
      refine lv_iand hx hb dX10_deadOf_69 ?_
      refine lv_topi (fun x3 ex3 => ?_)
      replace h := gLetI ex3 h
      refine lv_istore (lv' := [(6, .int x3), (0, .ref (gB Γ + 174)), (1, .ref (gB Γ + r1)), (2, .int l2), (3, .int l3), (4, .int l4), (5, .int l5)]) hx hb dX10_deadOf_70 hl (by decide) rfl (fun ls hl => ?_)
      refine lv_aload_n hx hb dX10_deadOf_72 rfl (lv_at hl 1 rfl) ?_
      refine gf_10_20 hx hb hown hts hK hP wf_X10_53 dX10_deadOf_73 ?_
      refine lv_iload hx hb dX10_deadOf_76 (lv_at hl 5 rfl) ?_
      refine lv_iload hx hb dX10_deadOf_78 (lv_at hl 5 rfl) ?_
      refine lv_iload hx hb dX10_deadOf_80 (lv_at hl 6 rfl) ?_
      refine gCSi (rest := [.int l4, .ref (gB Γ + 189)]) C0 cal_X10_has wl_X10_65 wt_X10_has ⟨Nat.le_of_ble_eq_true rfl, Nat.le_of_ble_eq_true rfl⟩ ⟨Nat.le_of_ble_eq_true rfl, Nat.le_of_ble_eq_true rfl⟩ [.int l4, .int l5] rfl (Nat.le_of_ble_eq_true rfl) hP hS hl.1 dX10_deadOf_82 h (fun u hu => m_X10_has l Γ l4 l5 g u hu) (fun u4 H locs h hP hS => ?_) rfl
      refine lv_if_eq (tgt := 113) hx hb dX10_deadOf_85 (by decide) (fun c5 => ?_) (fun c5 => ?_)
      · replace h := gpos c5 h
        exact bs_X10_deadOf_113 C0 hr1 hF17 hF45 h hP hS (lv_sub hl [1, 2, 3, 4, 5, 6] rfl)
      · replace h := gneg c5 h
        refine lv_aload_n hx hb dX10_deadOf_88 rfl (lv_at hl 1 rfl) ?_
        refine gf_10_20 hx hb hown hts hK hP wf_X10_53 dX10_deadOf_89 ?_
        refine lv_iload hx hb dX10_deadOf_92 (lv_at hl 0 rfl) ?_
        refine gZld hx hb hK hP is_189 dX10_deadOf_94 h (fun h => ?_)
        refine lv_if_eq (tgt := 113) hx hb dX10_deadOf_95 (by decide) (fun c6 => ?_) (fun c6 => ?_)
        · replace h := gpos c6 h
          exact bs_X10_deadOf_113 C0 hr1 hF17 hF45 h hP hS (lv_sub hl [1, 2, 3, 4, 5, 6] rfl)
        · replace h := gneg c6 h
          refine lv_aload_n hx hb dX10_deadOf_98 rfl (lv_at hl 2 rfl) ?_
          refine lv_iload hx hb dX10_deadOf_99 (lv_at hl 0 rfl) ?_
          refine lv_iload hx hb dX10_deadOf_101 (lv_at hl 6 rfl) ?_
          refine gCSi (rest := [.int l4, .ref (gB Γ + 189)]) C0 cal_X10_canVisit wl_X10_98 wt_X10_canVisit ⟨Nat.le_of_ble_eq_true rfl, Nat.le_of_ble_eq_true rfl⟩ ⟨Nat.le_of_ble_eq_true rfl, Nat.le_of_ble_eq_true rfl⟩ [.ref (gB Γ + r1), .int x3, .int l5] rfl (Nat.le_of_ble_eq_true rfl) hP hS hl.1 dX10_deadOf_103 h (fun u hu => m_X10_canVisit l Γ hr1 x3 l5 u4.2 u hu) (fun u7 H locs h hP hS => ?_) rfl
          refine lv_if_eq (tgt := 113) hx hb dX10_deadOf_106 (by decide) (fun c8 => ?_) (fun c8 => ?_)
          · replace h := gpos c8 h
            exact bs_X10_deadOf_113 C0 hr1 hF17 hF45 h hP hS (lv_sub hl [1, 2, 3, 4, 5, 6] rfl)
          · replace h := gneg c8 h
            refine lv_iconst (v := 1) hx hb dX10_deadOf_109 (by decide) ?_
            refine lv_goto (tgt := 114) hx hb dX10_deadOf_110 (by decide) ?_
            exact bs_X10_deadOf_114 C0 hr1 hF17 hF45 h hP hS (lv_sub hl [1, 2, 3, 4, 5, 6] rfl)
set_option maxHeartbeats 2000000 in
set_option maxRecDepth 20000 in
theorem bk_X10_deadOf_45 {p : Program} {l : Launch} {e : Env} {s : State} {m : MethodId} {args : Array Value} {below : List Frame} {meth : Method} {c : Code} {Γ : gE} (C0 : gCx p s m args meth c Γ RX10 cX10_deadOf 7 (some .int)) {r1 nr1 : Nat} (hr1 : isI r1 nr1) {z : Int32 × gG} {F17 : Int32 → Int32 → Int32 → gG → Option (Int32 × gG)} (hF17 : ∀ (l2 : Int32) (l3 : Int32) (l4 : Int32) (g : gG) (H : Heap) (locs : List Loc) (ls : Array Slot), F17 l2 l3 l4 g = some z → va_P (gD Γ) gcls (lay Γ g) H → va_S (gA Γ) s.heap H locs → lv_has ls 7 [(0, .ref (gB Γ + 174)), (1, .ref (gB Γ + r1)), (2, .int l2), (3, .int l3), (4, .int l4)] → W p l e (gRm 4 91) s m args below meth c H locs 0 0 (MQ below (gQi Γ z) args s 0 0 (gA Γ)) (F0 m 17 ls [])) : ∀ (n : Nat) (l2 : Int32) (l3 : Int32) (l4 : Int32) (l5 : Int32) (g : gG) (H : Heap) (locs : List Loc) (ls : Array Slot), fb_X10_deadOf_45 r1 nr1 F17 n l2 l3 l4 l5 g = some z → va_P (gD Γ) gcls (lay Γ g) H → va_S (gA Γ) s.heap H locs → lv_has ls 7 [(0, .ref (gB Γ + 174)), (1, .ref (gB Γ + r1)), (2, .int l2), (3, .int l3), (4, .int l4), (5, .int l5)] → W p l e (gRm 4 91) s m args below meth c H locs 0 0 (MQ below (gQi Γ z) args s 0 0 (gA Γ)) (F0 m 45 ls []) := by
  intro n
  induction n with
  | zero => intro l2 l3 l4 l5 g H locs ls h hP hS hl; cases h
  | succ n ih => intro l2 l3 l4 l5 g H locs ls h hP hS hl; exact bs_X10_deadOf_45 C0 hr1 hF17 ih h hP hS hl
set_option maxHeartbeats 2000000 in
set_option maxRecDepth 20000 in
theorem bs_X10_deadOf_41 {p : Program} {l : Launch} {e : Env} {s : State} {m : MethodId} {args : Array Value} {below : List Frame} {meth : Method} {c : Code} {Γ : gE} (C0 : gCx p s m args meth c Γ RX10 cX10_deadOf 7 (some .int)) {r1 nr1 : Nat} (hr1 : isI r1 nr1) {z : Int32 × gG} {F17 : Int32 → Int32 → Int32 → gG → Option (Int32 × gG)} {l2 : Int32} {l3 : Int32} {l4 : Int32} {s1 : Int32} {s2 : Int32} {g : gG} {H : Heap} {locs : List Loc} {ls : Array Slot} (hF17 : ∀ (l2 : Int32) (l3 : Int32) (l4 : Int32) (g : gG) (H : Heap) (locs : List Loc) (ls : Array Slot), F17 l2 l3 l4 g = some z → va_P (gD Γ) gcls (lay Γ g) H → va_S (gA Γ) s.heap H locs → lv_has ls 7 [(0, .ref (gB Γ + 174)), (1, .ref (gB Γ + r1)), (2, .int l2), (3, .int l3), (4, .int l4)] → W p l e (gRm 4 91) s m args below meth c H locs 0 0 (MQ below (gQi Γ z) args s 0 0 (gA Γ)) (F0 m 17 ls [])) (h : fs_X10_deadOf_41 r1 nr1 F17 l2 l3 l4 s1 s2 g = some z) (hP : va_P (gD Γ) gcls (lay Γ g) H) (hS : va_S (gA Γ) s.heap H locs) (hl : lv_has ls 7 [(0, .ref (gB Γ + 174)), (1, .ref (gB Γ + r1)), (2, .int l2), (3, .int l3), (4, .int l4)]) : W p l e (gRm 4 91) s m args below meth c H locs 0 0 (MQ below (gQi Γ z) args s 0 0 (gA Γ)) (F0 m 41 ls [.int s2, .int s1, .ref (gB Γ + 189)]) := by
  unfold fs_X10_deadOf_41 at h
  obtain ⟨hx, hb, hml, hr, hown, hts, hK, hlk, hX⟩ := id C0
  refine gZst hx hb hK hP hS is_189 dX10_deadOf_41 h (fun H locs g1 h hP hS => ?_)
  refine lv_iconst (v := 0) hx hb dX10_deadOf_42 (by decide) ?_
  refine lv_istore (lv' := [(5, .int (0 : Int32)), (0, .ref (gB Γ + 174)), (1, .ref (gB Γ + r1)), (2, .int l2), (3, .int l3), (4, .int l4)]) hx hb dX10_deadOf_43 hl (by decide) rfl (fun ls hl => ?_)
  exact bk_X10_deadOf_45 C0 hr1 hF17 gFuel _ _ _ _ _ _ _ _ h hP hS (lv_sub hl [1, 2, 3, 4, 5, 0] rfl)
set_option maxHeartbeats 2000000 in
set_option maxRecDepth 20000 in
theorem bs_X10_deadOf_17 {p : Program} {l : Launch} {e : Env} {s : State} {m : MethodId} {args : Array Value} {below : List Frame} {meth : Method} {c : Code} {Γ : gE} (C0 : gCx p s m args meth c Γ RX10 cX10_deadOf 7 (some .int)) {r1 nr1 : Nat} (hr1 : isI r1 nr1) {z : Int32 × gG} {F17 : Int32 → Int32 → Int32 → gG → Option (Int32 × gG)} {l2 : Int32} {l3 : Int32} {l4 : Int32} {g : gG} {H : Heap} {locs : List Loc} {ls : Array Slot} (hF17 : ∀ (l2 : Int32) (l3 : Int32) (l4 : Int32) (g : gG) (H : Heap) (locs : List Loc) (ls : Array Slot), F17 l2 l3 l4 g = some z → va_P (gD Γ) gcls (lay Γ g) H → va_S (gA Γ) s.heap H locs → lv_has ls 7 [(0, .ref (gB Γ + 174)), (1, .ref (gB Γ + r1)), (2, .int l2), (3, .int l3), (4, .int l4)] → W p l e (gRm 4 91) s m args below meth c H locs 0 0 (MQ below (gQi Γ z) args s 0 0 (gA Γ)) (F0 m 17 ls [])) (h : fs_X10_deadOf_17 r1 nr1 F17 l2 l3 l4 g = some z) (hP : va_P (gD Γ) gcls (lay Γ g) H) (hS : va_S (gA Γ) s.heap H locs) (hl : lv_has ls 7 [(0, .ref (gB Γ + 174)), (1, .ref (gB Γ + r1)), (2, .int l2), (3, .int l3), (4, .int l4)]) : W p l e (gRm 4 91) s m args below meth c H locs 0 0 (MQ below (gQi Γ z) args s 0 0 (gA Γ)) (F0 m 17 ls []) := by
  unfold fs_X10_deadOf_17 at h
  obtain ⟨hx, hb, hml, hr, hown, hts, hK, hlk, hX⟩ := id C0
  refine lv_iload hx hb dX10_deadOf_17 (lv_at hl 4 rfl) ?_
  refine lv_iconst (v := 1) hx hb dX10_deadOf_19 (by decide) ?_
  refine lv_iload_n hx hb dX10_deadOf_20 rfl (lv_at hl 2 rfl) ?_
  refine lv_ishl hx hb dX10_deadOf_21 ?_
  refine lv_icmp_ge (tgt := 155) hx hb dX10_deadOf_22 (by decide) (fun c1 => ?_) (fun c1 => ?_)
  · replace h := gpos c1 h
    refine lv_iload_n hx hb dX10_deadOf_155 rfl (lv_at hl 3 rfl) ?_
    exact giret hx hb hr hlk hP hS dX10_deadOf_156 h
  · replace h := gneg c1 h
    refine lv_aload_n hx hb dX10_deadOf_25 rfl (lv_at hl 0 rfl) ?_
    refine gf_10_20 hx hb hown hts hK hP wf_X10_53 dX10_deadOf_26 ?_
    refine lv_iload hx hb dX10_deadOf_29 (lv_at hl 4 rfl) ?_
    refine lv_iload hx hb dX10_deadOf_31 (lv_at hl 4 rfl) ?_
    refine lv_if_ne (tgt := 40) hx hb dX10_deadOf_33 (by decide) (fun c2 => ?_) (fun c2 => ?_)
    · replace h := gneg c2 h
      refine lv_iconst (v := 0) hx hb dX10_deadOf_40 (by decide) ?_
      exact bs_X10_deadOf_41 C0 hr1 hF17 h hP hS (lv_sub hl [0, 1, 2, 3, 4] rfl)
    · replace h := gpos c2 h
      refine lv_iconst (v := 1) hx hb dX10_deadOf_36 (by decide) ?_
      refine lv_goto (tgt := 41) hx hb dX10_deadOf_37 (by decide) ?_
      exact bs_X10_deadOf_41 C0 hr1 hF17 h hP hS (lv_sub hl [0, 1, 2, 3, 4] rfl)
set_option maxHeartbeats 2000000 in
set_option maxRecDepth 20000 in
theorem bk_X10_deadOf_17 {p : Program} {l : Launch} {e : Env} {s : State} {m : MethodId} {args : Array Value} {below : List Frame} {meth : Method} {c : Code} {Γ : gE} (C0 : gCx p s m args meth c Γ RX10 cX10_deadOf 7 (some .int)) {r1 nr1 : Nat} (hr1 : isI r1 nr1) {z : Int32 × gG}   : ∀ (n : Nat) (l2 : Int32) (l3 : Int32) (l4 : Int32) (g : gG) (H : Heap) (locs : List Loc) (ls : Array Slot), fb_X10_deadOf_17 r1 nr1 n l2 l3 l4 g = some z → va_P (gD Γ) gcls (lay Γ g) H → va_S (gA Γ) s.heap H locs → lv_has ls 7 [(0, .ref (gB Γ + 174)), (1, .ref (gB Γ + r1)), (2, .int l2), (3, .int l3), (4, .int l4)] → W p l e (gRm 4 91) s m args below meth c H locs 0 0 (MQ below (gQi Γ z) args s 0 0 (gA Γ)) (F0 m 17 ls []) := by
  intro n
  induction n with
  | zero => intro l2 l3 l4 g H locs ls h hP hS hl; cases h
  | succ n ih => intro l2 l3 l4 g H locs ls h hP hS hl; exact bs_X10_deadOf_17 C0 hr1 ih h hP hS hl
set_option maxHeartbeats 2000000 in
set_option maxRecDepth 20000 in
theorem m_X10_deadOf (l : Launch) (Γ : gE) {r1 nr1 : Nat} (hr1 : isI r1 nr1)  (g : gG) (z : Int32 × gG) (h : f_X10_deadOf r1 nr1 g = some z) : gMi l yX10_deadOf cX10_deadOf 7 (some .int) 4 91 Γ [.ref (gB Γ + 174), .ref (gB Γ + r1)] g z := by
  unfold f_X10_deadOf at h
  refine gStart (own := RX10) (by decide +kernel) rfl (Nat.le_of_ble_eq_true rfl) ?_
  intro p e s m below meth c C0 ls hl hP
  have hS : va_S (gA Γ) s.heap s.heap [] := va_S.rf
  have hl : lv_has ls 7 [(0, .ref (gB Γ + 174)), (1, .ref (gB Γ + r1))] := hl
  obtain ⟨hx, hb, hml, hr, hown, hts, hK, hlk, hX⟩ := id C0
  refine lv_aload_n hx hb dX10_deadOf_0 rfl (lv_at hl 1 rfl) ?_
  refine gCSi (rest := []) C0 cal_X10_chest wl_X10_94 wt_X10_chest ⟨Nat.le_of_ble_eq_true rfl, Nat.le_of_ble_eq_true rfl⟩ ⟨Nat.le_of_ble_eq_true rfl, Nat.le_of_ble_eq_true rfl⟩ [.ref (gB Γ + r1)] rfl (Nat.le_of_ble_eq_true rfl) hP hS hl.1 dX10_deadOf_1 h (fun u hu => m_X10_chest l Γ hr1 g u hu) (fun u1 H locs h hP hS => ?_) rfl
  refine lv_topi (fun x2 ex2 => ?_)
  replace h := gLetI ex2 h
  refine lv_istore_n (lv' := [(2, .int x2), (0, .ref (gB Γ + 174)), (1, .ref (gB Γ + r1))]) hx hb dX10_deadOf_4 rfl hl (by decide) rfl (fun ls hl => ?_)
  refine lv_aload_n hx hb dX10_deadOf_5 rfl (lv_at hl 1 rfl) ?_
  refine lv_aload_n hx hb dX10_deadOf_6 rfl (lv_at hl 2 rfl) ?_
  refine lv_bipush (v := -9) hx hb dX10_deadOf_7 (by decide) ?_
  refine gCVv (rest := []) C0 cal_X10_layGood wl_X10_122 wi_X10_layGood ws_X10_layGood ⟨Nat.le_of_ble_eq_true rfl, Nat.le_of_ble_eq_true rfl⟩ ⟨Nat.le_of_ble_eq_true rfl, Nat.le_of_ble_eq_true rfl⟩ grv_10 [.ref (gB Γ + r1), .int (-9 : Int32)] rfl (Nat.le_of_ble_eq_true rfl) hP hS hl.1 dX10_deadOf_9 h (fun u hu => m_X10_layGood l Γ hr1 (-9 : Int32) u1.2 u hu) (fun u3 H locs h hP hS => ?_) rfl
  refine lv_iconst (v := 0) hx hb dX10_deadOf_12 (by decide) ?_
  refine lv_istore_n (lv' := [(3, .int (0 : Int32)), (2, .int x2), (0, .ref (gB Γ + 174)), (1, .ref (gB Γ + r1))]) hx hb dX10_deadOf_13 rfl hl (by decide) rfl (fun ls hl => ?_)
  refine lv_iconst (v := 0) hx hb dX10_deadOf_14 (by decide) ?_
  refine lv_istore (lv' := [(4, .int (0 : Int32)), (3, .int (0 : Int32)), (2, .int x2), (0, .ref (gB Γ + 174)), (1, .ref (gB Γ + r1))]) hx hb dX10_deadOf_15 hl (by decide) rfl (fun ls hl => ?_)
  exact bk_X10_deadOf_17 C0 hr1 gFuel _ _ _ _ _ _ _ h hP hS (lv_sub hl [3, 4, 2, 1, 0] rfl)
set_option maxHeartbeats 2000000 in
set_option maxRecDepth 20000 in
theorem bs_X10_append_31 {p : Program} {l : Launch} {e : Env} {s : State} {m : MethodId} {args : Array Value} {below : List Frame} {meth : Method} {c : Code} {Γ : gE} (C0 : gCx p s m args meth c Γ RX10 cX10_append 2 (some .int))   {z : Int32 × gG}  {l1 : Int32} {s1 : Int32} {g : gG} {H : Heap} {locs : List Loc} {ls : Array Slot}  (h : fs_X10_append_31 l1 s1 g = some z) (hP : va_P (gD Γ) gcls (lay Γ g) H) (hS : va_S (gA Γ) s.heap H locs) (hl : lv_has ls 2 [(0, .ref (gB Γ + 174)), (1, .int l1)]) : W p l e (gRm 1 25) s m args below meth c H locs 0 0 (MQ below (gQi Γ z) args s 0 0 (gA Γ)) (F0 m 31 ls [.int s1, .ref (gB Γ + 174)]) := by
  unfold fs_X10_append_31 at h
  obtain ⟨hx, hb, hml, hr, hown, hts, hK, hlk, hX⟩ := id C0
  refine gCVi (rest := []) C0 cal_X10_refused wl_X10_146 wi_X10_refused ws_X10_refused ⟨Nat.le_of_ble_eq_true rfl, Nat.le_of_ble_eq_true rfl⟩ ⟨Nat.le_of_ble_eq_true rfl, Nat.le_of_ble_eq_true rfl⟩ grv_10 [.int s1] rfl (Nat.le_of_ble_eq_true rfl) hP hS hl.1 dX10_append_31 h (fun u hu => m_X10_refused l Γ s1 g u hu) (fun u1 H locs h hP hS => ?_) rfl
  refine lv_if_eq (tgt := 39) hx hb dX10_append_34 (by decide) (fun c2 => ?_) (fun c2 => ?_)
  · replace h := gpos c2 h
    refine lv_aload_n hx hb dX10_append_39 rfl (lv_at hl 0 rfl) ?_
    refine gf_10_1 hx hb hown hts hK hP wf_X10_7 dX10_append_40 ?_
    refine lv_aload_n hx hb dX10_append_43 rfl (lv_at hl 0 rfl) ?_
    refine gf_10_2 hx hb hown hts hK hP wf_X10_143 dX10_append_44 ?_
    refine lv_iload_n hx hb dX10_append_47 rfl (lv_at hl 1 rfl) ?_
    refine gIst hx hb hK hP hS is_175 dX10_append_48 h (fun H locs g3 h hP hS => ?_)
    refine lv_aload_n hx hb dX10_append_49 rfl (lv_at hl 0 rfl) ?_
    refine lv_dup hx hb dX10_append_50 rfl ?_
    refine gf_10_2 hx hb hown hts hK hP wf_X10_143 dX10_append_51 ?_
    refine lv_iconst (v := 1) hx hb dX10_append_54 (by decide) ?_
    refine lv_iadd hx hb dX10_append_55 ?_
    refine gp_10_2 hx hb hown hts hK hP hS wf_X10_143 dX10_append_56 h (fun H locs g4 h hP hS => ?_)
    refine lv_aload_n hx hb dX10_append_59 rfl (lv_at hl 0 rfl) ?_
    refine gf_10_2 hx hb hown hts hK hP wf_X10_143 dX10_append_60 ?_
    exact giret hx hb hr hlk hP hS dX10_append_63 h
  · replace h := gneg c2 h
    refine lv_iconst (v := 0) hx hb dX10_append_37 (by decide) ?_
    exact giret hx hb hr hlk hP hS dX10_append_38 h
set_option maxHeartbeats 2000000 in
set_option maxRecDepth 20000 in
theorem m_X10_append (l : Launch) (Γ : gE)   (a1 : Int32) (g : gG) (z : Int32 × gG) (h : f_X10_append a1 g = some z) : gMi l yX10_append cX10_append 2 (some .int) 1 25 Γ [.ref (gB Γ + 174), .int a1] g z := by
  unfold f_X10_append at h
  refine gStart (own := RX10) (by decide +kernel) rfl (Nat.le_of_ble_eq_true rfl) ?_
  intro p e s m below meth c C0 ls hl hP
  have hS : va_S (gA Γ) s.heap s.heap [] := va_S.rf
  have hl : lv_has ls 2 [(0, .ref (gB Γ + 174)), (1, .int a1)] := hl
  obtain ⟨hx, hb, hml, hr, hown, hts, hK, hlk, hX⟩ := id C0
  refine lv_aload_n hx hb dX10_append_0 rfl (lv_at hl 0 rfl) ?_
  refine lv_iload_n hx hb dX10_append_1 rfl (lv_at hl 1 rfl) ?_
  refine lv_i2l hx hb dX10_append_2 rfl ?_
  refine lv_lconst (v := 0) hx hb dX10_append_3 (by decide) ?_
  refine lv_ldc2 (v := 255) hx hb hown (hts _ wkl_X10_137) dX10_append_4 ?_
  refine gCSi (rest := [.ref (gB Γ + 174)]) C0 cal_X10_in wl_X10_139 wt_X10_in ⟨Nat.le_of_ble_eq_true rfl, Nat.le_of_ble_eq_true rfl⟩ ⟨Nat.le_of_ble_eq_true rfl, Nat.le_of_ble_eq_true rfl⟩ [.long a1.toInt64, .long (0 : Int64), .long (255 : Int64)] rfl (Nat.le_of_ble_eq_true rfl) hP hS hl.1 dX10_append_7 h (fun u hu => m_X10_in l Γ a1.toInt64 (0 : Int64) (255 : Int64) g u hu) (fun u1 H locs h hP hS => ?_) rfl
  refine lv_if_ne (tgt := 17) hx hb dX10_append_10 (by decide) (fun c2 => ?_) (fun c2 => ?_)
  · replace h := gneg c2 h
    refine lv_aload_n hx hb dX10_append_17 rfl (lv_at hl 0 rfl) ?_
    refine gf_10_2 hx hb hown hts hK hP wf_X10_143 dX10_append_18 ?_
    refine lv_bipush (v := 120) hx hb dX10_append_21 (by decide) ?_
    refine lv_icmp_ne (tgt := 30) hx hb dX10_append_23 (by decide) (fun c3 => ?_) (fun c3 => ?_)
    · replace h := gneg c3 h
      refine lv_iconst (v := 0) hx hb dX10_append_30 (by decide) ?_
      exact bs_X10_append_31 C0  h hP hS (lv_sub hl [0, 1] rfl)
    · replace h := gpos c3 h
      refine lv_iconst (v := 2) hx hb dX10_append_26 (by decide) ?_
      refine lv_goto (tgt := 31) hx hb dX10_append_27 (by decide) ?_
      exact bs_X10_append_31 C0  h hP hS (lv_sub hl [0, 1] rfl)
  · replace h := gpos c2 h
    refine lv_iconst (v := 1) hx hb dX10_append_13 (by decide) ?_
    refine lv_goto (tgt := 31) hx hb dX10_append_14 (by decide) ?_
    exact bs_X10_append_31 C0  h hP hS (lv_sub hl [0, 1] rfl)
set_option maxHeartbeats 2000000 in
set_option maxRecDepth 20000 in
theorem m_X10_clearText (l : Launch) (Γ : gE)    (g : gG) (z : Int32 × gG) (h : f_X10_clearText g = some z) : gMi l yX10_clearText cX10_clearText 2 (some .int) 0 0 Γ [.ref (gB Γ + 174)] g z := by
  unfold f_X10_clearText at h
  refine gStart (own := RX10) (by decide +kernel) rfl (Nat.le_of_ble_eq_true rfl) ?_
  intro p e s m below meth c C0 ls hl hP
  have hS : va_S (gA Γ) s.heap s.heap [] := va_S.rf
  have hl : lv_has ls 2 [(0, .ref (gB Γ + 174))] := hl
  obtain ⟨hx, hb, hml, hr, hown, hts, hK, hlk, hX⟩ := id C0
  refine lv_aload_n hx hb dX10_clearText_0 rfl (lv_at hl 0 rfl) ?_
  refine lv_iconst (v := 0) hx hb dX10_clearText_1 (by decide) ?_
  refine gp_10_0 hx hb hown hts hK hP hS wf_X10_73 dX10_clearText_2 h (fun H locs g1 h hP hS => ?_)
  refine lv_aload_n hx hb dX10_clearText_5 rfl (lv_at hl 0 rfl) ?_
  refine gf_10_2 hx hb hown hts hK hP wf_X10_143 dX10_clearText_6 ?_
  refine lv_topi (fun x2 ex2 => ?_)
  replace h := gLetI ex2 h
  refine lv_istore_n (lv' := [(1, .int x2), (0, .ref (gB Γ + 174))]) hx hb dX10_clearText_9 rfl hl (by decide) rfl (fun ls hl => ?_)
  refine lv_aload_n hx hb dX10_clearText_10 rfl (lv_at hl 1 rfl) ?_
  refine lv_iconst (v := 0) hx hb dX10_clearText_11 (by decide) ?_
  refine gp_10_2 hx hb hown hts hK hP hS wf_X10_143 dX10_clearText_12 h (fun H locs g3 h hP hS => ?_)
  refine lv_iload_n hx hb dX10_clearText_15 rfl (lv_at hl 0 rfl) ?_
  exact giret hx hb hr hlk hP hS dX10_clearText_16 h
set_option maxHeartbeats 2000000 in
set_option maxRecDepth 20000 in
theorem m_X10_isNext (l : Launch) (Γ : gE)   (a1 : Int32) (g : gG) (z : Int32 × gG) (h : f_X10_isNext a1 g = some z) : gMi l yX10_isNext cX10_isNext 2 (some .boolean) 0 0 Γ [.ref (gB Γ + 174), .int a1] g z := by
  unfold f_X10_isNext at h
  refine gStart (own := RX10) (by decide +kernel) rfl (Nat.le_of_ble_eq_true rfl) ?_
  intro p e s m below meth c C0 ls hl hP
  have hS : va_S (gA Γ) s.heap s.heap [] := va_S.rf
  have hl : lv_has ls 2 [(0, .ref (gB Γ + 174)), (1, .int a1)] := hl
  obtain ⟨hx, hb, hml, hr, hown, hts, hK, hlk, hX⟩ := id C0
  refine lv_aload_n hx hb dX10_isNext_0 rfl (lv_at hl 0 rfl) ?_
  refine gf_10_3 hx hb hown hts hK hP wf_X10_150 dX10_isNext_1 ?_
  refine lv_aload_n hx hb dX10_isNext_4 rfl (lv_at hl 0 rfl) ?_
  refine gf_10_2 hx hb hown hts hK hP wf_X10_143 dX10_isNext_5 ?_
  refine lv_icmp_ge (tgt := 28) hx hb dX10_isNext_8 (by decide) (fun c1 => ?_) (fun c1 => ?_)
  · replace h := gpos c1 h
    refine lv_iconst (v := 0) hx hb dX10_isNext_28 (by decide) ?_
    exact gzret0 hx hb hr hlk hP hS rfl dX10_isNext_29 h
  · replace h := gneg c1 h
    refine lv_aload_n hx hb dX10_isNext_11 rfl (lv_at hl 0 rfl) ?_
    refine gf_10_1 hx hb hown hts hK hP wf_X10_7 dX10_isNext_12 ?_
    refine lv_aload_n hx hb dX10_isNext_15 rfl (lv_at hl 0 rfl) ?_
    refine gf_10_3 hx hb hown hts hK hP wf_X10_150 dX10_isNext_16 ?_
    refine gIld hx hb hK hP is_175 dX10_isNext_19 h (fun h => ?_)
    refine lv_iload_n hx hb dX10_isNext_20 rfl (lv_at hl 1 rfl) ?_
    refine lv_icmp_ne (tgt := 28) hx hb dX10_isNext_21 (by decide) (fun c2 => ?_) (fun c2 => ?_)
    · replace h := gneg c2 h
      refine lv_iconst (v := 0) hx hb dX10_isNext_28 (by decide) ?_
      exact gzret0 hx hb hr hlk hP hS rfl dX10_isNext_29 h
    · replace h := gpos c2 h
      refine lv_iconst (v := 1) hx hb dX10_isNext_24 (by decide) ?_
      refine lv_goto (tgt := 29) hx hb dX10_isNext_25 (by decide) ?_
      exact gzret0 hx hb hr hlk hP hS rfl dX10_isNext_29 h
set_option maxHeartbeats 2000000 in
set_option maxRecDepth 20000 in
theorem bs_X10_accept_17 {p : Program} {l : Launch} {e : Env} {s : State} {m : MethodId} {args : Array Value} {below : List Frame} {meth : Method} {c : Code} {Γ : gE} (C0 : gCx p s m args meth c Γ RX10 cX10_accept 2 none)   {z : Unit × gG}  {s1 : Int32} {g : gG} {H : Heap} {locs : List Loc} {ls : Array Slot}  (h : fs_X10_accept_17 s1 g = some z) (hP : va_P (gD Γ) gcls (lay Γ g) H) (hS : va_S (gA Γ) s.heap H locs) (hl : lv_has ls 2 [(0, .ref (gB Γ + 174))]) : W p l e (gRm 0 0) s m args below meth c H locs 0 0 (MQ below (gQv Γ z) args s 0 0 (gA Γ)) (F0 m 17 ls [.int s1, .ref (gB Γ + 174)]) := by
  unfold fs_X10_accept_17 at h
  obtain ⟨hx, hb, hml, hr, hown, hts, hK, hlk, hX⟩ := id C0
  refine gp_10_4 hx hb hown hts hK hP hS wf_X10_153 dX10_accept_17 h (fun H locs g1 h hP hS => ?_)
  refine lv_aload_n hx hb dX10_accept_20 rfl (lv_at hl 0 rfl) ?_
  refine lv_dup hx hb dX10_accept_21 rfl ?_
  refine gf_10_3 hx hb hown hts hK hP wf_X10_150 dX10_accept_22 ?_
  refine lv_aload_n hx hb dX10_accept_25 rfl (lv_at hl 0 rfl) ?_
  refine gf_10_4 hx hb hown hts hK hP wf_X10_153 dX10_accept_26 ?_
  refine lv_if_eq (tgt := 36) hx hb dX10_accept_29 (by decide) (fun c2 => ?_) (fun c2 => ?_)
  · replace h := gpos c2 h
    refine lv_iconst (v := 0) hx hb dX10_accept_36 (by decide) ?_
    refine lv_iadd hx hb dX10_accept_37 ?_
    refine gp_10_3 hx hb hown hts hK hP hS wf_X10_150 dX10_accept_38 h (fun H locs g3 h hP hS => ?_)
    exact gvret hx hb hr hlk hP hS dX10_accept_41 h
  · replace h := gneg c2 h
    refine lv_iconst (v := 1) hx hb dX10_accept_32 (by decide) ?_
    refine lv_goto (tgt := 37) hx hb dX10_accept_33 (by decide) ?_
    refine lv_iadd hx hb dX10_accept_37 ?_
    refine gp_10_3 hx hb hown hts hK hP hS wf_X10_150 dX10_accept_38 h (fun H locs g4 h hP hS => ?_)
    exact gvret hx hb hr hlk hP hS dX10_accept_41 h
set_option maxHeartbeats 2000000 in
set_option maxRecDepth 20000 in
theorem bs_X10_accept_16 {p : Program} {l : Launch} {e : Env} {s : State} {m : MethodId} {args : Array Value} {below : List Frame} {meth : Method} {c : Code} {Γ : gE} (C0 : gCx p s m args meth c Γ RX10 cX10_accept 2 none)   {z : Unit × gG}   {g : gG} {H : Heap} {locs : List Loc} {ls : Array Slot}  (h : fs_X10_accept_16 g = some z) (hP : va_P (gD Γ) gcls (lay Γ g) H) (hS : va_S (gA Γ) s.heap H locs) (hl : lv_has ls 2 [(0, .ref (gB Γ + 174))]) : W p l e (gRm 0 0) s m args below meth c H locs 0 0 (MQ below (gQv Γ z) args s 0 0 (gA Γ)) (F0 m 16 ls [.ref (gB Γ + 174)]) := by
  unfold fs_X10_accept_16 at h
  obtain ⟨hx, hb, hml, hr, hown, hts, hK, hlk, hX⟩ := id C0
  refine lv_iconst (v := 0) hx hb dX10_accept_16 (by decide) ?_
  exact bs_X10_accept_17 C0  h hP hS (lv_sub hl [0] rfl)
set_option maxHeartbeats 2000000 in
set_option maxRecDepth 20000 in
theorem m_X10_accept (l : Launch) (Γ : gE)   (a1 : Int32) (g : gG) (z : Unit × gG) (h : f_X10_accept a1 g = some z) : gMv l yX10_accept cX10_accept 2 none 0 0 Γ [.ref (gB Γ + 174), .int a1] g z := by
  unfold f_X10_accept at h
  refine gStart (own := RX10) (by decide +kernel) rfl (Nat.le_of_ble_eq_true rfl) ?_
  intro p e s m below meth c C0 ls hl hP
  have hS : va_S (gA Γ) s.heap s.heap [] := va_S.rf
  have hl : lv_has ls 2 [(0, .ref (gB Γ + 174)), (1, .int a1)] := hl
  obtain ⟨hx, hb, hml, hr, hown, hts, hK, hlk, hX⟩ := id C0
  refine lv_aload_n hx hb dX10_accept_0 rfl (lv_at hl 0 rfl) ?_
  refine lv_aload_n hx hb dX10_accept_1 rfl (lv_at hl 0 rfl) ?_
  refine gf_10_4 hx hb hown hts hK hP wf_X10_153 dX10_accept_2 ?_
  refine lv_if_eq (tgt := 16) hx hb dX10_accept_5 (by decide) (fun c1 => ?_) (fun c1 => ?_)
  · replace h := gpos c1 h
    exact bs_X10_accept_16 C0  h hP hS (lv_sub hl [0] rfl)
  · replace h := gneg c1 h
    refine lv_iload_n hx hb dX10_accept_8 rfl (lv_at hl 1 rfl) ?_
    refine lv_if_eq (tgt := 16) hx hb dX10_accept_9 (by decide) (fun c2 => ?_) (fun c2 => ?_)
    · replace h := gpos c2 h
      exact bs_X10_accept_16 C0  h hP hS (lv_sub hl [0] rfl)
    · replace h := gneg c2 h
      refine lv_iconst (v := 1) hx hb dX10_accept_12 (by decide) ?_
      refine lv_goto (tgt := 17) hx hb dX10_accept_13 (by decide) ?_
      exact bs_X10_accept_17 C0  h hP hS (lv_sub hl [0] rfl)
set_option maxHeartbeats 2000000 in
set_option maxRecDepth 20000 in
theorem bs_X10_digit_28 {p : Program} {l : Launch} {e : Env} {s : State} {m : MethodId} {args : Array Value} {below : List Frame} {meth : Method} {c : Code} {Γ : gE} (C0 : gCx p s m args meth c Γ RX10 cX10_digit 2 (some .int))   {z : Int32 × gG}  {s0 : Int32} {g : gG} {H : Heap} {locs : List Loc} {ls : Array Slot}  (h : fs_X10_digit_28 s0 g = some z) (hP : va_P (gD Γ) gcls (lay Γ g) H) (hS : va_S (gA Γ) s.heap H locs) (hl : lv_has ls 2 [(0, .ref (gB Γ + 174))]) : W p l e (gRm 1 25) s m args below meth c H locs 0 0 (MQ below (gQi Γ z) args s 0 0 (gA Γ)) (F0 m 28 ls [.int s0]) := by
  unfold fs_X10_digit_28 at h
  obtain ⟨hx, hb, hml, hr, hown, hts, hK, hlk, hX⟩ := id C0
  refine lv_istore_n (lv' := [(1, .int s0), (0, .ref (gB Γ + 174))]) hx hb dX10_digit_28 rfl hl (by decide) rfl (fun ls hl => ?_)
  refine lv_aload_n hx hb dX10_digit_29 rfl (lv_at hl 1 rfl) ?_
  refine lv_iload_n hx hb dX10_digit_30 rfl (lv_at hl 0 rfl) ?_
  refine lv_i2l hx hb dX10_digit_31 rfl ?_
  refine lv_lconst (v := 0) hx hb dX10_digit_32 (by decide) ?_
  refine lv_ldc2 (v := 9) hx hb hown (hts _ wkl_X10_157) dX10_digit_33 ?_
  refine gCSi (rest := [.ref (gB Γ + 174)]) C0 cal_X10_in wl_X10_139 wt_X10_in ⟨Nat.le_of_ble_eq_true rfl, Nat.le_of_ble_eq_true rfl⟩ ⟨Nat.le_of_ble_eq_true rfl, Nat.le_of_ble_eq_true rfl⟩ [.long s0.toInt64, .long (0 : Int64), .long (9 : Int64)] rfl (Nat.le_of_ble_eq_true rfl) hP hS hl.1 dX10_digit_36 h (fun u hu => m_X10_in l Γ s0.toInt64 (0 : Int64) (9 : Int64) g u hu) (fun u1 H locs h hP hS => ?_) rfl
  refine gCVv (rest := []) C0 cal_X10_accept wl_X10_159 wi_X10_accept ws_X10_accept ⟨Nat.le_of_ble_eq_true rfl, Nat.le_of_ble_eq_true rfl⟩ ⟨Nat.le_of_ble_eq_true rfl, Nat.le_of_ble_eq_true rfl⟩ grv_10 [.int u1.1] rfl (Nat.le_of_ble_eq_true rfl) hP hS hl.1 dX10_digit_39 h (fun u hu => m_X10_accept l Γ u1.1 u1.2 u hu) (fun u2 H locs h hP hS => ?_) rfl
  refine lv_aload_n hx hb dX10_digit_42 rfl (lv_at hl 1 rfl) ?_
  refine gf_10_4 hx hb hown hts hK hP wf_X10_153 dX10_digit_43 ?_
  refine lv_if_eq (tgt := 53) hx hb dX10_digit_46 (by decide) (fun c3 => ?_) (fun c3 => ?_)
  · replace h := gpos c3 h
    refine lv_iconst (v := 0) hx hb dX10_digit_53 (by decide) ?_
    exact giret hx hb hr hlk hP hS dX10_digit_54 h
  · replace h := gneg c3 h
    refine lv_iload_n hx hb dX10_digit_49 rfl (lv_at hl 0 rfl) ?_
    refine lv_goto (tgt := 54) hx hb dX10_digit_50 (by decide) ?_
    exact giret hx hb hr hlk hP hS dX10_digit_54 h
set_option maxHeartbeats 2000000 in
set_option maxRecDepth 20000 in
theorem m_X10_digit (l : Launch) (Γ : gE)    (g : gG) (z : Int32 × gG) (h : f_X10_digit g = some z) : gMi l yX10_digit cX10_digit 2 (some .int) 1 25 Γ [.ref (gB Γ + 174)] g z := by
  unfold f_X10_digit at h
  refine gStart (own := RX10) (by decide +kernel) rfl (Nat.le_of_ble_eq_true rfl) ?_
  intro p e s m below meth c C0 ls hl hP
  have hS : va_S (gA Γ) s.heap s.heap [] := va_S.rf
  have hl : lv_has ls 2 [(0, .ref (gB Γ + 174))] := hl
  obtain ⟨hx, hb, hml, hr, hown, hts, hK, hlk, hX⟩ := id C0
  refine lv_aload_n hx hb dX10_digit_0 rfl (lv_at hl 0 rfl) ?_
  refine gf_10_3 hx hb hown hts hK hP wf_X10_150 dX10_digit_1 ?_
  refine lv_aload_n hx hb dX10_digit_4 rfl (lv_at hl 0 rfl) ?_
  refine gf_10_2 hx hb hown hts hK hP wf_X10_143 dX10_digit_5 ?_
  refine lv_icmp_ge (tgt := 26) hx hb dX10_digit_8 (by decide) (fun c1 => ?_) (fun c1 => ?_)
  · replace h := gpos c1 h
    refine lv_bipush (v := -9) hx hb dX10_digit_26 (by decide) ?_
    exact bs_X10_digit_28 C0  h hP hS (lv_sub hl [0] rfl)
  · replace h := gneg c1 h
    refine lv_aload_n hx hb dX10_digit_11 rfl (lv_at hl 0 rfl) ?_
    refine gf_10_1 hx hb hown hts hK hP wf_X10_7 dX10_digit_12 ?_
    refine lv_aload_n hx hb dX10_digit_15 rfl (lv_at hl 0 rfl) ?_
    refine gf_10_3 hx hb hown hts hK hP wf_X10_150 dX10_digit_16 ?_
    refine gIld hx hb hK hP is_175 dX10_digit_19 h (fun h => ?_)
    refine lv_bipush (v := 48) hx hb dX10_digit_20 (by decide) ?_
    refine lv_isub hx hb dX10_digit_22 ?_
    refine lv_goto (tgt := 28) hx hb dX10_digit_23 (by decide) ?_
    exact bs_X10_digit_28 C0  h hP hS (lv_sub hl [0] rfl)
set_option maxHeartbeats 2000000 in
set_option maxRecDepth 20000 in
theorem m_X10_begins (l : Launch) (Γ : gE)   (a1 : Int32) (a2 : Int32) (g : gG) (z : Unit × gG) (h : f_X10_begins a1 a2 g = some z) : gMv l yX10_begins cX10_begins 3 none 0 0 Γ [.ref (gB Γ + 174), .int a1, .int a2] g z := by
  unfold f_X10_begins at h
  refine gStart (own := RX10) (by decide +kernel) rfl (Nat.le_of_ble_eq_true rfl) ?_
  intro p e s m below meth c C0 ls hl hP
  have hS : va_S (gA Γ) s.heap s.heap [] := va_S.rf
  have hl : lv_has ls 3 [(0, .ref (gB Γ + 174)), (1, .int a1), (2, .int a2)] := hl
  obtain ⟨hx, hb, hml, hr, hown, hts, hK, hlk, hX⟩ := id C0
  refine lv_aload_n hx hb dX10_begins_0 rfl (lv_at hl 0 rfl) ?_
  refine lv_dup hx hb dX10_begins_1 rfl ?_
  refine gf_10_12 hx hb hown hts hK hP wf_X10_163 dX10_begins_2 ?_
  refine lv_iconst (v := 1) hx hb dX10_begins_5 (by decide) ?_
  refine lv_iadd hx hb dX10_begins_6 ?_
  refine gp_10_12 hx hb hown hts hK hP hS wf_X10_163 dX10_begins_7 h (fun H locs g1 h hP hS => ?_)
  refine lv_aload_n hx hb dX10_begins_10 rfl (lv_at hl 0 rfl) ?_
  refine gf_10_6 hx hb hown hts hK hP wf_X10_16 dX10_begins_11 ?_
  refine lv_aload_n hx hb dX10_begins_14 rfl (lv_at hl 0 rfl) ?_
  refine gf_10_12 hx hb hown hts hK hP wf_X10_163 dX10_begins_15 ?_
  refine lv_iload_n hx hb dX10_begins_18 rfl (lv_at hl 1 rfl) ?_
  refine gIst hx hb hK hP hS is_177 dX10_begins_19 h (fun H locs g2 h hP hS => ?_)
  refine lv_aload_n hx hb dX10_begins_20 rfl (lv_at hl 0 rfl) ?_
  refine gf_10_7 hx hb hown hts hK hP wf_X10_19 dX10_begins_21 ?_
  refine lv_aload_n hx hb dX10_begins_24 rfl (lv_at hl 0 rfl) ?_
  refine gf_10_12 hx hb hown hts hK hP wf_X10_163 dX10_begins_25 ?_
  refine lv_iconst (v := 0) hx hb dX10_begins_28 (by decide) ?_
  refine gZst hx hb hK hP hS is_178 dX10_begins_29 h (fun H locs g3 h hP hS => ?_)
  refine lv_aload_n hx hb dX10_begins_30 rfl (lv_at hl 0 rfl) ?_
  refine gf_10_8 hx hb hown hts hK hP wf_X10_23 dX10_begins_31 ?_
  refine lv_aload_n hx hb dX10_begins_34 rfl (lv_at hl 0 rfl) ?_
  refine gf_10_12 hx hb hown hts hK hP wf_X10_163 dX10_begins_35 ?_
  refine lv_iconst (v := 1) hx hb dX10_begins_38 (by decide) ?_
  refine gZst hx hb hK hP hS is_179 dX10_begins_39 h (fun H locs g4 h hP hS => ?_)
  refine lv_aload_n hx hb dX10_begins_40 rfl (lv_at hl 0 rfl) ?_
  refine gf_10_9 hx hb hown hts hK hP wf_X10_26 dX10_begins_41 ?_
  refine lv_aload_n hx hb dX10_begins_44 rfl (lv_at hl 0 rfl) ?_
  refine gf_10_12 hx hb hown hts hK hP wf_X10_163 dX10_begins_45 ?_
  refine lv_iconst (v := 0) hx hb dX10_begins_48 (by decide) ?_
  refine gZst hx hb hK hP hS is_180 dX10_begins_49 h (fun H locs g5 h hP hS => ?_)
  refine lv_aload_n hx hb dX10_begins_50 rfl (lv_at hl 0 rfl) ?_
  refine gf_10_10 hx hb hown hts hK hP wf_X10_29 dX10_begins_51 ?_
  refine lv_aload_n hx hb dX10_begins_54 rfl (lv_at hl 0 rfl) ?_
  refine gf_10_12 hx hb hown hts hK hP wf_X10_163 dX10_begins_55 ?_
  refine lv_iload_n hx hb dX10_begins_58 rfl (lv_at hl 2 rfl) ?_
  refine gIst hx hb hK hP hS is_181 dX10_begins_59 h (fun H locs g6 h hP hS => ?_)
  refine lv_aload_n hx hb dX10_begins_60 rfl (lv_at hl 0 rfl) ?_
  refine gf_10_11 hx hb hown hts hK hP wf_X10_32 dX10_begins_61 ?_
  refine lv_aload_n hx hb dX10_begins_64 rfl (lv_at hl 0 rfl) ?_
  refine gf_10_12 hx hb hown hts hK hP wf_X10_163 dX10_begins_65 ?_
  refine lv_iconst (v := 0) hx hb dX10_begins_68 (by decide) ?_
  refine gIst hx hb hK hP hS is_182 dX10_begins_69 h (fun H locs g7 h hP hS => ?_)
  exact gvret hx hb hr hlk hP hS dX10_begins_70 h
set_option maxHeartbeats 2000000 in
set_option maxRecDepth 20000 in
theorem bs_X10_part_38 {p : Program} {l : Launch} {e : Env} {s : State} {m : MethodId} {args : Array Value} {below : List Frame} {meth : Method} {c : Code} {Γ : gE} (C0 : gCx p s m args meth c Γ RX10 cX10_part 2 none)   {z : Unit × gG}  {s1 : Int32} {s2 : Int32} {g : gG} {H : Heap} {locs : List Loc} {ls : Array Slot}  (h : fs_X10_part_38 s1 s2 g = some z) (hP : va_P (gD Γ) gcls (lay Γ g) H) (hS : va_S (gA Γ) s.heap H locs) (hl : lv_has ls 2 [(0, .ref (gB Γ + 174))]) : W p l e (gRm 0 0) s m args below meth c H locs 0 0 (MQ below (gQv Γ z) args s 0 0 (gA Γ)) (F0 m 38 ls [.int s2, .int s1, .ref (gB Γ + 179)]) := by
  unfold fs_X10_part_38 at h
  obtain ⟨hx, hb, hml, hr, hown, hts, hK, hlk, hX⟩ := id C0
  refine gZst hx hb hK hP hS is_179 dX10_part_38 h (fun H locs g1 h hP hS => ?_)
  refine lv_aload_n hx hb dX10_part_39 rfl (lv_at hl 0 rfl) ?_
  refine gf_10_9 hx hb hown hts hK hP wf_X10_26 dX10_part_40 ?_
  refine lv_aload_n hx hb dX10_part_43 rfl (lv_at hl 0 rfl) ?_
  refine gf_10_12 hx hb hown hts hK hP wf_X10_163 dX10_part_44 ?_
  refine lv_iconst (v := 0) hx hb dX10_part_47 (by decide) ?_
  refine gZst hx hb hK hP hS is_180 dX10_part_48 h (fun H locs g2 h hP hS => ?_)
  exact gvret hx hb hr hlk hP hS dX10_part_49 h
set_option maxHeartbeats 2000000 in
set_option maxRecDepth 20000 in
theorem bs_X10_part_37 {p : Program} {l : Launch} {e : Env} {s : State} {m : MethodId} {args : Array Value} {below : List Frame} {meth : Method} {c : Code} {Γ : gE} (C0 : gCx p s m args meth c Γ RX10 cX10_part 2 none)   {z : Unit × gG}  {s1 : Int32} {g : gG} {H : Heap} {locs : List Loc} {ls : Array Slot}  (h : fs_X10_part_37 s1 g = some z) (hP : va_P (gD Γ) gcls (lay Γ g) H) (hS : va_S (gA Γ) s.heap H locs) (hl : lv_has ls 2 [(0, .ref (gB Γ + 174))]) : W p l e (gRm 0 0) s m args below meth c H locs 0 0 (MQ below (gQv Γ z) args s 0 0 (gA Γ)) (F0 m 37 ls [.int s1, .ref (gB Γ + 179)]) := by
  unfold fs_X10_part_37 at h
  obtain ⟨hx, hb, hml, hr, hown, hts, hK, hlk, hX⟩ := id C0
  refine lv_iconst (v := 0) hx hb dX10_part_37 (by decide) ?_
  exact bs_X10_part_38 C0  h hP hS (lv_sub hl [0] rfl)
set_option maxHeartbeats 2000000 in
set_option maxRecDepth 20000 in
theorem m_X10_part (l : Launch) (Γ : gE)   (a1 : Int32) (g : gG) (z : Unit × gG) (h : f_X10_part a1 g = some z) : gMv l yX10_part cX10_part 2 none 0 0 Γ [.ref (gB Γ + 174), .int a1] g z := by
  unfold f_X10_part at h
  refine gStart (own := RX10) (by decide +kernel) rfl (Nat.le_of_ble_eq_true rfl) ?_
  intro p e s m below meth c C0 ls hl hP
  have hS : va_S (gA Γ) s.heap s.heap [] := va_S.rf
  have hl : lv_has ls 2 [(0, .ref (gB Γ + 174)), (1, .int a1)] := hl
  obtain ⟨hx, hb, hml, hr, hown, hts, hK, hlk, hX⟩ := id C0
  refine lv_aload_n hx hb dX10_part_0 rfl (lv_at hl 0 rfl) ?_
  refine gf_10_8 hx hb hown hts hK hP wf_X10_23 dX10_part_1 ?_
  refine lv_aload_n hx hb dX10_part_4 rfl (lv_at hl 0 rfl) ?_
  refine gf_10_12 hx hb hown hts hK hP wf_X10_163 dX10_part_5 ?_
  refine lv_aload_n hx hb dX10_part_8 rfl (lv_at hl 0 rfl) ?_
  refine gf_10_8 hx hb hown hts hK hP wf_X10_23 dX10_part_9 ?_
  refine lv_aload_n hx hb dX10_part_12 rfl (lv_at hl 0 rfl) ?_
  refine gf_10_12 hx hb hown hts hK hP wf_X10_163 dX10_part_13 ?_
  refine gZld hx hb hK hP is_179 dX10_part_16 h (fun h => ?_)
  refine lv_if_eq (tgt := 37) hx hb dX10_part_17 (by decide) (fun c1 => ?_) (fun c1 => ?_)
  · replace h := gpos c1 h
    exact bs_X10_part_37 C0  h hP hS (lv_sub hl [0] rfl)
  · replace h := gneg c1 h
    refine lv_iload_n hx hb dX10_part_20 rfl (lv_at hl 1 rfl) ?_
    refine lv_aload_n hx hb dX10_part_21 rfl (lv_at hl 0 rfl) ?_
    refine gf_10_9 hx hb hown hts hK hP wf_X10_26 dX10_part_22 ?_
    refine lv_aload_n hx hb dX10_part_25 rfl (lv_at hl 0 rfl) ?_
    refine gf_10_12 hx hb hown hts hK hP wf_X10_163 dX10_part_26 ?_
    refine gZld hx hb hK hP is_180 dX10_part_29 h (fun h => ?_)
    refine lv_icmp_eq (tgt := 37) hx hb dX10_part_30 (by decide) (fun c2 => ?_) (fun c2 => ?_)
    · replace h := gpos c2 h
      exact bs_X10_part_37 C0  h hP hS (lv_sub hl [0] rfl)
    · replace h := gneg c2 h
      refine lv_iconst (v := 1) hx hb dX10_part_33 (by decide) ?_
      refine lv_goto (tgt := 38) hx hb dX10_part_34 (by decide) ?_
      exact bs_X10_part_38 C0  h hP hS (lv_sub hl [0] rfl)
set_option maxHeartbeats 2000000 in
set_option maxRecDepth 20000 in
theorem m_X10_isGroupOrAhead (l : Launch) (Γ : gE)    (g : gG) (z : Int32 × gG) (h : f_X10_isGroupOrAhead g = some z) : gMi l yX10_isGroupOrAhead cX10_isGroupOrAhead 1 (some .boolean) 0 0 Γ [.ref (gB Γ + 174)] g z := by
  unfold f_X10_isGroupOrAhead at h
  refine gStart (own := RX10) (by decide +kernel) rfl (Nat.le_of_ble_eq_true rfl) ?_
  intro p e s m below meth c C0 ls hl hP
  have hS : va_S (gA Γ) s.heap s.heap [] := va_S.rf
  have hl : lv_has ls 1 [(0, .ref (gB Γ + 174))] := hl
  obtain ⟨hx, hb, hml, hr, hown, hts, hK, hlk, hX⟩ := id C0
  refine lv_aload_n hx hb dX10_isGroupOrAhead_0 rfl (lv_at hl 0 rfl) ?_
  refine gf_10_7 hx hb hown hts hK hP wf_X10_19 dX10_isGroupOrAhead_1 ?_
  refine lv_aload_n hx hb dX10_isGroupOrAhead_4 rfl (lv_at hl 0 rfl) ?_
  refine gf_10_12 hx hb hown hts hK hP wf_X10_163 dX10_isGroupOrAhead_5 ?_
  refine gZld hx hb hK hP is_178 dX10_isGroupOrAhead_8 h (fun h => ?_)
  refine lv_if_ne (tgt := 24) hx hb dX10_isGroupOrAhead_9 (by decide) (fun c1 => ?_) (fun c1 => ?_)
  · replace h := gneg c1 h
    refine lv_iconst (v := 1) hx hb dX10_isGroupOrAhead_24 (by decide) ?_
    refine lv_goto (tgt := 29) hx hb dX10_isGroupOrAhead_25 (by decide) ?_
    exact gzret0 hx hb hr hlk hP hS rfl dX10_isGroupOrAhead_29 h
  · replace h := gpos c1 h
    refine lv_aload_n hx hb dX10_isGroupOrAhead_12 rfl (lv_at hl 0 rfl) ?_
    refine gf_10_8 hx hb hown hts hK hP wf_X10_23 dX10_isGroupOrAhead_13 ?_
    refine lv_aload_n hx hb dX10_isGroupOrAhead_16 rfl (lv_at hl 0 rfl) ?_
    refine gf_10_12 hx hb hown hts hK hP wf_X10_163 dX10_isGroupOrAhead_17 ?_
    refine gZld hx hb hK hP is_179 dX10_isGroupOrAhead_20 h (fun h => ?_)
    refine lv_if_eq (tgt := 28) hx hb dX10_isGroupOrAhead_21 (by decide) (fun c2 => ?_) (fun c2 => ?_)
    · replace h := gpos c2 h
      refine lv_iconst (v := 0) hx hb dX10_isGroupOrAhead_28 (by decide) ?_
      exact gzret0 hx hb hr hlk hP hS rfl dX10_isGroupOrAhead_29 h
    · replace h := gneg c2 h
      refine lv_iconst (v := 1) hx hb dX10_isGroupOrAhead_24 (by decide) ?_
      refine lv_goto (tgt := 29) hx hb dX10_isGroupOrAhead_25 (by decide) ?_
      exact gzret0 hx hb hr hlk hP hS rfl dX10_isGroupOrAhead_29 h
set_option maxHeartbeats 2000000 in
set_option maxRecDepth 20000 in
theorem bs_X10_readPart_78 {p : Program} {l : Launch} {e : Env} {s : State} {m : MethodId} {args : Array Value} {below : List Frame} {meth : Method} {c : Code} {Γ : gE} (C0 : gCx p s m args meth c Γ RX10 cX10_readPart 4 (some .boolean))   {z : Int32 × gG}  {s1 : Int32} {g : gG} {H : Heap} {locs : List Loc} {ls : Array Slot}  (h : fs_X10_readPart_78 s1 g = some z) (hP : va_P (gD Γ) gcls (lay Γ g) H) (hS : va_S (gA Γ) s.heap H locs) (hl : lv_has ls 4 []) : W p l e (gRm 1 25) s m args below meth c H locs 0 0 (MQ below (gQi Γ z) args s 0 0 (gA Γ)) (F0 m 78 ls [.int s1, .ref (gB Γ + 174)]) := by
  unfold fs_X10_readPart_78 at h
  obtain ⟨hx, hb, hml, hr, hown, hts, hK, hlk, hX⟩ := id C0
  refine gCVv (rest := []) C0 cal_X10_part wl_X10_168 wi_X10_part ws_X10_part ⟨Nat.le_of_ble_eq_true rfl, Nat.le_of_ble_eq_true rfl⟩ ⟨Nat.le_of_ble_eq_true rfl, Nat.le_of_ble_eq_true rfl⟩ grv_10 [.int s1] rfl (Nat.le_of_ble_eq_true rfl) hP hS hl.1 dX10_readPart_78 h (fun u hu => m_X10_part l Γ s1 g u hu) (fun u1 H locs h hP hS => ?_) rfl
  refine lv_iconst (v := 1) hx hb dX10_readPart_81 (by decide) ?_
  exact gzret0 hx hb hr hlk hP hS rfl dX10_readPart_82 h
set_option maxHeartbeats 2000000 in
set_option maxRecDepth 20000 in
theorem bs_X10_readPart_73 {p : Program} {l : Launch} {e : Env} {s : State} {m : MethodId} {args : Array Value} {below : List Frame} {meth : Method} {c : Code} {Γ : gE} (C0 : gCx p s m args meth c Γ RX10 cX10_readPart 4 (some .boolean))   {z : Int32 × gG}   {g : gG} {H : Heap} {locs : List Loc} {ls : Array Slot}  (h : fs_X10_readPart_73 g = some z) (hP : va_P (gD Γ) gcls (lay Γ g) H) (hS : va_S (gA Γ) s.heap H locs) (hl : lv_has ls 4 []) : W p l e (gRm 1 25) s m args below meth c H locs 0 0 (MQ below (gQi Γ z) args s 0 0 (gA Γ)) (F0 m 73 ls [.ref (gB Γ + 174)]) := by
  unfold fs_X10_readPart_73 at h
  obtain ⟨hx, hb, hml, hr, hown, hts, hK, hlk, hX⟩ := id C0
  refine lv_iconst (v := 1) hx hb dX10_readPart_73 (by decide) ?_
  refine lv_goto (tgt := 78) hx hb dX10_readPart_74 (by decide) ?_
  exact bs_X10_readPart_78 C0  h hP hS (lv_sub hl [] rfl)
set_option maxHeartbeats 2000000 in
set_option maxRecDepth 20000 in
theorem bs_X10_readPart_50 {p : Program} {l : Launch} {e : Env} {s : State} {m : MethodId} {args : Array Value} {below : List Frame} {meth : Method} {c : Code} {Γ : gE} (C0 : gCx p s m args meth c Γ RX10 cX10_readPart 4 (some .boolean))   {z : Int32 × gG}  {l1 : Int32} {l3 : Int32} {g : gG} {H : Heap} {locs : List Loc} {ls : Array Slot}  (h : fs_X10_readPart_50 l1 l3 g = some z) (hP : va_P (gD Γ) gcls (lay Γ g) H) (hS : va_S (gA Γ) s.heap H locs) (hl : lv_has ls 4 [(0, .ref (gB Γ + 174)), (1, .int l1), (3, .int l3)]) : W p l e (gRm 1 25) s m args below meth c H locs 0 0 (MQ below (gQi Γ z) args s 0 0 (gA Γ)) (F0 m 50 ls []) := by
  unfold fs_X10_readPart_50 at h
  obtain ⟨hx, hb, hml, hr, hown, hts, hK, hlk, hX⟩ := id C0
  refine lv_aload_n hx hb dX10_readPart_50 rfl (lv_at hl 0 rfl) ?_
  refine lv_iconst (v := 1) hx hb dX10_readPart_51 (by decide) ?_
  refine gCVv (rest := []) C0 cal_X10_accept wl_X10_159 wi_X10_accept ws_X10_accept ⟨Nat.le_of_ble_eq_true rfl, Nat.le_of_ble_eq_true rfl⟩ ⟨Nat.le_of_ble_eq_true rfl, Nat.le_of_ble_eq_true rfl⟩ grv_10 [.int (1 : Int32)] rfl (Nat.le_of_ble_eq_true rfl) hP hS hl.1 dX10_readPart_52 h (fun u hu => m_X10_accept l Γ (1 : Int32) g u hu) (fun u1 H locs h hP hS => ?_) rfl
  refine lv_aload_n hx hb dX10_readPart_55 rfl (lv_at hl 0 rfl) ?_
  refine lv_iload_n hx hb dX10_readPart_56 rfl (lv_at hl 2 rfl) ?_
  refine lv_bipush (v := 42) hx hb dX10_readPart_57 (by decide) ?_
  refine lv_icmp_eq (tgt := 73) hx hb dX10_readPart_59 (by decide) (fun c2 => ?_) (fun c2 => ?_)
  · replace h := gpos c2 h
    exact bs_X10_readPart_73 C0  h hP hS (lv_sub hl [] rfl)
  · replace h := gneg c2 h
    refine lv_iload_n hx hb dX10_readPart_62 rfl (lv_at hl 1 rfl) ?_
    refine lv_iload_n hx hb dX10_readPart_63 rfl (lv_at hl 2 rfl) ?_
    refine lv_bipush (v := 97) hx hb dX10_readPart_64 (by decide) ?_
    refine lv_isub hx hb dX10_readPart_66 ?_
    refine gCSi (rest := [.ref (gB Γ + 174)]) C0 cal_X10_has wl_X10_65 wt_X10_has ⟨Nat.le_of_ble_eq_true rfl, Nat.le_of_ble_eq_true rfl⟩ ⟨Nat.le_of_ble_eq_true rfl, Nat.le_of_ble_eq_true rfl⟩ [.int l1, .int (l3 - (97 : Int32))] rfl (Nat.le_of_ble_eq_true rfl) hP hS hl.1 dX10_readPart_67 h (fun u hu => m_X10_has l Γ l1 (l3 - (97 : Int32)) u1.2 u hu) (fun u3 H locs h hP hS => ?_) rfl
    refine lv_if_eq (tgt := 77) hx hb dX10_readPart_70 (by decide) (fun c4 => ?_) (fun c4 => ?_)
    · replace h := gpos c4 h
      refine lv_iconst (v := 0) hx hb dX10_readPart_77 (by decide) ?_
      exact bs_X10_readPart_78 C0  h hP hS (lv_sub hl [] rfl)
    · replace h := gneg c4 h
      exact bs_X10_readPart_73 C0  h hP hS (lv_sub hl [] rfl)
set_option maxHeartbeats 2000000 in
set_option maxRecDepth 20000 in
theorem bs_X10_readPart_25 {p : Program} {l : Launch} {e : Env} {s : State} {m : MethodId} {args : Array Value} {below : List Frame} {meth : Method} {c : Code} {Γ : gE} (C0 : gCx p s m args meth c Γ RX10 cX10_readPart 4 (some .boolean))   {z : Int32 × gG}  {l1 : Int32} {l2 : Int32} {s0 : Int32} {g : gG} {H : Heap} {locs : List Loc} {ls : Array Slot}  (h : fs_X10_readPart_25 l1 l2 s0 g = some z) (hP : va_P (gD Γ) gcls (lay Γ g) H) (hS : va_S (gA Γ) s.heap H locs) (hl : lv_has ls 4 [(0, .ref (gB Γ + 174)), (1, .int l1), (2, .int l2)]) : W p l e (gRm 1 25) s m args below meth c H locs 0 0 (MQ below (gQi Γ z) args s 0 0 (gA Γ)) (F0 m 25 ls [.int s0]) := by
  unfold fs_X10_readPart_25 at h
  obtain ⟨hx, hb, hml, hr, hown, hts, hK, hlk, hX⟩ := id C0
  refine lv_istore_n (lv' := [(3, .int s0), (0, .ref (gB Γ + 174)), (1, .int l1), (2, .int l2)]) hx hb dX10_readPart_25 rfl hl (by decide) rfl (fun ls hl => ?_)
  refine lv_iload_n hx hb dX10_readPart_26 rfl (lv_at hl 0 rfl) ?_
  refine lv_bipush (v := 42) hx hb dX10_readPart_27 (by decide) ?_
  refine lv_icmp_eq (tgt := 50) hx hb dX10_readPart_29 (by decide) (fun c1 => ?_) (fun c1 => ?_)
  · replace h := gpos c1 h
    exact bs_X10_readPart_50 C0  h hP hS (lv_sub hl [1, 2, 0] rfl)
  · replace h := gneg c1 h
    refine lv_iload_n hx hb dX10_readPart_32 rfl (lv_at hl 0 rfl) ?_
    refine lv_i2l hx hb dX10_readPart_33 rfl ?_
    refine lv_ldc2 (v := 97) hx hb hown (hts _ wkl_X10_166) dX10_readPart_34 ?_
    refine lv_bipush (v := 97) hx hb dX10_readPart_37 (by decide) ?_
    refine lv_iload_n hx hb dX10_readPart_39 rfl (lv_at hl 3 rfl) ?_
    refine lv_iadd hx hb dX10_readPart_40 ?_
    refine lv_iconst (v := 1) hx hb dX10_readPart_41 (by decide) ?_
    refine lv_isub hx hb dX10_readPart_42 ?_
    refine lv_i2l hx hb dX10_readPart_43 rfl ?_
    refine gCSi (rest := []) C0 cal_X10_in wl_X10_139 wt_X10_in ⟨Nat.le_of_ble_eq_true rfl, Nat.le_of_ble_eq_true rfl⟩ ⟨Nat.le_of_ble_eq_true rfl, Nat.le_of_ble_eq_true rfl⟩ [.long s0.toInt64, .long (97 : Int64), .long ((((97 : Int32) + l2) - (1 : Int32)).toInt64)] rfl (Nat.le_of_ble_eq_true rfl) hP hS hl.1 dX10_readPart_44 h (fun u hu => m_X10_in l Γ s0.toInt64 (97 : Int64) ((((97 : Int32) + l2) - (1 : Int32)).toInt64) g u hu) (fun u2 H locs h hP hS => ?_) rfl
    refine lv_if_eq (tgt := 83) hx hb dX10_readPart_47 (by decide) (fun c3 => ?_) (fun c3 => ?_)
    · replace h := gpos c3 h
      refine lv_iload_n hx hb dX10_readPart_83 rfl (lv_at hl 0 rfl) ?_
      refine lv_bipush (v := 33) hx hb dX10_readPart_84 (by decide) ?_
      refine lv_icmp_ne (tgt := 123) hx hb dX10_readPart_86 (by decide) (fun c4 => ?_) (fun c4 => ?_)
      · replace h := gneg c4 h
        refine lv_iload_n hx hb dX10_readPart_123 rfl (lv_at hl 0 rfl) ?_
        refine lv_bipush (v := 40) hx hb dX10_readPart_124 (by decide) ?_
        refine lv_icmp_ne (tgt := 143) hx hb dX10_readPart_126 (by decide) (fun c5 => ?_) (fun c5 => ?_)
        · replace h := gneg c5 h
          refine lv_iload_n hx hb dX10_readPart_143 rfl (lv_at hl 0 rfl) ?_
          refine lv_i2l hx hb dX10_readPart_144 rfl ?_
          refine lv_ldc2 (v := 49) hx hb hown (hts _ wkl_X10_175) dX10_readPart_145 ?_
          refine lv_ldc2 (v := 52) hx hb hown (hts _ wkl_X10_177) dX10_readPart_148 ?_
          refine gCSi (rest := []) C0 cal_X10_in wl_X10_139 wt_X10_in ⟨Nat.le_of_ble_eq_true rfl, Nat.le_of_ble_eq_true rfl⟩ ⟨Nat.le_of_ble_eq_true rfl, Nat.le_of_ble_eq_true rfl⟩ [.long s0.toInt64, .long (49 : Int64), .long (52 : Int64)] rfl (Nat.le_of_ble_eq_true rfl) hP hS hl.1 dX10_readPart_151 h (fun u hu => m_X10_in l Γ s0.toInt64 (49 : Int64) (52 : Int64) u2.2 u hu) (fun u6 H locs h hP hS => ?_) rfl
          refine lv_if_eq (tgt := 184) hx hb dX10_readPart_154 (by decide) (fun c7 => ?_) (fun c7 => ?_)
          · replace h := gpos c7 h
            refine lv_aload_n hx hb dX10_readPart_184 rfl (lv_at hl 1 rfl) ?_
            refine lv_iconst (v := 0) hx hb dX10_readPart_185 (by decide) ?_
            refine gCVv (rest := []) C0 cal_X10_accept wl_X10_159 wi_X10_accept ws_X10_accept ⟨Nat.le_of_ble_eq_true rfl, Nat.le_of_ble_eq_true rfl⟩ ⟨Nat.le_of_ble_eq_true rfl, Nat.le_of_ble_eq_true rfl⟩ grv_10 [.int (0 : Int32)] rfl (Nat.le_of_ble_eq_true rfl) hP hS hl.1 dX10_readPart_186 h (fun u hu => m_X10_accept l Γ (0 : Int32) u6.2 u hu) (fun u8 H locs h hP hS => ?_) rfl
            refine lv_iconst (v := 0) hx hb dX10_readPart_189 (by decide) ?_
            exact gzret0 hx hb hr hlk hP hS rfl dX10_readPart_190 h
          · replace h := gneg c7 h
            refine lv_aload_n hx hb dX10_readPart_157 rfl (lv_at hl 1 rfl) ?_
            refine lv_iconst (v := 1) hx hb dX10_readPart_158 (by decide) ?_
            refine gCVv (rest := []) C0 cal_X10_accept wl_X10_159 wi_X10_accept ws_X10_accept ⟨Nat.le_of_ble_eq_true rfl, Nat.le_of_ble_eq_true rfl⟩ ⟨Nat.le_of_ble_eq_true rfl, Nat.le_of_ble_eq_true rfl⟩ grv_10 [.int (1 : Int32)] rfl (Nat.le_of_ble_eq_true rfl) hP hS hl.1 dX10_readPart_159 h (fun u hu => m_X10_accept l Γ (1 : Int32) u6.2 u hu) (fun u9 H locs h hP hS => ?_) rfl
            refine lv_aload_n hx hb dX10_readPart_162 rfl (lv_at hl 1 rfl) ?_
            refine lv_aload_n hx hb dX10_readPart_163 rfl (lv_at hl 1 rfl) ?_
            refine lv_bipush (v := 91) hx hb dX10_readPart_164 (by decide) ?_
            refine gCVi (rest := [.ref (gB Γ + 174)]) C0 cal_X10_isNext wl_X10_179 wi_X10_isNext ws_X10_isNext ⟨Nat.le_of_ble_eq_true rfl, Nat.le_of_ble_eq_true rfl⟩ ⟨Nat.le_of_ble_eq_true rfl, Nat.le_of_ble_eq_true rfl⟩ grv_10 [.int (91 : Int32)] rfl (Nat.le_of_ble_eq_true rfl) hP hS hl.1 dX10_readPart_166 h (fun u hu => m_X10_isNext l Γ (91 : Int32) u9.2 u hu) (fun u10 H locs h hP hS => ?_) rfl
            refine gCVv (rest := []) C0 cal_X10_accept wl_X10_159 wi_X10_accept ws_X10_accept ⟨Nat.le_of_ble_eq_true rfl, Nat.le_of_ble_eq_true rfl⟩ ⟨Nat.le_of_ble_eq_true rfl, Nat.le_of_ble_eq_true rfl⟩ grv_10 [.int u10.1] rfl (Nat.le_of_ble_eq_true rfl) hP hS hl.1 dX10_readPart_169 h (fun u hu => m_X10_accept l Γ u10.1 u10.2 u hu) (fun u11 H locs h hP hS => ?_) rfl
            refine lv_aload_n hx hb dX10_readPart_172 rfl (lv_at hl 1 rfl) ?_
            refine lv_iconst (v := 2) hx hb dX10_readPart_173 (by decide) ?_
            refine lv_iload_n hx hb dX10_readPart_174 rfl (lv_at hl 0 rfl) ?_
            refine lv_bipush (v := 48) hx hb dX10_readPart_175 (by decide) ?_
            refine lv_isub hx hb dX10_readPart_177 ?_
            refine gCVv (rest := []) C0 cal_X10_begins wl_X10_171 wi_X10_begins ws_X10_begins ⟨Nat.le_of_ble_eq_true rfl, Nat.le_of_ble_eq_true rfl⟩ ⟨Nat.le_of_ble_eq_true rfl, Nat.le_of_ble_eq_true rfl⟩ grv_10 [.int (2 : Int32), .int (s0 - (48 : Int32))] rfl (Nat.le_of_ble_eq_true rfl) hP hS hl.1 dX10_readPart_178 h (fun u hu => m_X10_begins l Γ (2 : Int32) (s0 - (48 : Int32)) u11.2 u hu) (fun u12 H locs h hP hS => ?_) rfl
            refine lv_goto (tgt := 189) hx hb dX10_readPart_181 (by decide) ?_
            refine lv_iconst (v := 0) hx hb dX10_readPart_189 (by decide) ?_
            exact gzret0 hx hb hr hlk hP hS rfl dX10_readPart_190 h
        · replace h := gpos c5 h
          refine lv_aload_n hx hb dX10_readPart_129 rfl (lv_at hl 1 rfl) ?_
          refine lv_iconst (v := 1) hx hb dX10_readPart_130 (by decide) ?_
          refine gCVv (rest := []) C0 cal_X10_accept wl_X10_159 wi_X10_accept ws_X10_accept ⟨Nat.le_of_ble_eq_true rfl, Nat.le_of_ble_eq_true rfl⟩ ⟨Nat.le_of_ble_eq_true rfl, Nat.le_of_ble_eq_true rfl⟩ grv_10 [.int (1 : Int32)] rfl (Nat.le_of_ble_eq_true rfl) hP hS hl.1 dX10_readPart_131 h (fun u hu => m_X10_accept l Γ (1 : Int32) u2.2 u hu) (fun u13 H locs h hP hS => ?_) rfl
          refine lv_aload_n hx hb dX10_readPart_134 rfl (lv_at hl 1 rfl) ?_
          refine lv_iconst (v := 1) hx hb dX10_readPart_135 (by decide) ?_
          refine lv_iconst (v := 0) hx hb dX10_readPart_136 (by decide) ?_
          refine gCVv (rest := []) C0 cal_X10_begins wl_X10_171 wi_X10_begins ws_X10_begins ⟨Nat.le_of_ble_eq_true rfl, Nat.le_of_ble_eq_true rfl⟩ ⟨Nat.le_of_ble_eq_true rfl, Nat.le_of_ble_eq_true rfl⟩ grv_10 [.int (1 : Int32), .int (0 : Int32)] rfl (Nat.le_of_ble_eq_true rfl) hP hS hl.1 dX10_readPart_137 h (fun u hu => m_X10_begins l Γ (1 : Int32) (0 : Int32) u13.2 u hu) (fun u14 H locs h hP hS => ?_) rfl
          refine lv_goto (tgt := 189) hx hb dX10_readPart_140 (by decide) ?_
          refine lv_iconst (v := 0) hx hb dX10_readPart_189 (by decide) ?_
          exact gzret0 hx hb hr hlk hP hS rfl dX10_readPart_190 h
      · replace h := gpos c4 h
        refine lv_aload_n hx hb dX10_readPart_89 rfl (lv_at hl 1 rfl) ?_
        refine lv_iconst (v := 1) hx hb dX10_readPart_90 (by decide) ?_
        refine gCVv (rest := []) C0 cal_X10_accept wl_X10_159 wi_X10_accept ws_X10_accept ⟨Nat.le_of_ble_eq_true rfl, Nat.le_of_ble_eq_true rfl⟩ ⟨Nat.le_of_ble_eq_true rfl, Nat.le_of_ble_eq_true rfl⟩ grv_10 [.int (1 : Int32)] rfl (Nat.le_of_ble_eq_true rfl) hP hS hl.1 dX10_readPart_91 h (fun u hu => m_X10_accept l Γ (1 : Int32) u2.2 u hu) (fun u15 H locs h hP hS => ?_) rfl
        refine lv_aload_n hx hb dX10_readPart_94 rfl (lv_at hl 1 rfl) ?_
        refine gf_10_9 hx hb hown hts hK hP wf_X10_26 dX10_readPart_95 ?_
        refine lv_aload_n hx hb dX10_readPart_98 rfl (lv_at hl 1 rfl) ?_
        refine gf_10_12 hx hb hown hts hK hP wf_X10_163 dX10_readPart_99 ?_
        refine lv_aload_n hx hb dX10_readPart_102 rfl (lv_at hl 1 rfl) ?_
        refine gf_10_9 hx hb hown hts hK hP wf_X10_26 dX10_readPart_103 ?_
        refine lv_aload_n hx hb dX10_readPart_106 rfl (lv_at hl 1 rfl) ?_
        refine gf_10_12 hx hb hown hts hK hP wf_X10_163 dX10_readPart_107 ?_
        refine gZld hx hb hK hP is_180 dX10_readPart_110 h (fun h => ?_)
        refine lv_if_ne (tgt := 118) hx hb dX10_readPart_111 (by decide) (fun c16 => ?_) (fun c16 => ?_)
        · replace h := gneg c16 h
          refine lv_iconst (v := 0) hx hb dX10_readPart_118 (by decide) ?_
          refine gZst hx hb hK hP hS is_180 dX10_readPart_119 h (fun H locs g17 h hP hS => ?_)
          refine lv_goto (tgt := 189) hx hb dX10_readPart_120 (by decide) ?_
          refine lv_iconst (v := 0) hx hb dX10_readPart_189 (by decide) ?_
          exact gzret0 hx hb hr hlk hP hS rfl dX10_readPart_190 h
        · replace h := gpos c16 h
          refine lv_iconst (v := 1) hx hb dX10_readPart_114 (by decide) ?_
          refine lv_goto (tgt := 119) hx hb dX10_readPart_115 (by decide) ?_
          refine gZst hx hb hK hP hS is_180 dX10_readPart_119 h (fun H locs g18 h hP hS => ?_)
          refine lv_goto (tgt := 189) hx hb dX10_readPart_120 (by decide) ?_
          refine lv_iconst (v := 0) hx hb dX10_readPart_189 (by decide) ?_
          exact gzret0 hx hb hr hlk hP hS rfl dX10_readPart_190 h
    · replace h := gneg c3 h
      exact bs_X10_readPart_50 C0  h hP hS (lv_sub hl [1, 2, 0] rfl)
set_option maxHeartbeats 2000000 in
set_option maxRecDepth 20000 in
theorem m_X10_readPart (l : Launch) (Γ : gE)   (a1 : Int32) (a2 : Int32) (g : gG) (z : Int32 × gG) (h : f_X10_readPart a1 a2 g = some z) : gMi l yX10_readPart cX10_readPart 4 (some .boolean) 1 25 Γ [.ref (gB Γ + 174), .int a1, .int a2] g z := by
  unfold f_X10_readPart at h
  refine gStart (own := RX10) (by decide +kernel) rfl (Nat.le_of_ble_eq_true rfl) ?_
  intro p e s m below meth c C0 ls hl hP
  have hS : va_S (gA Γ) s.heap s.heap [] := va_S.rf
  have hl : lv_has ls 4 [(0, .ref (gB Γ + 174)), (1, .int a1), (2, .int a2)] := hl
  obtain ⟨hx, hb, hml, hr, hown, hts, hK, hlk, hX⟩ := id C0
  refine lv_aload_n hx hb dX10_readPart_0 rfl (lv_at hl 0 rfl) ?_
  refine gf_10_3 hx hb hown hts hK hP wf_X10_150 dX10_readPart_1 ?_
  refine lv_aload_n hx hb dX10_readPart_4 rfl (lv_at hl 0 rfl) ?_
  refine gf_10_2 hx hb hown hts hK hP wf_X10_143 dX10_readPart_5 ?_
  refine lv_icmp_ge (tgt := 23) hx hb dX10_readPart_8 (by decide) (fun c1 => ?_) (fun c1 => ?_)
  · replace h := gpos c1 h
    refine lv_bipush (v := -9) hx hb dX10_readPart_23 (by decide) ?_
    exact bs_X10_readPart_25 C0  h hP hS (lv_sub hl [0, 1, 2] rfl)
  · replace h := gneg c1 h
    refine lv_aload_n hx hb dX10_readPart_11 rfl (lv_at hl 0 rfl) ?_
    refine gf_10_1 hx hb hown hts hK hP wf_X10_7 dX10_readPart_12 ?_
    refine lv_aload_n hx hb dX10_readPart_15 rfl (lv_at hl 0 rfl) ?_
    refine gf_10_3 hx hb hown hts hK hP wf_X10_150 dX10_readPart_16 ?_
    refine gIld hx hb hK hP is_175 dX10_readPart_19 h (fun h => ?_)
    refine lv_goto (tgt := 25) hx hb dX10_readPart_20 (by decide) ?_
    exact bs_X10_readPart_25 C0  h hP hS (lv_sub hl [0, 1, 2] rfl)
set_option maxHeartbeats 2000000 in
set_option maxRecDepth 20000 in
theorem bs_X10_readBehind_257 {p : Program} {l : Launch} {e : Env} {s : State} {m : MethodId} {args : Array Value} {below : List Frame} {meth : Method} {c : Code} {Γ : gE} (C0 : gCx p s m args meth c Γ RX10 cX10_readBehind 4 (some .boolean))   {z : Int32 × gG}  {s0 : Int32} {g : gG} {H : Heap} {locs : List Loc} {ls : Array Slot}  (h : fs_X10_readBehind_257 s0 g = some z) (hP : va_P (gD Γ) gcls (lay Γ g) H) (hS : va_S (gA Γ) s.heap H locs) (hl : lv_has ls 4 [(0, .ref (gB Γ + 174))]) : W p l e (gRm 1 21) s m args below meth c H locs 0 0 (MQ below (gQi Γ z) args s 0 0 (gA Γ)) (F0 m 257 ls [.int s0]) := by
  unfold fs_X10_readBehind_257 at h
  obtain ⟨hx, hb, hml, hr, hown, hts, hK, hlk, hX⟩ := id C0
  refine lv_istore_n (lv' := [(3, .int s0), (0, .ref (gB Γ + 174))]) hx hb dX10_readBehind_257 rfl hl (by decide) rfl (fun ls hl => ?_)
  refine lv_aload_n hx hb dX10_readBehind_258 rfl (lv_at hl 1 rfl) ?_
  refine lv_dup hx hb dX10_readBehind_259 rfl ?_
  refine gf_10_12 hx hb hown hts hK hP wf_X10_163 dX10_readBehind_260 ?_
  refine lv_iconst (v := 1) hx hb dX10_readBehind_263 (by decide) ?_
  refine lv_isub hx hb dX10_readBehind_264 ?_
  refine gp_10_12 hx hb hown hts hK hP hS wf_X10_163 dX10_readBehind_265 h (fun H locs g1 h hP hS => ?_)
  refine lv_aload_n hx hb dX10_readBehind_268 rfl (lv_at hl 1 rfl) ?_
  refine lv_iload_n hx hb dX10_readBehind_269 rfl (lv_at hl 0 rfl) ?_
  refine gCVv (rest := []) C0 cal_X10_part wl_X10_168 wi_X10_part ws_X10_part ⟨Nat.le_of_ble_eq_true rfl, Nat.le_of_ble_eq_true rfl⟩ ⟨Nat.le_of_ble_eq_true rfl, Nat.le_of_ble_eq_true rfl⟩ grv_10 [.int s0] rfl (Nat.le_of_ble_eq_true rfl) hP hS hl.1 dX10_readBehind_270 h (fun u hu => m_X10_part l Γ s0 g1 u hu) (fun u2 H locs h hP hS => ?_) rfl
  refine lv_iconst (v := 0) hx hb dX10_readBehind_273 (by decide) ?_
  exact gzret0 hx hb hr hlk hP hS rfl dX10_readBehind_274 h
set_option maxHeartbeats 2000000 in
set_option maxRecDepth 20000 in
theorem bs_X10_readBehind_239 {p : Program} {l : Launch} {e : Env} {s : State} {m : MethodId} {args : Array Value} {below : List Frame} {meth : Method} {c : Code} {Γ : gE} (C0 : gCx p s m args meth c Γ RX10 cX10_readBehind 4 (some .boolean))   {z : Int32 × gG}  {s0 : Int32} {s1 : Int32} {g : gG} {H : Heap} {locs : List Loc} {ls : Array Slot}  (h : fs_X10_readBehind_239 s0 s1 g = some z) (hP : va_P (gD Γ) gcls (lay Γ g) H) (hS : va_S (gA Γ) s.heap H locs) (hl : lv_has ls 4 [(0, .ref (gB Γ + 174))]) : W p l e (gRm 1 21) s m args below meth c H locs 0 0 (MQ below (gQi Γ z) args s 0 0 (gA Γ)) (F0 m 239 ls [.int s1, .int s0]) := by
  unfold fs_X10_readBehind_239 at h
  obtain ⟨hx, hb, hml, hr, hown, hts, hK, hlk, hX⟩ := id C0
  refine lv_iadd hx hb dX10_readBehind_239 ?_
  refine lv_aload_n hx hb dX10_readBehind_240 rfl (lv_at hl 0 rfl) ?_
  refine gf_10_10 hx hb hown hts hK hP wf_X10_29 dX10_readBehind_241 ?_
  refine lv_aload_n hx hb dX10_readBehind_244 rfl (lv_at hl 0 rfl) ?_
  refine gf_10_12 hx hb hown hts hK hP wf_X10_163 dX10_readBehind_245 ?_
  refine gIld hx hb hK hP is_181 dX10_readBehind_248 h (fun h => ?_)
  refine lv_icmp_lt (tgt := 256) hx hb dX10_readBehind_249 (by decide) (fun c1 => ?_) (fun c1 => ?_)
  · replace h := gpos c1 h
    refine lv_iconst (v := 0) hx hb dX10_readBehind_256 (by decide) ?_
    exact bs_X10_readBehind_257 C0  h hP hS (lv_sub hl [0] rfl)
  · replace h := gneg c1 h
    refine lv_iconst (v := 1) hx hb dX10_readBehind_252 (by decide) ?_
    refine lv_goto (tgt := 257) hx hb dX10_readBehind_253 (by decide) ?_
    exact bs_X10_readBehind_257 C0  h hP hS (lv_sub hl [0] rfl)
set_option maxHeartbeats 2000000 in
set_option maxRecDepth 20000 in
theorem bs_X10_readBehind_188 {p : Program} {l : Launch} {e : Env} {s : State} {m : MethodId} {args : Array Value} {below : List Frame} {meth : Method} {c : Code} {Γ : gE} (C0 : gCx p s m args meth c Γ RX10 cX10_readBehind 4 (some .boolean))   {z : Int32 × gG}  {s0 : Int32} {g : gG} {H : Heap} {locs : List Loc} {ls : Array Slot}  (h : fs_X10_readBehind_188 s0 g = some z) (hP : va_P (gD Γ) gcls (lay Γ g) H) (hS : va_S (gA Γ) s.heap H locs) (hl : lv_has ls 4 [(0, .ref (gB Γ + 174))]) : W p l e (gRm 1 21) s m args below meth c H locs 0 0 (MQ below (gQi Γ z) args s 0 0 (gA Γ)) (F0 m 188 ls [.int s0]) := by
  unfold fs_X10_readBehind_188 at h
  obtain ⟨hx, hb, hml, hr, hown, hts, hK, hlk, hX⟩ := id C0
  refine lv_istore_n (lv' := [(2, .int s0), (0, .ref (gB Γ + 174))]) hx hb dX10_readBehind_188 rfl hl (by decide) rfl (fun ls hl => ?_)
  refine lv_aload_n hx hb dX10_readBehind_189 rfl (lv_at hl 1 rfl) ?_
  refine lv_iload_n hx hb dX10_readBehind_190 rfl (lv_at hl 0 rfl) ?_
  refine gCVv (rest := []) C0 cal_X10_accept wl_X10_159 wi_X10_accept ws_X10_accept ⟨Nat.le_of_ble_eq_true rfl, Nat.le_of_ble_eq_true rfl⟩ ⟨Nat.le_of_ble_eq_true rfl, Nat.le_of_ble_eq_true rfl⟩ grv_10 [.int s0] rfl (Nat.le_of_ble_eq_true rfl) hP hS hl.1 dX10_readBehind_191 h (fun u hu => m_X10_accept l Γ s0 g u hu) (fun u1 H locs h hP hS => ?_) rfl
  refine lv_iload_n hx hb dX10_readBehind_194 rfl (lv_at hl 0 rfl) ?_
  refine lv_if_eq (tgt := 273) hx hb dX10_readBehind_195 (by decide) (fun c2 => ?_) (fun c2 => ?_)
  · replace h := gpos c2 h
    refine lv_iconst (v := 0) hx hb dX10_readBehind_273 (by decide) ?_
    exact gzret0 hx hb hr hlk hP hS rfl dX10_readBehind_274 h
  · replace h := gneg c2 h
    refine lv_aload_n hx hb dX10_readBehind_198 rfl (lv_at hl 1 rfl) ?_
    refine gf_10_6 hx hb hown hts hK hP wf_X10_16 dX10_readBehind_199 ?_
    refine lv_aload_n hx hb dX10_readBehind_202 rfl (lv_at hl 1 rfl) ?_
    refine gf_10_12 hx hb hown hts hK hP wf_X10_163 dX10_readBehind_203 ?_
    refine gIld hx hb hK hP is_177 dX10_readBehind_206 h (fun h => ?_)
    refine lv_iconst (v := 1) hx hb dX10_readBehind_207 (by decide) ?_
    refine lv_icmp_ne (tgt := 218) hx hb dX10_readBehind_208 (by decide) (fun c3 => ?_) (fun c3 => ?_)
    · replace h := gneg c3 h
      refine lv_aload_n hx hb dX10_readBehind_218 rfl (lv_at hl 1 rfl) ?_
      refine gf_10_11 hx hb hown hts hK hP wf_X10_32 dX10_readBehind_219 ?_
      refine lv_aload_n hx hb dX10_readBehind_222 rfl (lv_at hl 1 rfl) ?_
      refine gf_10_12 hx hb hown hts hK hP wf_X10_163 dX10_readBehind_223 ?_
      refine gIld hx hb hK hP is_182 dX10_readBehind_226 h (fun h => ?_)
      refine lv_aload_n hx hb dX10_readBehind_227 rfl (lv_at hl 1 rfl) ?_
      refine gCVi (rest := [.int (u1.2.1 182 (u1.2.1 174 12).toNatClampNeg)]) C0 cal_X10_isGroupOrAhead wl_X10_182 wi_X10_isGroupOrAhead ws_X10_isGroupOrAhead ⟨Nat.le_of_ble_eq_true rfl, Nat.le_of_ble_eq_true rfl⟩ ⟨Nat.le_of_ble_eq_true rfl, Nat.le_of_ble_eq_true rfl⟩ grv_10 [] rfl (Nat.le_of_ble_eq_true rfl) hP hS hl.1 dX10_readBehind_228 h (fun u hu => m_X10_isGroupOrAhead l Γ u1.2 u hu) (fun u4 H locs h hP hS => ?_) rfl
      refine lv_if_eq (tgt := 238) hx hb dX10_readBehind_231 (by decide) (fun c5 => ?_) (fun c5 => ?_)
      · replace h := gpos c5 h
        refine lv_iconst (v := 0) hx hb dX10_readBehind_238 (by decide) ?_
        exact bs_X10_readBehind_239 C0  h hP hS (lv_sub hl [1] rfl)
      · replace h := gneg c5 h
        refine lv_iconst (v := 1) hx hb dX10_readBehind_234 (by decide) ?_
        refine lv_goto (tgt := 239) hx hb dX10_readBehind_235 (by decide) ?_
        exact bs_X10_readBehind_239 C0  h hP hS (lv_sub hl [1] rfl)
    · replace h := gpos c3 h
      refine lv_aload_n hx hb dX10_readBehind_211 rfl (lv_at hl 1 rfl) ?_
      refine gCVi (rest := []) C0 cal_X10_isGroupOrAhead wl_X10_182 wi_X10_isGroupOrAhead ws_X10_isGroupOrAhead ⟨Nat.le_of_ble_eq_true rfl, Nat.le_of_ble_eq_true rfl⟩ ⟨Nat.le_of_ble_eq_true rfl, Nat.le_of_ble_eq_true rfl⟩ grv_10 [] rfl (Nat.le_of_ble_eq_true rfl) hP hS hl.1 dX10_readBehind_212 h (fun u hu => m_X10_isGroupOrAhead l Γ u1.2 u hu) (fun u6 H locs h hP hS => ?_) rfl
      refine lv_goto (tgt := 257) hx hb dX10_readBehind_215 (by decide) ?_
      exact bs_X10_readBehind_257 C0  h hP hS (lv_sub hl [1] rfl)
set_option maxHeartbeats 2000000 in
set_option maxRecDepth 20000 in
theorem bs_X10_readBehind_187 {p : Program} {l : Launch} {e : Env} {s : State} {m : MethodId} {args : Array Value} {below : List Frame} {meth : Method} {c : Code} {Γ : gE} (C0 : gCx p s m args meth c Γ RX10 cX10_readBehind 4 (some .boolean))   {z : Int32 × gG}   {g : gG} {H : Heap} {locs : List Loc} {ls : Array Slot}  (h : fs_X10_readBehind_187 g = some z) (hP : va_P (gD Γ) gcls (lay Γ g) H) (hS : va_S (gA Γ) s.heap H locs) (hl : lv_has ls 4 [(0, .ref (gB Γ + 174))]) : W p l e (gRm 1 21) s m args below meth c H locs 0 0 (MQ below (gQi Γ z) args s 0 0 (gA Γ)) (F0 m 187 ls []) := by
  unfold fs_X10_readBehind_187 at h
  obtain ⟨hx, hb, hml, hr, hown, hts, hK, hlk, hX⟩ := id C0
  refine lv_iconst (v := 0) hx hb dX10_readBehind_187 (by decide) ?_
  exact bs_X10_readBehind_188 C0  h hP hS (lv_sub hl [0] rfl)
set_option maxHeartbeats 2000000 in
set_option maxRecDepth 20000 in
theorem bs_X10_readBehind_183 {p : Program} {l : Launch} {e : Env} {s : State} {m : MethodId} {args : Array Value} {below : List Frame} {meth : Method} {c : Code} {Γ : gE} (C0 : gCx p s m args meth c Γ RX10 cX10_readBehind 4 (some .boolean))   {z : Int32 × gG}   {g : gG} {H : Heap} {locs : List Loc} {ls : Array Slot}  (h : fs_X10_readBehind_183 g = some z) (hP : va_P (gD Γ) gcls (lay Γ g) H) (hS : va_S (gA Γ) s.heap H locs) (hl : lv_has ls 4 [(0, .ref (gB Γ + 174))]) : W p l e (gRm 1 21) s m args below meth c H locs 0 0 (MQ below (gQi Γ z) args s 0 0 (gA Γ)) (F0 m 183 ls []) := by
  unfold fs_X10_readBehind_183 at h
  obtain ⟨hx, hb, hml, hr, hown, hts, hK, hlk, hX⟩ := id C0
  refine lv_iconst (v := 1) hx hb dX10_readBehind_183 (by decide) ?_
  refine lv_goto (tgt := 188) hx hb dX10_readBehind_184 (by decide) ?_
  exact bs_X10_readBehind_188 C0  h hP hS (lv_sub hl [0] rfl)
set_option maxHeartbeats 2000000 in
set_option maxRecDepth 20000 in
theorem bs_X10_readBehind_164 {p : Program} {l : Launch} {e : Env} {s : State} {m : MethodId} {args : Array Value} {below : List Frame} {meth : Method} {c : Code} {Γ : gE} (C0 : gCx p s m args meth c Γ RX10 cX10_readBehind 4 (some .boolean))   {z : Int32 × gG}  {l1 : Int32} {g : gG} {H : Heap} {locs : List Loc} {ls : Array Slot}  (h : fs_X10_readBehind_164 l1 g = some z) (hP : va_P (gD Γ) gcls (lay Γ g) H) (hS : va_S (gA Γ) s.heap H locs) (hl : lv_has ls 4 [(0, .ref (gB Γ + 174)), (1, .int l1)]) : W p l e (gRm 1 21) s m args below meth c H locs 0 0 (MQ below (gQi Γ z) args s 0 0 (gA Γ)) (F0 m 164 ls []) := by
  unfold fs_X10_readBehind_164 at h
  obtain ⟨hx, hb, hml, hr, hown, hts, hK, hlk, hX⟩ := id C0
  refine lv_iload_n hx hb dX10_readBehind_164 rfl (lv_at hl 1 rfl) ?_
  refine lv_bipush (v := 93) hx hb dX10_readBehind_165 (by decide) ?_
  refine lv_icmp_ne (tgt := 187) hx hb dX10_readBehind_167 (by decide) (fun c1 => ?_) (fun c1 => ?_)
  · replace h := gneg c1 h
    exact bs_X10_readBehind_187 C0  h hP hS (lv_sub hl [0] rfl)
  · replace h := gpos c1 h
    refine lv_aload_n hx hb dX10_readBehind_170 rfl (lv_at hl 0 rfl) ?_
    refine gf_10_6 hx hb hown hts hK hP wf_X10_16 dX10_readBehind_171 ?_
    refine lv_aload_n hx hb dX10_readBehind_174 rfl (lv_at hl 0 rfl) ?_
    refine gf_10_12 hx hb hown hts hK hP wf_X10_163 dX10_readBehind_175 ?_
    refine gIld hx hb hK hP is_177 dX10_readBehind_178 h (fun h => ?_)
    refine lv_iconst (v := 2) hx hb dX10_readBehind_179 (by decide) ?_
    refine lv_icmp_ne (tgt := 187) hx hb dX10_readBehind_180 (by decide) (fun c2 => ?_) (fun c2 => ?_)
    · replace h := gneg c2 h
      exact bs_X10_readBehind_187 C0  h hP hS (lv_sub hl [0] rfl)
    · replace h := gpos c2 h
      exact bs_X10_readBehind_183 C0  h hP hS (lv_sub hl [0] rfl)
set_option maxHeartbeats 2000000 in
set_option maxRecDepth 20000 in
theorem bs_X10_readBehind_145 {p : Program} {l : Launch} {e : Env} {s : State} {m : MethodId} {args : Array Value} {below : List Frame} {meth : Method} {c : Code} {Γ : gE} (C0 : gCx p s m args meth c Γ RX10 cX10_readBehind 4 (some .boolean))   {z : Int32 × gG}  {l1 : Int32} {g : gG} {H : Heap} {locs : List Loc} {ls : Array Slot}  (h : fs_X10_readBehind_145 l1 g = some z) (hP : va_P (gD Γ) gcls (lay Γ g) H) (hS : va_S (gA Γ) s.heap H locs) (hl : lv_has ls 4 [(0, .ref (gB Γ + 174)), (1, .int l1)]) : W p l e (gRm 1 21) s m args below meth c H locs 0 0 (MQ below (gQi Γ z) args s 0 0 (gA Γ)) (F0 m 145 ls []) := by
  unfold fs_X10_readBehind_145 at h
  obtain ⟨hx, hb, hml, hr, hown, hts, hK, hlk, hX⟩ := id C0
  refine lv_iload_n hx hb dX10_readBehind_145 rfl (lv_at hl 1 rfl) ?_
  refine lv_bipush (v := 41) hx hb dX10_readBehind_146 (by decide) ?_
  refine lv_icmp_ne (tgt := 164) hx hb dX10_readBehind_148 (by decide) (fun c1 => ?_) (fun c1 => ?_)
  · replace h := gneg c1 h
    exact bs_X10_readBehind_164 C0  h hP hS (lv_sub hl [0, 1] rfl)
  · replace h := gpos c1 h
    refine lv_aload_n hx hb dX10_readBehind_151 rfl (lv_at hl 0 rfl) ?_
    refine gf_10_6 hx hb hown hts hK hP wf_X10_16 dX10_readBehind_152 ?_
    refine lv_aload_n hx hb dX10_readBehind_155 rfl (lv_at hl 0 rfl) ?_
    refine gf_10_12 hx hb hown hts hK hP wf_X10_163 dX10_readBehind_156 ?_
    refine gIld hx hb hK hP is_177 dX10_readBehind_159 h (fun h => ?_)
    refine lv_iconst (v := 1) hx hb dX10_readBehind_160 (by decide) ?_
    refine lv_icmp_eq (tgt := 183) hx hb dX10_readBehind_161 (by decide) (fun c2 => ?_) (fun c2 => ?_)
    · replace h := gpos c2 h
      exact bs_X10_readBehind_183 C0  h hP hS (lv_sub hl [0] rfl)
    · replace h := gneg c2 h
      exact bs_X10_readBehind_164 C0  h hP hS (lv_sub hl [0, 1] rfl)
set_option maxHeartbeats 2000000 in
set_option maxRecDepth 20000 in
theorem bs_X10_readBehind_121 {p : Program} {l : Launch} {e : Env} {s : State} {m : MethodId} {args : Array Value} {below : List Frame} {meth : Method} {c : Code} {Γ : gE} (C0 : gCx p s m args meth c Γ RX10 cX10_readBehind 4 (some .boolean))   {z : Int32 × gG}  {s1 : Int32} {s2 : Int32} {s3 : Int32} {g : gG} {H : Heap} {locs : List Loc} {ls : Array Slot}  (h : fs_X10_readBehind_121 s1 s2 s3 g = some z) (hP : va_P (gD Γ) gcls (lay Γ g) H) (hS : va_S (gA Γ) s.heap H locs) (hl : lv_has ls 4 [(0, .ref (gB Γ + 174))]) : W p l e (gRm 1 21) s m args below meth c H locs 0 0 (MQ below (gQi Γ z) args s 0 0 (gA Γ)) (F0 m 121 ls [.int s3, .int s2, .int s1, .ref (gB Γ + 182)]) := by
  unfold fs_X10_readBehind_121 at h
  obtain ⟨hx, hb, hml, hr, hown, hts, hK, hlk, hX⟩ := id C0
  refine lv_iadd hx hb dX10_readBehind_121 ?_
  refine gIst hx hb hK hP hS is_182 dX10_readBehind_122 h (fun H locs g1 h hP hS => ?_)
  refine lv_aload_n hx hb dX10_readBehind_123 rfl (lv_at hl 0 rfl) ?_
  refine gf_10_7 hx hb hown hts hK hP wf_X10_19 dX10_readBehind_124 ?_
  refine lv_aload_n hx hb dX10_readBehind_127 rfl (lv_at hl 0 rfl) ?_
  refine gf_10_12 hx hb hown hts hK hP wf_X10_163 dX10_readBehind_128 ?_
  refine lv_iconst (v := 0) hx hb dX10_readBehind_131 (by decide) ?_
  refine gZst hx hb hK hP hS is_178 dX10_readBehind_132 h (fun H locs g2 h hP hS => ?_)
  refine lv_aload_n hx hb dX10_readBehind_133 rfl (lv_at hl 0 rfl) ?_
  refine gf_10_8 hx hb hown hts hK hP wf_X10_23 dX10_readBehind_134 ?_
  refine lv_aload_n hx hb dX10_readBehind_137 rfl (lv_at hl 0 rfl) ?_
  refine gf_10_12 hx hb hown hts hK hP wf_X10_163 dX10_readBehind_138 ?_
  refine lv_iconst (v := 1) hx hb dX10_readBehind_141 (by decide) ?_
  refine gZst hx hb hK hP hS is_179 dX10_readBehind_142 h (fun H locs g3 h hP hS => ?_)
  refine lv_iconst (v := 1) hx hb dX10_readBehind_143 (by decide) ?_
  exact gzret0 hx hb hr hlk hP hS rfl dX10_readBehind_144 h
set_option maxHeartbeats 2000000 in
set_option maxRecDepth 20000 in
theorem bs_X10_readBehind_25 {p : Program} {l : Launch} {e : Env} {s : State} {m : MethodId} {args : Array Value} {below : List Frame} {meth : Method} {c : Code} {Γ : gE} (C0 : gCx p s m args meth c Γ RX10 cX10_readBehind 4 (some .boolean))   {z : Int32 × gG}  {s0 : Int32} {g : gG} {H : Heap} {locs : List Loc} {ls : Array Slot}  (h : fs_X10_readBehind_25 s0 g = some z) (hP : va_P (gD Γ) gcls (lay Γ g) H) (hS : va_S (gA Γ) s.heap H locs) (hl : lv_has ls 4 [(0, .ref (gB Γ + 174))]) : W p l e (gRm 1 21) s m args below meth c H locs 0 0 (MQ below (gQi Γ z) args s 0 0 (gA Γ)) (F0 m 25 ls [.int s0]) := by
  unfold fs_X10_readBehind_25 at h
  obtain ⟨hx, hb, hml, hr, hown, hts, hK, hlk, hX⟩ := id C0
  refine lv_istore_n (lv' := [(1, .int s0), (0, .ref (gB Γ + 174))]) hx hb dX10_readBehind_25 rfl hl (by decide) rfl (fun ls hl => ?_)
  refine lv_iload_n hx hb dX10_readBehind_26 rfl (lv_at hl 0 rfl) ?_
  refine lv_bipush (v := 46) hx hb dX10_readBehind_27 (by decide) ?_
  refine lv_icmp_ne (tgt := 39) hx hb dX10_readBehind_29 (by decide) (fun c1 => ?_) (fun c1 => ?_)
  · replace h := gneg c1 h
    refine lv_iload_n hx hb dX10_readBehind_39 rfl (lv_at hl 0 rfl) ?_
    refine lv_bipush (v := 43) hx hb dX10_readBehind_40 (by decide) ?_
    refine lv_icmp_ne (tgt := 75) hx hb dX10_readBehind_42 (by decide) (fun c2 => ?_) (fun c2 => ?_)
    · replace h := gneg c2 h
      refine lv_iload_n hx hb dX10_readBehind_75 rfl (lv_at hl 0 rfl) ?_
      refine lv_bipush (v := 44) hx hb dX10_readBehind_76 (by decide) ?_
      refine lv_icmp_ne (tgt := 145) hx hb dX10_readBehind_78 (by decide) (fun c3 => ?_) (fun c3 => ?_)
      · replace h := gneg c3 h
        exact bs_X10_readBehind_145 C0  h hP hS (lv_sub hl [1, 0] rfl)
      · replace h := gpos c3 h
        refine lv_aload_n hx hb dX10_readBehind_81 rfl (lv_at hl 1 rfl) ?_
        refine gf_10_6 hx hb hown hts hK hP wf_X10_16 dX10_readBehind_82 ?_
        refine lv_aload_n hx hb dX10_readBehind_85 rfl (lv_at hl 1 rfl) ?_
        refine gf_10_12 hx hb hown hts hK hP wf_X10_163 dX10_readBehind_86 ?_
        refine gIld hx hb hK hP is_177 dX10_readBehind_89 h (fun h => ?_)
        refine lv_iconst (v := 2) hx hb dX10_readBehind_90 (by decide) ?_
        refine lv_icmp_ne (tgt := 145) hx hb dX10_readBehind_91 (by decide) (fun c4 => ?_) (fun c4 => ?_)
        · replace h := gneg c4 h
          exact bs_X10_readBehind_145 C0  h hP hS (lv_sub hl [1, 0] rfl)
        · replace h := gpos c4 h
          refine lv_aload_n hx hb dX10_readBehind_94 rfl (lv_at hl 1 rfl) ?_
          refine lv_iconst (v := 1) hx hb dX10_readBehind_95 (by decide) ?_
          refine gCVv (rest := []) C0 cal_X10_accept wl_X10_159 wi_X10_accept ws_X10_accept ⟨Nat.le_of_ble_eq_true rfl, Nat.le_of_ble_eq_true rfl⟩ ⟨Nat.le_of_ble_eq_true rfl, Nat.le_of_ble_eq_true rfl⟩ grv_10 [.int (1 : Int32)] rfl (Nat.le_of_ble_eq_true rfl) hP hS hl.1 dX10_readBehind_96 h (fun u hu => m_X10_accept l Γ (1 : Int32) g u hu) (fun u5 H locs h hP hS => ?_) rfl
          refine lv_aload_n hx hb dX10_readBehind_99 rfl (lv_at hl 1 rfl) ?_
          refine gf_10_11 hx hb hown hts hK hP wf_X10_32 dX10_readBehind_100 ?_
          refine lv_aload_n hx hb dX10_readBehind_103 rfl (lv_at hl 1 rfl) ?_
          refine gf_10_12 hx hb hown hts hK hP wf_X10_163 dX10_readBehind_104 ?_
          refine lv_dup2_11 hx hb dX10_readBehind_107 rfl rfl ?_
          refine gIld hx hb hK hP is_182 dX10_readBehind_108 h (fun h => ?_)
          refine lv_aload_n hx hb dX10_readBehind_109 rfl (lv_at hl 1 rfl) ?_
          refine gCVi (rest := [.int (u5.2.1 182 (u5.2.1 174 12).toNatClampNeg), .int (u5.2.1 174 12), .ref (gB Γ + 182)]) C0 cal_X10_isGroupOrAhead wl_X10_182 wi_X10_isGroupOrAhead ws_X10_isGroupOrAhead ⟨Nat.le_of_ble_eq_true rfl, Nat.le_of_ble_eq_true rfl⟩ ⟨Nat.le_of_ble_eq_true rfl, Nat.le_of_ble_eq_true rfl⟩ grv_10 [] rfl (Nat.le_of_ble_eq_true rfl) hP hS hl.1 dX10_readBehind_110 h (fun u hu => m_X10_isGroupOrAhead l Γ u5.2 u hu) (fun u6 H locs h hP hS => ?_) rfl
          refine lv_if_eq (tgt := 120) hx hb dX10_readBehind_113 (by decide) (fun c7 => ?_) (fun c7 => ?_)
          · replace h := gpos c7 h
            refine lv_iconst (v := 0) hx hb dX10_readBehind_120 (by decide) ?_
            exact bs_X10_readBehind_121 C0  h hP hS (lv_sub hl [1] rfl)
          · replace h := gneg c7 h
            refine lv_iconst (v := 1) hx hb dX10_readBehind_116 (by decide) ?_
            refine lv_goto (tgt := 121) hx hb dX10_readBehind_117 (by decide) ?_
            exact bs_X10_readBehind_121 C0  h hP hS (lv_sub hl [1] rfl)
    · replace h := gpos c2 h
      refine lv_aload_n hx hb dX10_readBehind_45 rfl (lv_at hl 1 rfl) ?_
      refine lv_iconst (v := 1) hx hb dX10_readBehind_46 (by decide) ?_
      refine gCVv (rest := []) C0 cal_X10_accept wl_X10_159 wi_X10_accept ws_X10_accept ⟨Nat.le_of_ble_eq_true rfl, Nat.le_of_ble_eq_true rfl⟩ ⟨Nat.le_of_ble_eq_true rfl, Nat.le_of_ble_eq_true rfl⟩ grv_10 [.int (1 : Int32)] rfl (Nat.le_of_ble_eq_true rfl) hP hS hl.1 dX10_readBehind_47 h (fun u hu => m_X10_accept l Γ (1 : Int32) g u hu) (fun u8 H locs h hP hS => ?_) rfl
      refine lv_aload_n hx hb dX10_readBehind_50 rfl (lv_at hl 1 rfl) ?_
      refine gf_10_7 hx hb hown hts hK hP wf_X10_19 dX10_readBehind_51 ?_
      refine lv_aload_n hx hb dX10_readBehind_54 rfl (lv_at hl 1 rfl) ?_
      refine gf_10_12 hx hb hown hts hK hP wf_X10_163 dX10_readBehind_55 ?_
      refine lv_aload_n hx hb dX10_readBehind_58 rfl (lv_at hl 1 rfl) ?_
      refine gCVi (rest := [.int (u8.2.1 174 12), .ref (gB Γ + 178)]) C0 cal_X10_isGroupOrAhead wl_X10_182 wi_X10_isGroupOrAhead ws_X10_isGroupOrAhead ⟨Nat.le_of_ble_eq_true rfl, Nat.le_of_ble_eq_true rfl⟩ ⟨Nat.le_of_ble_eq_true rfl, Nat.le_of_ble_eq_true rfl⟩ grv_10 [] rfl (Nat.le_of_ble_eq_true rfl) hP hS hl.1 dX10_readBehind_59 h (fun u hu => m_X10_isGroupOrAhead l Γ u8.2 u hu) (fun u9 H locs h hP hS => ?_) rfl
      refine gZst hx hb hK hP hS is_178 dX10_readBehind_62 h (fun H locs g10 h hP hS => ?_)
      refine lv_aload_n hx hb dX10_readBehind_63 rfl (lv_at hl 1 rfl) ?_
      refine gf_10_8 hx hb hown hts hK hP wf_X10_23 dX10_readBehind_64 ?_
      refine lv_aload_n hx hb dX10_readBehind_67 rfl (lv_at hl 1 rfl) ?_
      refine gf_10_12 hx hb hown hts hK hP wf_X10_163 dX10_readBehind_68 ?_
      refine lv_iconst (v := 1) hx hb dX10_readBehind_71 (by decide) ?_
      refine gZst hx hb hK hP hS is_179 dX10_readBehind_72 h (fun H locs g11 h hP hS => ?_)
      refine lv_iconst (v := 1) hx hb dX10_readBehind_73 (by decide) ?_
      exact gzret0 hx hb hr hlk hP hS rfl dX10_readBehind_74 h
  · replace h := gpos c1 h
    refine lv_aload_n hx hb dX10_readBehind_32 rfl (lv_at hl 1 rfl) ?_
    refine lv_iconst (v := 1) hx hb dX10_readBehind_33 (by decide) ?_
    refine gCVv (rest := []) C0 cal_X10_accept wl_X10_159 wi_X10_accept ws_X10_accept ⟨Nat.le_of_ble_eq_true rfl, Nat.le_of_ble_eq_true rfl⟩ ⟨Nat.le_of_ble_eq_true rfl, Nat.le_of_ble_eq_true rfl⟩ grv_10 [.int (1 : Int32)] rfl (Nat.le_of_ble_eq_true rfl) hP hS hl.1 dX10_readBehind_34 h (fun u hu => m_X10_accept l Γ (1 : Int32) g u hu) (fun u12 H locs h hP hS => ?_) rfl
    refine lv_iconst (v := 1) hx hb dX10_readBehind_37 (by decide) ?_
    exact gzret0 hx hb hr hlk hP hS rfl dX10_readBehind_38 h
set_option maxHeartbeats 2000000 in
set_option maxRecDepth 20000 in
theorem m_X10_readBehind (l : Launch) (Γ : gE)    (g : gG) (z : Int32 × gG) (h : f_X10_readBehind g = some z) : gMi l yX10_readBehind cX10_readBehind 4 (some .boolean) 1 21 Γ [.ref (gB Γ + 174)] g z := by
  unfold f_X10_readBehind at h
  refine gStart (own := RX10) (by decide +kernel) rfl (Nat.le_of_ble_eq_true rfl) ?_
  intro p e s m below meth c C0 ls hl hP
  have hS : va_S (gA Γ) s.heap s.heap [] := va_S.rf
  have hl : lv_has ls 4 [(0, .ref (gB Γ + 174))] := hl
  obtain ⟨hx, hb, hml, hr, hown, hts, hK, hlk, hX⟩ := id C0
  refine lv_aload_n hx hb dX10_readBehind_0 rfl (lv_at hl 0 rfl) ?_
  refine gf_10_3 hx hb hown hts hK hP wf_X10_150 dX10_readBehind_1 ?_
  refine lv_aload_n hx hb dX10_readBehind_4 rfl (lv_at hl 0 rfl) ?_
  refine gf_10_2 hx hb hown hts hK hP wf_X10_143 dX10_readBehind_5 ?_
  refine lv_icmp_ge (tgt := 23) hx hb dX10_readBehind_8 (by decide) (fun c1 => ?_) (fun c1 => ?_)
  · replace h := gpos c1 h
    refine lv_bipush (v := -9) hx hb dX10_readBehind_23 (by decide) ?_
    exact bs_X10_readBehind_25 C0  h hP hS (lv_sub hl [0] rfl)
  · replace h := gneg c1 h
    refine lv_aload_n hx hb dX10_readBehind_11 rfl (lv_at hl 0 rfl) ?_
    refine gf_10_1 hx hb hown hts hK hP wf_X10_7 dX10_readBehind_12 ?_
    refine lv_aload_n hx hb dX10_readBehind_15 rfl (lv_at hl 0 rfl) ?_
    refine gf_10_3 hx hb hown hts hK hP wf_X10_150 dX10_readBehind_16 ?_
    refine gIld hx hb hK hP is_175 dX10_readBehind_19 h (fun h => ?_)
    refine lv_goto (tgt := 25) hx hb dX10_readBehind_20 (by decide) ?_
    exact bs_X10_readBehind_25 C0  h hP hS (lv_sub hl [0] rfl)
set_option maxHeartbeats 2000000 in
set_option maxRecDepth 20000 in
theorem bs_X10_readCondition_80 {p : Program} {l : Launch} {e : Env} {s : State} {m : MethodId} {args : Array Value} {below : List Frame} {meth : Method} {c : Code} {Γ : gE} (C0 : gCx p s m args meth c Γ RX10 cX10_readCondition 4 (some .boolean))   {z : Int32 × gG}   {g : gG} {H : Heap} {locs : List Loc} {ls : Array Slot}  (h : fs_X10_readCondition_80 g = some z) (hP : va_P (gD Γ) gcls (lay Γ g) H) (hS : va_S (gA Γ) s.heap H locs) (hl : lv_has ls 4 [(0, .ref (gB Γ + 174))]) : W p l e (gRm 2 48) s m args below meth c H locs 0 0 (MQ below (gQi Γ z) args s 0 0 (gA Γ)) (F0 m 80 ls []) := by
  unfold fs_X10_readCondition_80 at h
  obtain ⟨hx, hb, hml, hr, hown, hts, hK, hlk, hX⟩ := id C0
  refine lv_aload_n hx hb dX10_readCondition_80 rfl (lv_at hl 0 rfl) ?_
  refine gf_10_4 hx hb hown hts hK hP wf_X10_153 dX10_readCondition_81 ?_
  refine lv_if_eq (tgt := 98) hx hb dX10_readCondition_84 (by decide) (fun c1 => ?_) (fun c1 => ?_)
  · replace h := gpos c1 h
    refine lv_iconst (v := 0) hx hb dX10_readCondition_98 (by decide) ?_
    exact gzret0 hx hb hr hlk hP hS rfl dX10_readCondition_99 h
  · replace h := gneg c1 h
    refine lv_aload_n hx hb dX10_readCondition_87 rfl (lv_at hl 0 rfl) ?_
    refine gCVi (rest := []) C0 cal_X10_isGroupOrAhead wl_X10_182 wi_X10_isGroupOrAhead ws_X10_isGroupOrAhead ⟨Nat.le_of_ble_eq_true rfl, Nat.le_of_ble_eq_true rfl⟩ ⟨Nat.le_of_ble_eq_true rfl, Nat.le_of_ble_eq_true rfl⟩ grv_10 [] rfl (Nat.le_of_ble_eq_true rfl) hP hS hl.1 dX10_readCondition_88 h (fun u hu => m_X10_isGroupOrAhead l Γ g u hu) (fun u2 H locs h hP hS => ?_) rfl
    refine lv_if_eq (tgt := 98) hx hb dX10_readCondition_91 (by decide) (fun c3 => ?_) (fun c3 => ?_)
    · replace h := gpos c3 h
      refine lv_iconst (v := 0) hx hb dX10_readCondition_98 (by decide) ?_
      exact gzret0 hx hb hr hlk hP hS rfl dX10_readCondition_99 h
    · replace h := gneg c3 h
      refine lv_iconst (v := 1) hx hb dX10_readCondition_94 (by decide) ?_
      refine lv_goto (tgt := 99) hx hb dX10_readCondition_95 (by decide) ?_
      exact gzret0 hx hb hr hlk hP hS rfl dX10_readCondition_99 h
set_option maxHeartbeats 2000000 in
set_option maxRecDepth 20000 in
theorem bs_X10_readCondition_51 {p : Program} {l : Launch} {e : Env} {s : State} {m : MethodId} {args : Array Value} {below : List Frame} {meth : Method} {c : Code} {Γ : gE} (C0 : gCx p s m args meth c Γ RX10 cX10_readCondition 4 (some .boolean))   {z : Int32 × gG} {F13 : Int32 → Int32 → Int32 → gG → Option (Int32 × gG)} {l1 : Int32} {l2 : Int32} {l3 : Int32} {g : gG} {H : Heap} {locs : List Loc} {ls : Array Slot} (hF13 : ∀ (l1 : Int32) (l2 : Int32) (l3 : Int32) (g : gG) (H : Heap) (locs : List Loc) (ls : Array Slot), F13 l1 l2 l3 g = some z → va_P (gD Γ) gcls (lay Γ g) H → va_S (gA Γ) s.heap H locs → lv_has ls 4 [(0, .ref (gB Γ + 174)), (1, .int l1), (2, .int l2), (3, .int l3)] → W p l e (gRm 2 48) s m args below meth c H locs 0 0 (MQ below (gQi Γ z) args s 0 0 (gA Γ)) (F0 m 13 ls [])) (h : fs_X10_readCondition_51 F13 l1 l2 l3 g = some z) (hP : va_P (gD Γ) gcls (lay Γ g) H) (hS : va_S (gA Γ) s.heap H locs) (hl : lv_has ls 4 [(0, .ref (gB Γ + 174)), (1, .int l1), (2, .int l2), (3, .int l3)]) : W p l e (gRm 2 48) s m args below meth c H locs 0 0 (MQ below (gQi Γ z) args s 0 0 (gA Γ)) (F0 m 51 ls []) := by
  unfold fs_X10_readCondition_51 at h
  obtain ⟨hx, hb, hml, hr, hown, hts, hK, hlk, hX⟩ := id C0
  refine lv_iload_n hx hb dX10_readCondition_51 rfl (lv_at hl 3 rfl) ?_
  refine lv_if_eq (tgt := 72) hx hb dX10_readCondition_52 (by decide) (fun c1 => ?_) (fun c1 => ?_)
  · replace h := gpos c1 h
    refine lv_aload_n hx hb dX10_readCondition_72 rfl (lv_at hl 0 rfl) ?_
    refine gCVi (rest := []) C0 cal_X10_readBehind wl_X10_189 wi_X10_readBehind ws_X10_readBehind ⟨Nat.le_of_ble_eq_true rfl, Nat.le_of_ble_eq_true rfl⟩ ⟨Nat.le_of_ble_eq_true rfl, Nat.le_of_ble_eq_true rfl⟩ grv_10 [] rfl (Nat.le_of_ble_eq_true rfl) hP hS hl.1 dX10_readCondition_73 h (fun u hu => m_X10_readBehind l Γ g u hu) (fun u2 H locs h hP hS => ?_) rfl
    refine lv_topi (fun x3 ex3 => ?_)
    replace h := gLetI ex3 h
    refine lv_istore_n (lv' := [(3, .int x3), (0, .ref (gB Γ + 174)), (1, .int l1), (2, .int l2)]) hx hb dX10_readCondition_76 rfl hl (by decide) rfl (fun ls hl => ?_)
    refine lv_goto (tgt := 13) hx hb dX10_readCondition_77 (by decide) ?_
    exact hF13 _ _ _ _ _ _ _ h hP hS (lv_sub hl [1, 2, 3, 0] rfl)
  · replace h := gneg c1 h
    refine lv_aload_n hx hb dX10_readCondition_55 rfl (lv_at hl 0 rfl) ?_
    refine lv_iload_n hx hb dX10_readCondition_56 rfl (lv_at hl 1 rfl) ?_
    refine lv_iload_n hx hb dX10_readCondition_57 rfl (lv_at hl 2 rfl) ?_
    refine gCVi (rest := []) C0 cal_X10_readPart wl_X10_186 wi_X10_readPart ws_X10_readPart ⟨Nat.le_of_ble_eq_true rfl, Nat.le_of_ble_eq_true rfl⟩ ⟨Nat.le_of_ble_eq_true rfl, Nat.le_of_ble_eq_true rfl⟩ grv_10 [.int l1, .int l2] rfl (Nat.le_of_ble_eq_true rfl) hP hS hl.1 dX10_readCondition_58 h (fun u hu => m_X10_readPart l Γ l1 l2 g u hu) (fun u4 H locs h hP hS => ?_) rfl
    refine lv_if_ne (tgt := 68) hx hb dX10_readCondition_61 (by decide) (fun c5 => ?_) (fun c5 => ?_)
    · replace h := gneg c5 h
      refine lv_iconst (v := 0) hx hb dX10_readCondition_68 (by decide) ?_
      refine lv_goto (tgt := 76) hx hb dX10_readCondition_69 (by decide) ?_
      refine lv_istore_n (lv' := [(3, .int (0 : Int32)), (0, .ref (gB Γ + 174)), (1, .int l1), (2, .int l2)]) hx hb dX10_readCondition_76 rfl hl (by decide) rfl (fun ls hl => ?_)
      refine lv_goto (tgt := 13) hx hb dX10_readCondition_77 (by decide) ?_
      exact hF13 _ _ _ _ _ _ _ h hP hS (lv_sub hl [1, 2, 3, 0] rfl)
    · replace h := gpos c5 h
      refine lv_iconst (v := 1) hx hb dX10_readCondition_64 (by decide) ?_
      refine lv_goto (tgt := 76) hx hb dX10_readCondition_65 (by decide) ?_
      refine lv_istore_n (lv' := [(3, .int (1 : Int32)), (0, .ref (gB Γ + 174)), (1, .int l1), (2, .int l2)]) hx hb dX10_readCondition_76 rfl hl (by decide) rfl (fun ls hl => ?_)
      refine lv_goto (tgt := 13) hx hb dX10_readCondition_77 (by decide) ?_
      exact hF13 _ _ _ _ _ _ _ h hP hS (lv_sub hl [1, 2, 3, 0] rfl)
set_option maxHeartbeats 2000000 in
set_option maxRecDepth 20000 in
theorem bs_X10_readCondition_13 {p : Program} {l : Launch} {e : Env} {s : State} {m : MethodId} {args : Array Value} {below : List Frame} {meth : Method} {c : Code} {Γ : gE} (C0 : gCx p s m args meth c Γ RX10 cX10_readCondition 4 (some .boolean))   {z : Int32 × gG} {F13 : Int32 → Int32 → Int32 → gG → Option (Int32 × gG)} {l1 : Int32} {l2 : Int32} {l3 : Int32} {g : gG} {H : Heap} {locs : List Loc} {ls : Array Slot} (hF13 : ∀ (l1 : Int32) (l2 : Int32) (l3 : Int32) (g : gG) (H : Heap) (locs : List Loc) (ls : Array Slot), F13 l1 l2 l3 g = some z → va_P (gD Γ) gcls (lay Γ g) H → va_S (gA Γ) s.heap H locs → lv_has ls 4 [(0, .ref (gB Γ + 174)), (1, .int l1), (2, .int l2), (3, .int l3)] → W p l e (gRm 2 48) s m args below meth c H locs 0 0 (MQ below (gQi Γ z) args s 0 0 (gA Γ)) (F0 m 13 ls [])) (h : fs_X10_readCondition_13 F13 l1 l2 l3 g = some z) (hP : va_P (gD Γ) gcls (lay Γ g) H) (hS : va_S (gA Γ) s.heap H locs) (hl : lv_has ls 4 [(0, .ref (gB Γ + 174)), (1, .int l1), (2, .int l2), (3, .int l3)]) : W p l e (gRm 2 48) s m args below meth c H locs 0 0 (MQ below (gQi Γ z) args s 0 0 (gA Γ)) (F0 m 13 ls []) := by
  unfold fs_X10_readCondition_13 at h
  obtain ⟨hx, hb, hml, hr, hown, hts, hK, hlk, hX⟩ := id C0
  refine lv_aload_n hx hb dX10_readCondition_13 rfl (lv_at hl 0 rfl) ?_
  refine gf_10_4 hx hb hown hts hK hP wf_X10_153 dX10_readCondition_14 ?_
  refine lv_if_eq (tgt := 80) hx hb dX10_readCondition_17 (by decide) (fun c1 => ?_) (fun c1 => ?_)
  · replace h := gpos c1 h
    exact bs_X10_readCondition_80 C0  h hP hS (lv_sub hl [0] rfl)
  · replace h := gneg c1 h
    refine lv_iload_n hx hb dX10_readCondition_20 rfl (lv_at hl 3 rfl) ?_
    refine lv_if_ne (tgt := 51) hx hb dX10_readCondition_21 (by decide) (fun c2 => ?_) (fun c2 => ?_)
    · replace h := gneg c2 h
      exact bs_X10_readCondition_51 C0 hF13 h hP hS (lv_sub hl [0, 1, 2, 3] rfl)
    · replace h := gpos c2 h
      refine lv_aload_n hx hb dX10_readCondition_24 rfl (lv_at hl 0 rfl) ?_
      refine gf_10_12 hx hb hown hts hK hP wf_X10_163 dX10_readCondition_25 ?_
      refine lv_if_gt (tgt := 51) hx hb dX10_readCondition_28 (by decide) (fun c3 => ?_) (fun c3 => ?_)
      · replace h := gpos c3 h
        exact bs_X10_readCondition_51 C0 hF13 h hP hS (lv_sub hl [0, 1, 2, 3] rfl)
      · replace h := gneg c3 h
        refine lv_aload_n hx hb dX10_readCondition_31 rfl (lv_at hl 0 rfl) ?_
        refine gf_10_3 hx hb hown hts hK hP wf_X10_150 dX10_readCondition_32 ?_
        refine lv_aload_n hx hb dX10_readCondition_35 rfl (lv_at hl 0 rfl) ?_
        refine gf_10_2 hx hb hown hts hK hP wf_X10_143 dX10_readCondition_36 ?_
        refine lv_icmp_ge (tgt := 80) hx hb dX10_readCondition_39 (by decide) (fun c4 => ?_) (fun c4 => ?_)
        · replace h := gpos c4 h
          exact bs_X10_readCondition_80 C0  h hP hS (lv_sub hl [0] rfl)
        · replace h := gneg c4 h
          refine lv_aload_n hx hb dX10_readCondition_42 rfl (lv_at hl 0 rfl) ?_
          refine lv_bipush (v := 47) hx hb dX10_readCondition_43 (by decide) ?_
          refine gCVi (rest := []) C0 cal_X10_isNext wl_X10_179 wi_X10_isNext ws_X10_isNext ⟨Nat.le_of_ble_eq_true rfl, Nat.le_of_ble_eq_true rfl⟩ ⟨Nat.le_of_ble_eq_true rfl, Nat.le_of_ble_eq_true rfl⟩ grv_10 [.int (47 : Int32)] rfl (Nat.le_of_ble_eq_true rfl) hP hS hl.1 dX10_readCondition_45 h (fun u hu => m_X10_isNext l Γ (47 : Int32) g u hu) (fun u5 H locs h hP hS => ?_) rfl
          refine lv_if_ne (tgt := 80) hx hb dX10_readCondition_48 (by decide) (fun c6 => ?_) (fun c6 => ?_)
          · replace h := gneg c6 h
            exact bs_X10_readCondition_80 C0  h hP hS (lv_sub hl [0] rfl)
          · replace h := gpos c6 h
            exact bs_X10_readCondition_51 C0 hF13 h hP hS (lv_sub hl [0, 1, 2, 3] rfl)
set_option maxHeartbeats 2000000 in
set_option maxRecDepth 20000 in
theorem bk_X10_readCondition_13 {p : Program} {l : Launch} {e : Env} {s : State} {m : MethodId} {args : Array Value} {below : List Frame} {meth : Method} {c : Code} {Γ : gE} (C0 : gCx p s m args meth c Γ RX10 cX10_readCondition 4 (some .boolean))   {z : Int32 × gG}   : ∀ (n : Nat) (l1 : Int32) (l2 : Int32) (l3 : Int32) (g : gG) (H : Heap) (locs : List Loc) (ls : Array Slot), fb_X10_readCondition_13 n l1 l2 l3 g = some z → va_P (gD Γ) gcls (lay Γ g) H → va_S (gA Γ) s.heap H locs → lv_has ls 4 [(0, .ref (gB Γ + 174)), (1, .int l1), (2, .int l2), (3, .int l3)] → W p l e (gRm 2 48) s m args below meth c H locs 0 0 (MQ below (gQi Γ z) args s 0 0 (gA Γ)) (F0 m 13 ls []) := by
  intro n
  induction n with
  | zero => intro l1 l2 l3 g H locs ls h hP hS hl; cases h
  | succ n ih => intro l1 l2 l3 g H locs ls h hP hS hl; exact bs_X10_readCondition_13 C0  ih h hP hS hl
set_option maxHeartbeats 2000000 in
set_option maxRecDepth 20000 in
theorem m_X10_readCondition (l : Launch) (Γ : gE)   (a1 : Int32) (a2 : Int32) (g : gG) (z : Int32 × gG) (h : f_X10_readCondition a1 a2 g = some z) : gMi l yX10_readCondition cX10_readCondition 4 (some .boolean) 2 48 Γ [.ref (gB Γ + 174), .int a1, .int a2] g z := by
  unfold f_X10_readCondition at h
  refine gStart (own := RX10) (by decide +kernel) rfl (Nat.le_of_ble_eq_true rfl) ?_
  intro p e s m below meth c C0 ls hl hP
  have hS : va_S (gA Γ) s.heap s.heap [] := va_S.rf
  have hl : lv_has ls 4 [(0, .ref (gB Γ + 174)), (1, .int a1), (2, .int a2)] := hl
  obtain ⟨hx, hb, hml, hr, hown, hts, hK, hlk, hX⟩ := id C0
  refine lv_aload_n hx hb dX10_readCondition_0 rfl (lv_at hl 0 rfl) ?_
  refine lv_iconst (v := -1) hx hb dX10_readCondition_1 (by decide) ?_
  refine gp_10_12 hx hb hown hts hK hP hS wf_X10_163 dX10_readCondition_2 h (fun H locs g1 h hP hS => ?_)
  refine lv_aload_n hx hb dX10_readCondition_5 rfl (lv_at hl 0 rfl) ?_
  refine lv_iconst (v := 0) hx hb dX10_readCondition_6 (by decide) ?_
  refine lv_iconst (v := 0) hx hb dX10_readCondition_7 (by decide) ?_
  refine gCVv (rest := []) C0 cal_X10_begins wl_X10_171 wi_X10_begins ws_X10_begins ⟨Nat.le_of_ble_eq_true rfl, Nat.le_of_ble_eq_true rfl⟩ ⟨Nat.le_of_ble_eq_true rfl, Nat.le_of_ble_eq_true rfl⟩ grv_10 [.int (0 : Int32), .int (0 : Int32)] rfl (Nat.le_of_ble_eq_true rfl) hP hS hl.1 dX10_readCondition_8 h (fun u hu => m_X10_begins l Γ (0 : Int32) (0 : Int32) g1 u hu) (fun u2 H locs h hP hS => ?_) rfl
  refine lv_iconst (v := 1) hx hb dX10_readCondition_11 (by decide) ?_
  refine lv_istore_n (lv' := [(3, .int (1 : Int32)), (0, .ref (gB Γ + 174)), (1, .int a1), (2, .int a2)]) hx hb dX10_readCondition_12 rfl hl (by decide) rfl (fun ls hl => ?_)
  exact bk_X10_readCondition_13 C0  gFuel _ _ _ _ _ _ _ h hP hS (lv_sub hl [1, 2, 3, 0] rfl)
set_option maxHeartbeats 2000000 in
set_option maxRecDepth 20000 in
theorem bs_X10_readPlace_66 {p : Program} {l : Launch} {e : Env} {s : State} {m : MethodId} {args : Array Value} {below : List Frame} {meth : Method} {c : Code} {Γ : gE} (C0 : gCx p s m args meth c Γ RX10 cX10_readPlace 7 none)   {z : Unit × gG}   {g : gG} {H : Heap} {locs : List Loc} {ls : Array Slot}  (h : fs_X10_readPlace_66 g = some z) (hP : va_P (gD Γ) gcls (lay Γ g) H) (hS : va_S (gA Γ) s.heap H locs) (hl : lv_has ls 7 [(0, .ref (gB Γ + 174))]) : W p l e (gRm 3 71) s m args below meth c H locs 0 0 (MQ below (gQv Γ z) args s 0 0 (gA Γ)) (F0 m 66 ls []) := by
  unfold fs_X10_readPlace_66 at h
  obtain ⟨hx, hb, hml, hr, hown, hts, hK, hlk, hX⟩ := id C0
  refine lv_aload_n hx hb dX10_readPlace_66 rfl (lv_at hl 0 rfl) ?_
  refine gf_10_5 hx hb hown hts hK hP wf_X10_13 dX10_readPlace_67 ?_
  refine lv_iconst (v := 0) hx hb dX10_readPlace_70 (by decide) ?_
  refine lv_dup2_11 hx hb dX10_readPlace_71 rfl rfl ?_
  refine gIld hx hb hK hP is_176 dX10_readPlace_72 h (fun h => ?_)
  refine lv_aload_n hx hb dX10_readPlace_73 rfl (lv_at hl 0 rfl) ?_
  refine gf_10_4 hx hb hown hts hK hP wf_X10_153 dX10_readPlace_74 ?_
  refine lv_if_eq (tgt := 84) hx hb dX10_readPlace_77 (by decide) (fun c1 => ?_) (fun c1 => ?_)
  · replace h := gpos c1 h
    refine lv_iconst (v := 0) hx hb dX10_readPlace_84 (by decide) ?_
    refine lv_iadd hx hb dX10_readPlace_85 ?_
    refine gIst hx hb hK hP hS is_176 dX10_readPlace_86 h (fun H locs g2 h hP hS => ?_)
    exact gvret hx hb hr hlk hP hS dX10_readPlace_87 h
  · replace h := gneg c1 h
    refine lv_iconst (v := 1) hx hb dX10_readPlace_80 (by decide) ?_
    refine lv_goto (tgt := 85) hx hb dX10_readPlace_81 (by decide) ?_
    refine lv_iadd hx hb dX10_readPlace_85 ?_
    refine gIst hx hb hK hP hS is_176 dX10_readPlace_86 h (fun H locs g3 h hP hS => ?_)
    exact gvret hx hb hr hlk hP hS dX10_readPlace_87 h
set_option maxHeartbeats 2000000 in
set_option maxRecDepth 20000 in
theorem bs_X10_readPlace_116 {p : Program} {l : Launch} {e : Env} {s : State} {m : MethodId} {args : Array Value} {below : List Frame} {meth : Method} {c : Code} {Γ : gE} (C0 : gCx p s m args meth c Γ RX10 cX10_readPlace 7 none)   {z : Unit × gG} {F116 : Int32 → Int32 → Int32 → gG → Option (Unit × gG)} {l2 : Int32} {l5 : Int32} {l6 : Int32} {g : gG} {H : Heap} {locs : List Loc} {ls : Array Slot} (hF116 : ∀ (l2 : Int32) (l5 : Int32) (l6 : Int32) (g : gG) (H : Heap) (locs : List Loc) (ls : Array Slot), F116 l2 l5 l6 g = some z → va_P (gD Γ) gcls (lay Γ g) H → va_S (gA Γ) s.heap H locs → lv_has ls 7 [(0, .ref (gB Γ + 174)), (2, .int l2), (5, .int l5), (6, .int l6)] → W p l e (gRm 3 71) s m args below meth c H locs 0 0 (MQ below (gQv Γ z) args s 0 0 (gA Γ)) (F0 m 116 ls [])) (h : fs_X10_readPlace_116 F116 l2 l5 l6 g = some z) (hP : va_P (gD Γ) gcls (lay Γ g) H) (hS : va_S (gA Γ) s.heap H locs) (hl : lv_has ls 7 [(0, .ref (gB Γ + 174)), (2, .int l2), (5, .int l5), (6, .int l6)]) : W p l e (gRm 3 71) s m args below meth c H locs 0 0 (MQ below (gQv Γ z) args s 0 0 (gA Γ)) (F0 m 116 ls []) := by
  unfold fs_X10_readPlace_116 at h
  obtain ⟨hx, hb, hml, hr, hown, hts, hK, hlk, hX⟩ := id C0
  refine lv_iload hx hb dX10_readPlace_116 (lv_at hl 3 rfl) ?_
  refine lv_sipush (v := 1024) hx hb dX10_readPlace_118 (by decide) ?_
  refine lv_icmp_ge (tgt := 153) hx hb dX10_readPlace_121 (by decide) (fun c1 => ?_) (fun c1 => ?_)
  · replace h := gpos c1 h
    refine lv_aload_n hx hb dX10_readPlace_153 rfl (lv_at hl 0 rfl) ?_
    refine gf_10_5 hx hb hown hts hK hP wf_X10_13 dX10_readPlace_154 ?_
    refine lv_iconst (v := 0) hx hb dX10_readPlace_157 (by decide) ?_
    refine lv_dup2_11 hx hb dX10_readPlace_158 rfl rfl ?_
    refine gIld hx hb hK hP is_176 dX10_readPlace_159 h (fun h => ?_)
    refine lv_iconst (v := 1) hx hb dX10_readPlace_160 (by decide) ?_
    refine lv_iadd hx hb dX10_readPlace_161 ?_
    refine gIst hx hb hK hP hS is_176 dX10_readPlace_162 h (fun H locs g2 h hP hS => ?_)
    exact gvret hx hb hr hlk hP hS dX10_readPlace_163 h
  · replace h := gneg c1 h
    refine lv_aload_n hx hb dX10_readPlace_124 rfl (lv_at hl 0 rfl) ?_
    refine lv_iload hx hb dX10_readPlace_125 (lv_at hl 2 rfl) ?_
    refine gp_10_3 hx hb hown hts hK hP hS wf_X10_150 dX10_readPlace_127 h (fun H locs g3 h hP hS => ?_)
    refine lv_aload_n hx hb dX10_readPlace_130 rfl (lv_at hl 0 rfl) ?_
    refine gf_10_5 hx hb hown hts hK hP wf_X10_13 dX10_readPlace_131 ?_
    refine lv_iload_n hx hb dX10_readPlace_134 rfl (lv_at hl 1 rfl) ?_
    refine lv_iload hx hb dX10_readPlace_135 (lv_at hl 3 rfl) ?_
    refine lv_aload_n hx hb dX10_readPlace_137 rfl (lv_at hl 0 rfl) ?_
    refine lv_iload hx hb dX10_readPlace_138 (lv_at hl 3 rfl) ?_
    refine lv_iload_n hx hb dX10_readPlace_140 rfl (lv_at hl 1 rfl) ?_
    refine gCVi (rest := [.int l6, .int l2, .ref (gB Γ + 176)]) C0 cal_X10_readCondition wl_X10_196 wi_X10_readCondition ws_X10_readCondition ⟨Nat.le_of_ble_eq_true rfl, Nat.le_of_ble_eq_true rfl⟩ ⟨Nat.le_of_ble_eq_true rfl, Nat.le_of_ble_eq_true rfl⟩ grv_10 [.int l6, .int l2] rfl (Nat.le_of_ble_eq_true rfl) hP hS hl.1 dX10_readPlace_141 h (fun u hu => m_X10_readCondition l Γ l6 l2 g3 u hu) (fun u4 H locs h hP hS => ?_) rfl
    refine gCSv (rest := []) C0 cal_X10_put wl_X10_69 wt_X10_put ⟨Nat.le_of_ble_eq_true rfl, Nat.le_of_ble_eq_true rfl⟩ ⟨Nat.le_of_ble_eq_true rfl, Nat.le_of_ble_eq_true rfl⟩ [.ref (gB Γ + 176), .int l2, .int l6, .int u4.1] rfl (Nat.le_of_ble_eq_true rfl) hP hS hl.1 dX10_readPlace_144 h (fun u hu => m_X10_put l Γ is_176 l2 l6 u4.1 u4.2 u hu) (fun u5 H locs h hP hS => ?_) rfl
    obtain ⟨x6, ex6⟩ : ∃ y : Int32, y = l6 + (1 : Int32) := ⟨_, rfl⟩
    replace h := gLetI ex6 h
    refine lv_iinc (v := x6) (lv' := [(6, .int x6), (0, .ref (gB Γ + 174)), (2, .int l2), (5, .int l5)]) hx hb dX10_readPlace_147 hl (k := 3) rfl (by rw [ex6]; rfl) (by decide) rfl (fun ls hl => ?_)
    refine lv_goto (tgt := 116) hx hb dX10_readPlace_150 (by decide) ?_
    exact hF116 _ _ _ _ _ _ _ h hP hS (lv_sub hl [1, 2, 3, 0] rfl)
set_option maxHeartbeats 2000000 in
set_option maxRecDepth 20000 in
theorem bk_X10_readPlace_116 {p : Program} {l : Launch} {e : Env} {s : State} {m : MethodId} {args : Array Value} {below : List Frame} {meth : Method} {c : Code} {Γ : gE} (C0 : gCx p s m args meth c Γ RX10 cX10_readPlace 7 none)   {z : Unit × gG}   : ∀ (n : Nat) (l2 : Int32) (l5 : Int32) (l6 : Int32) (g : gG) (H : Heap) (locs : List Loc) (ls : Array Slot), fb_X10_readPlace_116 n l2 l5 l6 g = some z → va_P (gD Γ) gcls (lay Γ g) H → va_S (gA Γ) s.heap H locs → lv_has ls 7 [(0, .ref (gB Γ + 174)), (2, .int l2), (5, .int l5), (6, .int l6)] → W p l e (gRm 3 71) s m args below meth c H locs 0 0 (MQ below (gQv Γ z) args s 0 0 (gA Γ)) (F0 m 116 ls []) := by
  intro n
  induction n with
  | zero => intro l2 l5 l6 g H locs ls h hP hS hl; cases h
  | succ n ih => intro l2 l5 l6 g H locs ls h hP hS hl; exact bs_X10_readPlace_116 C0  ih h hP hS hl
set_option maxHeartbeats 2000000 in
set_option maxRecDepth 20000 in
theorem bs_X10_readPlace_28 {p : Program} {l : Launch} {e : Env} {s : State} {m : MethodId} {args : Array Value} {below : List Frame} {meth : Method} {c : Code} {Γ : gE} (C0 : gCx p s m args meth c Γ RX10 cX10_readPlace 7 none)   {z : Unit × gG}  {l1 : Int32} {l2 : Int32} {s1 : Int32} {g : gG} {H : Heap} {locs : List Loc} {ls : Array Slot}  (h : fs_X10_readPlace_28 l1 l2 s1 g = some z) (hP : va_P (gD Γ) gcls (lay Γ g) H) (hS : va_S (gA Γ) s.heap H locs) (hl : lv_has ls 7 [(0, .ref (gB Γ + 174)), (1, .int l1), (2, .int l2)]) : W p l e (gRm 3 71) s m args below meth c H locs 0 0 (MQ below (gQv Γ z) args s 0 0 (gA Γ)) (F0 m 28 ls [.int s1, .ref (gB Γ + 174)]) := by
  unfold fs_X10_readPlace_28 at h
  obtain ⟨hx, hb, hml, hr, hown, hts, hK, hlk, hX⟩ := id C0
  refine gCVv (rest := []) C0 cal_X10_accept wl_X10_159 wi_X10_accept ws_X10_accept ⟨Nat.le_of_ble_eq_true rfl, Nat.le_of_ble_eq_true rfl⟩ ⟨Nat.le_of_ble_eq_true rfl, Nat.le_of_ble_eq_true rfl⟩ grv_10 [.int s1] rfl (Nat.le_of_ble_eq_true rfl) hP hS hl.1 dX10_readPlace_28 h (fun u hu => m_X10_accept l Γ s1 g u hu) (fun u1 H locs h hP hS => ?_) rfl
  refine lv_aload_n hx hb dX10_readPlace_31 rfl (lv_at hl 0 rfl) ?_
  refine gCVi (rest := []) C0 cal_X10_digit wl_X10_192 wi_X10_digit ws_X10_digit ⟨Nat.le_of_ble_eq_true rfl, Nat.le_of_ble_eq_true rfl⟩ ⟨Nat.le_of_ble_eq_true rfl, Nat.le_of_ble_eq_true rfl⟩ grv_10 [] rfl (Nat.le_of_ble_eq_true rfl) hP hS hl.1 dX10_readPlace_32 h (fun u hu => m_X10_digit l Γ u1.2 u hu) (fun u2 H locs h hP hS => ?_) rfl
  refine lv_topi (fun x3 ex3 => ?_)
  replace h := gLetI ex3 h
  refine lv_istore_n (lv' := [(3, .int x3), (0, .ref (gB Γ + 174)), (1, .int l1), (2, .int l2)]) hx hb dX10_readPlace_35 rfl hl (by decide) rfl (fun ls hl => ?_)
  refine lv_aload_n hx hb dX10_readPlace_36 rfl (lv_at hl 1 rfl) ?_
  refine gCVi (rest := []) C0 cal_X10_digit wl_X10_192 wi_X10_digit ws_X10_digit ⟨Nat.le_of_ble_eq_true rfl, Nat.le_of_ble_eq_true rfl⟩ ⟨Nat.le_of_ble_eq_true rfl, Nat.le_of_ble_eq_true rfl⟩ grv_10 [] rfl (Nat.le_of_ble_eq_true rfl) hP hS hl.1 dX10_readPlace_37 h (fun u hu => m_X10_digit l Γ u2.2 u hu) (fun u4 H locs h hP hS => ?_) rfl
  refine lv_topi (fun x5 ex5 => ?_)
  replace h := gLetI ex5 h
  refine lv_istore (lv' := [(4, .int x5), (3, .int x3), (0, .ref (gB Γ + 174)), (1, .int l1), (2, .int l2)]) hx hb dX10_readPlace_40 hl (by decide) rfl (fun ls hl => ?_)
  refine lv_aload_n hx hb dX10_readPlace_42 rfl (lv_at hl 2 rfl) ?_
  refine gf_10_3 hx hb hown hts hK hP wf_X10_150 dX10_readPlace_43 ?_
  refine lv_topi (fun x6 ex6 => ?_)
  replace h := gLetI ex6 h
  refine lv_istore (lv' := [(5, .int x6), (4, .int x5), (3, .int x3), (0, .ref (gB Γ + 174)), (1, .int l1), (2, .int l2)]) hx hb dX10_readPlace_46 hl (by decide) rfl (fun ls hl => ?_)
  refine lv_aload_n hx hb dX10_readPlace_48 rfl (lv_at hl 3 rfl) ?_
  refine lv_iconst (v := 0) hx hb dX10_readPlace_49 (by decide) ?_
  refine lv_iload_n hx hb dX10_readPlace_50 rfl (lv_at hl 5 rfl) ?_
  refine gCVi (rest := []) C0 cal_X10_readCondition wl_X10_196 wi_X10_readCondition ws_X10_readCondition ⟨Nat.le_of_ble_eq_true rfl, Nat.le_of_ble_eq_true rfl⟩ ⟨Nat.le_of_ble_eq_true rfl, Nat.le_of_ble_eq_true rfl⟩ grv_10 [.int (0 : Int32), .int l2] rfl (Nat.le_of_ble_eq_true rfl) hP hS hl.1 dX10_readPlace_51 h (fun u hu => m_X10_readCondition l Γ (0 : Int32) l2 u4.2 u hu) (fun u7 H locs h hP hS => ?_) rfl
  refine lv_pop hx hb dX10_readPlace_54 rfl ?_
  refine lv_aload_n hx hb dX10_readPlace_55 rfl (lv_at hl 3 rfl) ?_
  refine gf_10_4 hx hb hown hts hK hP wf_X10_153 dX10_readPlace_56 ?_
  refine lv_if_eq (tgt := 66) hx hb dX10_readPlace_59 (by decide) (fun c8 => ?_) (fun c8 => ?_)
  · replace h := gpos c8 h
    exact bs_X10_readPlace_66 C0  h hP hS (lv_sub hl [3] rfl)
  · replace h := gneg c8 h
    refine lv_iload_n hx hb dX10_readPlace_62 rfl (lv_at hl 4 rfl) ?_
    refine lv_if_ne (tgt := 88) hx hb dX10_readPlace_63 (by decide) (fun c9 => ?_) (fun c9 => ?_)
    · replace h := gneg c9 h
      refine lv_aload_n hx hb dX10_readPlace_88 rfl (lv_at hl 3 rfl) ?_
      refine gf_10_5 hx hb hown hts hK hP wf_X10_13 dX10_readPlace_89 ?_
      refine lv_iconst (v := 2) hx hb dX10_readPlace_92 (by decide) ?_
      refine lv_iconst (v := 2) hx hb dX10_readPlace_93 (by decide) ?_
      refine lv_iload_n hx hb dX10_readPlace_94 rfl (lv_at hl 5 rfl) ?_
      refine lv_imul hx hb dX10_readPlace_95 ?_
      refine lv_iadd hx hb dX10_readPlace_96 ?_
      refine lv_iload_n hx hb dX10_readPlace_97 rfl (lv_at hl 2 rfl) ?_
      refine gIst hx hb hK hP hS is_176 dX10_readPlace_98 h (fun H locs g10 h hP hS => ?_)
      refine lv_aload_n hx hb dX10_readPlace_99 rfl (lv_at hl 3 rfl) ?_
      refine gf_10_5 hx hb hown hts hK hP wf_X10_13 dX10_readPlace_100 ?_
      refine lv_iconst (v := 2) hx hb dX10_readPlace_103 (by decide) ?_
      refine lv_iconst (v := 2) hx hb dX10_readPlace_104 (by decide) ?_
      refine lv_iload_n hx hb dX10_readPlace_105 rfl (lv_at hl 5 rfl) ?_
      refine lv_imul hx hb dX10_readPlace_106 ?_
      refine lv_iadd hx hb dX10_readPlace_107 ?_
      refine lv_iconst (v := 1) hx hb dX10_readPlace_108 (by decide) ?_
      refine lv_iadd hx hb dX10_readPlace_109 ?_
      refine lv_iload hx hb dX10_readPlace_110 (lv_at hl 1 rfl) ?_
      refine gIst hx hb hK hP hS is_176 dX10_readPlace_112 h (fun H locs g11 h hP hS => ?_)
      refine lv_iconst (v := 0) hx hb dX10_readPlace_113 (by decide) ?_
      refine lv_istore (lv' := [(6, .int (0 : Int32)), (5, .int x6), (4, .int x5), (3, .int x3), (0, .ref (gB Γ + 174)), (1, .int l1), (2, .int l2)]) hx hb dX10_readPlace_114 hl (by decide) rfl (fun ls hl => ?_)
      exact bk_X10_readPlace_116 C0  gFuel _ _ _ _ _ _ _ h hP hS (lv_sub hl [4, 6, 1, 0] rfl)
    · replace h := gpos c9 h
      exact bs_X10_readPlace_66 C0  h hP hS (lv_sub hl [3] rfl)
set_option maxHeartbeats 2000000 in
set_option maxRecDepth 20000 in
theorem bs_X10_readPlace_27 {p : Program} {l : Launch} {e : Env} {s : State} {m : MethodId} {args : Array Value} {below : List Frame} {meth : Method} {c : Code} {Γ : gE} (C0 : gCx p s m args meth c Γ RX10 cX10_readPlace 7 none)   {z : Unit × gG}  {l1 : Int32} {l2 : Int32} {g : gG} {H : Heap} {locs : List Loc} {ls : Array Slot}  (h : fs_X10_readPlace_27 l1 l2 g = some z) (hP : va_P (gD Γ) gcls (lay Γ g) H) (hS : va_S (gA Γ) s.heap H locs) (hl : lv_has ls 7 [(0, .ref (gB Γ + 174)), (1, .int l1), (2, .int l2)]) : W p l e (gRm 3 71) s m args below meth c H locs 0 0 (MQ below (gQv Γ z) args s 0 0 (gA Γ)) (F0 m 27 ls [.ref (gB Γ + 174)]) := by
  unfold fs_X10_readPlace_27 at h
  obtain ⟨hx, hb, hml, hr, hown, hts, hK, hlk, hX⟩ := id C0
  refine lv_iconst (v := 0) hx hb dX10_readPlace_27 (by decide) ?_
  exact bs_X10_readPlace_28 C0  h hP hS (lv_sub hl [0, 1, 2] rfl)
set_option maxHeartbeats 2000000 in
set_option maxRecDepth 20000 in
theorem m_X10_readPlace (l : Launch) (Γ : gE)   (a1 : Int32) (g : gG) (z : Unit × gG) (h : f_X10_readPlace a1 g = some z) : gMv l yX10_readPlace cX10_readPlace 7 none 3 71 Γ [.ref (gB Γ + 174), .int a1] g z := by
  unfold f_X10_readPlace at h
  refine gStart (own := RX10) (by decide +kernel) rfl (Nat.le_of_ble_eq_true rfl) ?_
  intro p e s m below meth c C0 ls hl hP
  have hS : va_S (gA Γ) s.heap s.heap [] := va_S.rf
  have hl : lv_has ls 7 [(0, .ref (gB Γ + 174)), (1, .int a1)] := hl
  obtain ⟨hx, hb, hml, hr, hown, hts, hK, hlk, hX⟩ := id C0
  refine lv_aload_n hx hb dX10_readPlace_0 rfl (lv_at hl 0 rfl) ?_
  refine gf_10_5 hx hb hown hts hK hP wf_X10_13 dX10_readPlace_1 ?_
  refine lv_iconst (v := 0) hx hb dX10_readPlace_4 (by decide) ?_
  refine gIld hx hb hK hP is_176 dX10_readPlace_5 h (fun h => ?_)
  refine lv_topi (fun x1 ex1 => ?_)
  replace h := gLetI ex1 h
  refine lv_istore_n (lv' := [(2, .int x1), (0, .ref (gB Γ + 174)), (1, .int a1)]) hx hb dX10_readPlace_6 rfl hl (by decide) rfl (fun ls hl => ?_)
  refine lv_aload_n hx hb dX10_readPlace_7 rfl (lv_at hl 1 rfl) ?_
  refine lv_aload_n hx hb dX10_readPlace_8 rfl (lv_at hl 1 rfl) ?_
  refine lv_bipush (v := 47) hx hb dX10_readPlace_9 (by decide) ?_
  refine gCVi (rest := [.ref (gB Γ + 174)]) C0 cal_X10_isNext wl_X10_179 wi_X10_isNext ws_X10_isNext ⟨Nat.le_of_ble_eq_true rfl, Nat.le_of_ble_eq_true rfl⟩ ⟨Nat.le_of_ble_eq_true rfl, Nat.le_of_ble_eq_true rfl⟩ grv_10 [.int (47 : Int32)] rfl (Nat.le_of_ble_eq_true rfl) hP hS hl.1 dX10_readPlace_11 h (fun u hu => m_X10_isNext l Γ (47 : Int32) g u hu) (fun u2 H locs h hP hS => ?_) rfl
  refine lv_if_eq (tgt := 27) hx hb dX10_readPlace_14 (by decide) (fun c3 => ?_) (fun c3 => ?_)
  · replace h := gpos c3 h
    exact bs_X10_readPlace_27 C0  h hP hS (lv_sub hl [1, 2, 0] rfl)
  · replace h := gneg c3 h
    refine lv_iload_n hx hb dX10_readPlace_17 rfl (lv_at hl 0 rfl) ?_
    refine lv_bipush (v := 10) hx hb dX10_readPlace_18 (by decide) ?_
    refine lv_icmp_ge (tgt := 27) hx hb dX10_readPlace_20 (by decide) (fun c4 => ?_) (fun c4 => ?_)
    · replace h := gpos c4 h
      exact bs_X10_readPlace_27 C0  h hP hS (lv_sub hl [1, 2, 0] rfl)
    · replace h := gneg c4 h
      refine lv_iconst (v := 1) hx hb dX10_readPlace_23 (by decide) ?_
      refine lv_goto (tgt := 28) hx hb dX10_readPlace_24 (by decide) ?_
      exact bs_X10_readPlace_28 C0  h hP hS (lv_sub hl [1, 2, 0] rfl)
set_option maxHeartbeats 2000000 in
set_option maxRecDepth 20000 in
theorem bs_X10_readText_78 {p : Program} {l : Launch} {e : Env} {s : State} {m : MethodId} {args : Array Value} {below : List Frame} {meth : Method} {c : Code} {Γ : gE} (C0 : gCx p s m args meth c Γ RX10 cX10_readText 3 (some .int))   {z : Int32 × gG}   {g : gG} {H : Heap} {locs : List Loc} {ls : Array Slot}  (h : fs_X10_readText_78 g = some z) (hP : va_P (gD Γ) gcls (lay Γ g) H) (hS : va_S (gA Γ) s.heap H locs) (hl : lv_has ls 3 [(0, .ref (gB Γ + 174))]) : W p l e (gRm 4 97) s m args below meth c H locs 0 0 (MQ below (gQi Γ z) args s 0 0 (gA Γ)) (F0 m 78 ls []) := by
  unfold fs_X10_readText_78 at h
  obtain ⟨hx, hb, hml, hr, hown, hts, hK, hlk, hX⟩ := id C0
  refine lv_aload_n hx hb dX10_readText_78 rfl (lv_at hl 0 rfl) ?_
  refine gf_10_4 hx hb hown hts hK hP wf_X10_153 dX10_readText_79 ?_
  refine lv_if_eq (tgt := 90) hx hb dX10_readText_82 (by decide) (fun c1 => ?_) (fun c1 => ?_)
  · replace h := gpos c1 h
    refine lv_aload_n hx hb dX10_readText_90 rfl (lv_at hl 0 rfl) ?_
    refine gf_10_3 hx hb hown hts hK hP wf_X10_150 dX10_readText_91 ?_
    exact giret hx hb hr hlk hP hS dX10_readText_94 h
  · replace h := gneg c1 h
    refine lv_bipush (v := -9) hx hb dX10_readText_85 (by decide) ?_
    refine lv_goto (tgt := 94) hx hb dX10_readText_87 (by decide) ?_
    exact giret hx hb hr hlk hP hS dX10_readText_94 h
set_option maxHeartbeats 2000000 in
set_option maxRecDepth 20000 in
theorem bs_X10_readText_70 {p : Program} {l : Launch} {e : Env} {s : State} {m : MethodId} {args : Array Value} {below : List Frame} {meth : Method} {c : Code} {Γ : gE} (C0 : gCx p s m args meth c Γ RX10 cX10_readText 3 (some .int))   {z : Int32 × gG} {F42 : Int32 → gG → Option (Int32 × gG)} {l1 : Int32} {g : gG} {H : Heap} {locs : List Loc} {ls : Array Slot} (hF42 : ∀ (l1 : Int32) (g : gG) (H : Heap) (locs : List Loc) (ls : Array Slot), F42 l1 g = some z → va_P (gD Γ) gcls (lay Γ g) H → va_S (gA Γ) s.heap H locs → lv_has ls 3 [(0, .ref (gB Γ + 174)), (1, .int l1)] → W p l e (gRm 4 97) s m args below meth c H locs 0 0 (MQ below (gQi Γ z) args s 0 0 (gA Γ)) (F0 m 42 ls [])) (h : fs_X10_readText_70 F42 l1 g = some z) (hP : va_P (gD Γ) gcls (lay Γ g) H) (hS : va_S (gA Γ) s.heap H locs) (hl : lv_has ls 3 [(0, .ref (gB Γ + 174)), (1, .int l1)]) : W p l e (gRm 4 97) s m args below meth c H locs 0 0 (MQ below (gQi Γ z) args s 0 0 (gA Γ)) (F0 m 70 ls []) := by
  unfold fs_X10_readText_70 at h
  obtain ⟨hx, hb, hml, hr, hown, hts, hK, hlk, hX⟩ := id C0
  refine lv_aload_n hx hb dX10_readText_70 rfl (lv_at hl 0 rfl) ?_
  refine lv_iload_n hx hb dX10_readText_71 rfl (lv_at hl 1 rfl) ?_
  refine gCVv (rest := []) C0 cal_X10_readPlace wl_X10_199 wi_X10_readPlace ws_X10_readPlace ⟨Nat.le_of_ble_eq_true rfl, Nat.le_of_ble_eq_true rfl⟩ ⟨Nat.le_of_ble_eq_true rfl, Nat.le_of_ble_eq_true rfl⟩ grv_10 [.int l1] rfl (Nat.le_of_ble_eq_true rfl) hP hS hl.1 dX10_readText_72 h (fun u hu => m_X10_readPlace l Γ l1 g u hu) (fun u1 H locs h hP hS => ?_) rfl
  refine lv_goto (tgt := 42) hx hb dX10_readText_75 (by decide) ?_
  exact hF42 _ _ _ _ _ h hP hS (lv_sub hl [0, 1] rfl)
set_option maxHeartbeats 2000000 in
set_option maxRecDepth 20000 in
theorem bs_X10_readText_42 {p : Program} {l : Launch} {e : Env} {s : State} {m : MethodId} {args : Array Value} {below : List Frame} {meth : Method} {c : Code} {Γ : gE} (C0 : gCx p s m args meth c Γ RX10 cX10_readText 3 (some .int))   {z : Int32 × gG} {F42 : Int32 → gG → Option (Int32 × gG)} {l1 : Int32} {g : gG} {H : Heap} {locs : List Loc} {ls : Array Slot} (hF42 : ∀ (l1 : Int32) (g : gG) (H : Heap) (locs : List Loc) (ls : Array Slot), F42 l1 g = some z → va_P (gD Γ) gcls (lay Γ g) H → va_S (gA Γ) s.heap H locs → lv_has ls 3 [(0, .ref (gB Γ + 174)), (1, .int l1)] → W p l e (gRm 4 97) s m args below meth c H locs 0 0 (MQ below (gQi Γ z) args s 0 0 (gA Γ)) (F0 m 42 ls [])) (h : fs_X10_readText_42 F42 l1 g = some z) (hP : va_P (gD Γ) gcls (lay Γ g) H) (hS : va_S (gA Γ) s.heap H locs) (hl : lv_has ls 3 [(0, .ref (gB Γ + 174)), (1, .int l1)]) : W p l e (gRm 4 97) s m args below meth c H locs 0 0 (MQ below (gQi Γ z) args s 0 0 (gA Γ)) (F0 m 42 ls []) := by
  unfold fs_X10_readText_42 at h
  obtain ⟨hx, hb, hml, hr, hown, hts, hK, hlk, hX⟩ := id C0
  refine lv_aload_n hx hb dX10_readText_42 rfl (lv_at hl 0 rfl) ?_
  refine gf_10_4 hx hb hown hts hK hP wf_X10_153 dX10_readText_43 ?_
  refine lv_if_eq (tgt := 78) hx hb dX10_readText_46 (by decide) (fun c1 => ?_) (fun c1 => ?_)
  · replace h := gpos c1 h
    exact bs_X10_readText_78 C0  h hP hS (lv_sub hl [0] rfl)
  · replace h := gneg c1 h
    refine lv_aload_n hx hb dX10_readText_49 rfl (lv_at hl 0 rfl) ?_
    refine gf_10_5 hx hb hown hts hK hP wf_X10_13 dX10_readText_50 ?_
    refine lv_iconst (v := 0) hx hb dX10_readText_53 (by decide) ?_
    refine gIld hx hb hK hP is_176 dX10_readText_54 h (fun h => ?_)
    refine lv_iconst (v := 2) hx hb dX10_readText_55 (by decide) ?_
    refine lv_icmp_lt (tgt := 70) hx hb dX10_readText_56 (by decide) (fun c2 => ?_) (fun c2 => ?_)
    · replace h := gpos c2 h
      exact bs_X10_readText_70 C0 hF42 h hP hS (lv_sub hl [0, 1] rfl)
    · replace h := gneg c2 h
      refine lv_aload_n hx hb dX10_readText_59 rfl (lv_at hl 0 rfl) ?_
      refine gf_10_3 hx hb hown hts hK hP wf_X10_150 dX10_readText_60 ?_
      refine lv_aload_n hx hb dX10_readText_63 rfl (lv_at hl 0 rfl) ?_
      refine gf_10_2 hx hb hown hts hK hP wf_X10_143 dX10_readText_64 ?_
      refine lv_icmp_ge (tgt := 78) hx hb dX10_readText_67 (by decide) (fun c3 => ?_) (fun c3 => ?_)
      · replace h := gpos c3 h
        exact bs_X10_readText_78 C0  h hP hS (lv_sub hl [0] rfl)
      · replace h := gneg c3 h
        exact bs_X10_readText_70 C0 hF42 h hP hS (lv_sub hl [0, 1] rfl)
set_option maxHeartbeats 2000000 in
set_option maxRecDepth 20000 in
theorem bk_X10_readText_42 {p : Program} {l : Launch} {e : Env} {s : State} {m : MethodId} {args : Array Value} {below : List Frame} {meth : Method} {c : Code} {Γ : gE} (C0 : gCx p s m args meth c Γ RX10 cX10_readText 3 (some .int))   {z : Int32 × gG}   : ∀ (n : Nat) (l1 : Int32) (g : gG) (H : Heap) (locs : List Loc) (ls : Array Slot), fb_X10_readText_42 n l1 g = some z → va_P (gD Γ) gcls (lay Γ g) H → va_S (gA Γ) s.heap H locs → lv_has ls 3 [(0, .ref (gB Γ + 174)), (1, .int l1)] → W p l e (gRm 4 97) s m args below meth c H locs 0 0 (MQ below (gQi Γ z) args s 0 0 (gA Γ)) (F0 m 42 ls []) := by
  intro n
  induction n with
  | zero => intro l1 g H locs ls h hP hS hl; cases h
  | succ n ih => intro l1 g H locs ls h hP hS hl; exact bs_X10_readText_42 C0  ih h hP hS hl
set_option maxHeartbeats 2000000 in
set_option maxRecDepth 20000 in
theorem bs_X10_readText_12 {p : Program} {l : Launch} {e : Env} {s : State} {m : MethodId} {args : Array Value} {below : List Frame} {meth : Method} {c : Code} {Γ : gE} (C0 : gCx p s m args meth c Γ RX10 cX10_readText 3 (some .int))   {z : Int32 × gG} {F12 : Int32 → Int32 → gG → Option (Int32 × gG)} {l1 : Int32} {l2 : Int32} {g : gG} {H : Heap} {locs : List Loc} {ls : Array Slot} (hF12 : ∀ (l1 : Int32) (l2 : Int32) (g : gG) (H : Heap) (locs : List Loc) (ls : Array Slot), F12 l1 l2 g = some z → va_P (gD Γ) gcls (lay Γ g) H → va_S (gA Γ) s.heap H locs → lv_has ls 3 [(0, .ref (gB Γ + 174)), (1, .int l1), (2, .int l2)] → W p l e (gRm 4 97) s m args below meth c H locs 0 0 (MQ below (gQi Γ z) args s 0 0 (gA Γ)) (F0 m 12 ls [])) (h : fs_X10_readText_12 F12 l1 l2 g = some z) (hP : va_P (gD Γ) gcls (lay Γ g) H) (hS : va_S (gA Γ) s.heap H locs) (hl : lv_has ls 3 [(0, .ref (gB Γ + 174)), (1, .int l1), (2, .int l2)]) : W p l e (gRm 4 97) s m args below meth c H locs 0 0 (MQ below (gQi Γ z) args s 0 0 (gA Γ)) (F0 m 12 ls []) := by
  unfold fs_X10_readText_12 at h
  obtain ⟨hx, hb, hml, hr, hown, hts, hK, hlk, hX⟩ := id C0
  refine lv_iload_n hx hb dX10_readText_12 rfl (lv_at hl 2 rfl) ?_
  refine lv_sipush (v := 394) hx hb dX10_readText_13 (by decide) ?_
  refine lv_icmp_ge (tgt := 32) hx hb dX10_readText_16 (by decide) (fun c1 => ?_) (fun c1 => ?_)
  · replace h := gpos c1 h
    refine lv_aload_n hx hb dX10_readText_32 rfl (lv_at hl 0 rfl) ?_
    refine lv_aload_n hx hb dX10_readText_33 rfl (lv_at hl 0 rfl) ?_
    refine lv_bipush (v := 72) hx hb dX10_readText_34 (by decide) ?_
    refine gCVi (rest := [.ref (gB Γ + 174)]) C0 cal_X10_isNext wl_X10_179 wi_X10_isNext ws_X10_isNext ⟨Nat.le_of_ble_eq_true rfl, Nat.le_of_ble_eq_true rfl⟩ ⟨Nat.le_of_ble_eq_true rfl, Nat.le_of_ble_eq_true rfl⟩ grv_10 [.int (72 : Int32)] rfl (Nat.le_of_ble_eq_true rfl) hP hS hl.1 dX10_readText_36 h (fun u hu => m_X10_isNext l Γ (72 : Int32) g u hu) (fun u2 H locs h hP hS => ?_) rfl
    refine gCVv (rest := []) C0 cal_X10_accept wl_X10_159 wi_X10_accept ws_X10_accept ⟨Nat.le_of_ble_eq_true rfl, Nat.le_of_ble_eq_true rfl⟩ ⟨Nat.le_of_ble_eq_true rfl, Nat.le_of_ble_eq_true rfl⟩ grv_10 [.int u2.1] rfl (Nat.le_of_ble_eq_true rfl) hP hS hl.1 dX10_readText_39 h (fun u hu => m_X10_accept l Γ u2.1 u2.2 u hu) (fun u3 H locs h hP hS => ?_) rfl
    exact bk_X10_readText_42 C0  gFuel _ _ _ _ _ h hP hS (lv_sub hl [0, 1] rfl)
  · replace h := gneg c1 h
    refine lv_aload_n hx hb dX10_readText_19 rfl (lv_at hl 0 rfl) ?_
    refine gf_10_5 hx hb hown hts hK hP wf_X10_13 dX10_readText_20 ?_
    refine lv_iload_n hx hb dX10_readText_23 rfl (lv_at hl 2 rfl) ?_
    refine lv_iconst (v := 0) hx hb dX10_readText_24 (by decide) ?_
    refine gIst hx hb hK hP hS is_176 dX10_readText_25 h (fun H locs g4 h hP hS => ?_)
    obtain ⟨x5, ex5⟩ : ∃ y : Int32, y = l2 + (1 : Int32) := ⟨_, rfl⟩
    replace h := gLetI ex5 h
    refine lv_iinc (v := x5) (lv' := [(2, .int x5), (0, .ref (gB Γ + 174)), (1, .int l1)]) hx hb dX10_readText_26 hl (k := 2) rfl (by rw [ex5]; rfl) (by decide) rfl (fun ls hl => ?_)
    refine lv_goto (tgt := 12) hx hb dX10_readText_29 (by decide) ?_
    exact hF12 _ _ _ _ _ _ h hP hS (lv_sub hl [1, 2, 0] rfl)
set_option maxHeartbeats 2000000 in
set_option maxRecDepth 20000 in
theorem bk_X10_readText_12 {p : Program} {l : Launch} {e : Env} {s : State} {m : MethodId} {args : Array Value} {below : List Frame} {meth : Method} {c : Code} {Γ : gE} (C0 : gCx p s m args meth c Γ RX10 cX10_readText 3 (some .int))   {z : Int32 × gG}   : ∀ (n : Nat) (l1 : Int32) (l2 : Int32) (g : gG) (H : Heap) (locs : List Loc) (ls : Array Slot), fb_X10_readText_12 n l1 l2 g = some z → va_P (gD Γ) gcls (lay Γ g) H → va_S (gA Γ) s.heap H locs → lv_has ls 3 [(0, .ref (gB Γ + 174)), (1, .int l1), (2, .int l2)] → W p l e (gRm 4 97) s m args below meth c H locs 0 0 (MQ below (gQi Γ z) args s 0 0 (gA Γ)) (F0 m 12 ls []) := by
  intro n
  induction n with
  | zero => intro l1 l2 g H locs ls h hP hS hl; cases h
  | succ n ih => intro l1 l2 g H locs ls h hP hS hl; exact bs_X10_readText_12 C0  ih h hP hS hl
set_option maxHeartbeats 2000000 in
set_option maxRecDepth 20000 in
theorem m_X10_readText (l : Launch) (Γ : gE)   (a1 : Int32) (g : gG) (z : Int32 × gG) (h : f_X10_readText a1 g = some z) : gMi l yX10_readText cX10_readText 3 (some .int) 4 97 Γ [.ref (gB Γ + 174), .int a1] g z := by
  unfold f_X10_readText at h
  refine gStart (own := RX10) (by decide +kernel) rfl (Nat.le_of_ble_eq_true rfl) ?_
  intro p e s m below meth c C0 ls hl hP
  have hS : va_S (gA Γ) s.heap s.heap [] := va_S.rf
  have hl : lv_has ls 3 [(0, .ref (gB Γ + 174)), (1, .int a1)] := hl
  obtain ⟨hx, hb, hml, hr, hown, hts, hK, hlk, hX⟩ := id C0
  refine lv_aload_n hx hb dX10_readText_0 rfl (lv_at hl 0 rfl) ?_
  refine lv_iconst (v := 0) hx hb dX10_readText_1 (by decide) ?_
  refine gp_10_3 hx hb hown hts hK hP hS wf_X10_150 dX10_readText_2 h (fun H locs g1 h hP hS => ?_)
  refine lv_aload_n hx hb dX10_readText_5 rfl (lv_at hl 0 rfl) ?_
  refine lv_iconst (v := 1) hx hb dX10_readText_6 (by decide) ?_
  refine gp_10_4 hx hb hown hts hK hP hS wf_X10_153 dX10_readText_7 h (fun H locs g2 h hP hS => ?_)
  refine lv_iconst (v := 0) hx hb dX10_readText_10 (by decide) ?_
  refine lv_istore_n (lv' := [(2, .int (0 : Int32)), (0, .ref (gB Γ + 174)), (1, .int a1)]) hx hb dX10_readText_11 rfl hl (by decide) rfl (fun ls hl => ?_)
  exact bk_X10_readText_12 C0  gFuel _ _ _ _ _ _ h hP hS (lv_sub hl [1, 2, 0] rfl)
set_option maxHeartbeats 2000000 in
set_option maxRecDepth 20000 in
theorem m_X10_errorPosition (l : Launch) (Γ : gE)    (g : gG) (z : Int32 × gG) (h : f_X10_errorPosition g = some z) : gMi l yX10_errorPosition cX10_errorPosition 1 (some .int) 5 119 Γ [.ref (gB Γ + 174)] g z := by
  unfold f_X10_errorPosition at h
  refine gStart (own := RX10) (by decide +kernel) rfl (Nat.le_of_ble_eq_true rfl) ?_
  intro p e s m below meth c C0 ls hl hP
  have hS : va_S (gA Γ) s.heap s.heap [] := va_S.rf
  have hl : lv_has ls 1 [(0, .ref (gB Γ + 174))] := hl
  obtain ⟨hx, hb, hml, hr, hown, hts, hK, hlk, hX⟩ := id C0
  refine lv_aload_n hx hb dX10_errorPosition_0 rfl (lv_at hl 0 rfl) ?_
  refine lv_iconst (v := 0) hx hb dX10_errorPosition_1 (by decide) ?_
  refine gp_10_0 hx hb hown hts hK hP hS wf_X10_73 dX10_errorPosition_2 h (fun H locs g1 h hP hS => ?_)
  refine lv_aload_n hx hb dX10_errorPosition_5 rfl (lv_at hl 0 rfl) ?_
  refine lv_iconst (v := 0) hx hb dX10_errorPosition_6 (by decide) ?_
  refine gCVi (rest := []) C0 cal_X10_readText wl_X10_202 wi_X10_readText ws_X10_readText ⟨Nat.le_of_ble_eq_true rfl, Nat.le_of_ble_eq_true rfl⟩ ⟨Nat.le_of_ble_eq_true rfl, Nat.le_of_ble_eq_true rfl⟩ grv_10 [.int (0 : Int32)] rfl (Nat.le_of_ble_eq_true rfl) hP hS hl.1 dX10_errorPosition_7 h (fun u hu => m_X10_readText l Γ (0 : Int32) g1 u hu) (fun u2 H locs h hP hS => ?_) rfl
  exact giret hx hb hr hlk hP hS dX10_errorPosition_10 h
set_option maxHeartbeats 2000000 in
set_option maxRecDepth 20000 in
theorem bs_X10_load_16 {p : Program} {l : Launch} {e : Env} {s : State} {m : MethodId} {args : Array Value} {below : List Frame} {meth : Method} {c : Code} {Γ : gE} (C0 : gCx p s m args meth c Γ RX10 cX10_load 1 (some .int))   {z : Int32 × gG}  {s1 : Int32} {g : gG} {H : Heap} {locs : List Loc} {ls : Array Slot}  (h : fs_X10_load_16 s1 g = some z) (hP : va_P (gD Γ) gcls (lay Γ g) H) (hS : va_S (gA Γ) s.heap H locs) (hl : lv_has ls 1 [(0, .ref (gB Γ + 174))]) : W p l e (gRm 5 119) s m args below meth c H locs 0 0 (MQ below (gQi Γ z) args s 0 0 (gA Γ)) (F0 m 16 ls [.int s1, .ref (gB Γ + 174)]) := by
  unfold fs_X10_load_16 at h
  obtain ⟨hx, hb, hml, hr, hown, hts, hK, hlk, hX⟩ := id C0
  refine gCVi (rest := []) C0 cal_X10_refused wl_X10_146 wi_X10_refused ws_X10_refused ⟨Nat.le_of_ble_eq_true rfl, Nat.le_of_ble_eq_true rfl⟩ ⟨Nat.le_of_ble_eq_true rfl, Nat.le_of_ble_eq_true rfl⟩ grv_10 [.int s1] rfl (Nat.le_of_ble_eq_true rfl) hP hS hl.1 dX10_load_16 h (fun u hu => m_X10_refused l Γ s1 g u hu) (fun u1 H locs h hP hS => ?_) rfl
  refine lv_if_eq (tgt := 24) hx hb dX10_load_19 (by decide) (fun c2 => ?_) (fun c2 => ?_)
  · replace h := gpos c2 h
    refine lv_aload_n hx hb dX10_load_24 rfl (lv_at hl 0 rfl) ?_
    refine gf_10_5 hx hb hown hts hK hP wf_X10_13 dX10_load_25 ?_
    refine lv_iconst (v := 0) hx hb dX10_load_28 (by decide) ?_
    refine lv_aload_n hx hb dX10_load_29 rfl (lv_at hl 0 rfl) ?_
    refine gf_10_13 hx hb hown hts hK hP wf_X10_35 dX10_load_30 ?_
    refine lv_iconst (v := 0) hx hb dX10_load_33 (by decide) ?_
    refine lv_sipush (v := 394) hx hb dX10_load_34 (by decide) ?_
    refine gCSv (rest := []) C0 cal_X10_copy wl_X10_82 wt_X10_copy ⟨Nat.le_of_ble_eq_true rfl, Nat.le_of_ble_eq_true rfl⟩ ⟨Nat.le_of_ble_eq_true rfl, Nat.le_of_ble_eq_true rfl⟩ [.ref (gB Γ + 176), .int (0 : Int32), .ref (gB Γ + 183), .int (0 : Int32), .int (394 : Int32)] rfl (Nat.le_of_ble_eq_true rfl) hP hS hl.1 dX10_load_37 h (fun u hu => m_X10_copy l Γ is_176 is_183 (0 : Int32) (0 : Int32) (394 : Int32) u1.2 u hu) (fun u3 H locs h hP hS => ?_) rfl
    refine lv_aload_n hx hb dX10_load_40 rfl (lv_at hl 0 rfl) ?_
    refine lv_iconst (v := 0) hx hb dX10_load_41 (by decide) ?_
    refine gp_10_16 hx hb hown hts hK hP hS wf_X10_79 dX10_load_42 h (fun H locs g4 h hP hS => ?_)
    refine lv_aload_n hx hb dX10_load_45 rfl (lv_at hl 0 rfl) ?_
    refine gf_10_18 hx hb hown hts hK hP wf_X10_47 dX10_load_46 ?_
    refine lv_iconst (v := 0) hx hb dX10_load_49 (by decide) ?_
    refine lv_iconst (v := 0) hx hb dX10_load_50 (by decide) ?_
    refine gZst hx hb hK hP hS is_187 dX10_load_51 h (fun H locs g5 h hP hS => ?_)
    refine lv_aload_n hx hb dX10_load_52 rfl (lv_at hl 0 rfl) ?_
    refine gf_10_18 hx hb hown hts hK hP wf_X10_47 dX10_load_53 ?_
    refine lv_iconst (v := 1) hx hb dX10_load_56 (by decide) ?_
    refine lv_iconst (v := 0) hx hb dX10_load_57 (by decide) ?_
    refine gZst hx hb hK hP hS is_187 dX10_load_58 h (fun H locs g6 h hP hS => ?_)
    refine lv_aload_n hx hb dX10_load_59 rfl (lv_at hl 0 rfl) ?_
    refine gf_10_13 hx hb hown hts hK hP wf_X10_35 dX10_load_60 ?_
    refine lv_iconst (v := 0) hx hb dX10_load_63 (by decide) ?_
    refine gIld hx hb hK hP is_183 dX10_load_64 h (fun h => ?_)
    exact giret hx hb hr hlk hP hS dX10_load_65 h
  · replace h := gneg c2 h
    refine lv_iconst (v := 0) hx hb dX10_load_22 (by decide) ?_
    exact giret hx hb hr hlk hP hS dX10_load_23 h
set_option maxHeartbeats 2000000 in
set_option maxRecDepth 20000 in
theorem m_X10_load (l : Launch) (Γ : gE)    (g : gG) (z : Int32 × gG) (h : f_X10_load g = some z) : gMi l yX10_load cX10_load 1 (some .int) 5 119 Γ [.ref (gB Γ + 174)] g z := by
  unfold f_X10_load at h
  refine gStart (own := RX10) (by decide +kernel) rfl (Nat.le_of_ble_eq_true rfl) ?_
  intro p e s m below meth c C0 ls hl hP
  have hS : va_S (gA Γ) s.heap s.heap [] := va_S.rf
  have hl : lv_has ls 1 [(0, .ref (gB Γ + 174))] := hl
  obtain ⟨hx, hb, hml, hr, hown, hts, hK, hlk, hX⟩ := id C0
  refine lv_aload_n hx hb dX10_load_0 rfl (lv_at hl 0 rfl) ?_
  refine lv_aload_n hx hb dX10_load_1 rfl (lv_at hl 0 rfl) ?_
  refine lv_iconst (v := 1) hx hb dX10_load_2 (by decide) ?_
  refine gCVi (rest := [.ref (gB Γ + 174)]) C0 cal_X10_readText wl_X10_202 wi_X10_readText ws_X10_readText ⟨Nat.le_of_ble_eq_true rfl, Nat.le_of_ble_eq_true rfl⟩ ⟨Nat.le_of_ble_eq_true rfl, Nat.le_of_ble_eq_true rfl⟩ grv_10 [.int (1 : Int32)] rfl (Nat.le_of_ble_eq_true rfl) hP hS hl.1 dX10_load_3 h (fun u hu => m_X10_readText l Γ (1 : Int32) g u hu) (fun u1 H locs h hP hS => ?_) rfl
  refine lv_bipush (v := -9) hx hb dX10_load_6 (by decide) ?_
  refine lv_icmp_ne (tgt := 15) hx hb dX10_load_8 (by decide) (fun c2 => ?_) (fun c2 => ?_)
  · replace h := gneg c2 h
    refine lv_iconst (v := 1) hx hb dX10_load_15 (by decide) ?_
    exact bs_X10_load_16 C0  h hP hS (lv_sub hl [0] rfl)
  · replace h := gpos c2 h
    refine lv_iconst (v := 0) hx hb dX10_load_11 (by decide) ?_
    refine lv_goto (tgt := 16) hx hb dX10_load_12 (by decide) ?_
    exact bs_X10_load_16 C0  h hP hS (lv_sub hl [0] rfl)
set_option maxHeartbeats 2000000 in
set_option maxRecDepth 20000 in
theorem bs_X10_allVisited_4 {p : Program} {l : Launch} {e : Env} {s : State} {m : MethodId} {args : Array Value} {below : List Frame} {meth : Method} {c : Code} {Γ : gE} (C0 : gCx p s m args meth c Γ RX10 cX10_allVisited 3 (some .int))   {z : Int32 × gG} {F4 : Int32 → Int32 → gG → Option (Int32 × gG)} {l1 : Int32} {l2 : Int32} {g : gG} {H : Heap} {locs : List Loc} {ls : Array Slot} (hF4 : ∀ (l1 : Int32) (l2 : Int32) (g : gG) (H : Heap) (locs : List Loc) (ls : Array Slot), F4 l1 l2 g = some z → va_P (gD Γ) gcls (lay Γ g) H → va_S (gA Γ) s.heap H locs → lv_has ls 3 [(0, .ref (gB Γ + 174)), (1, .int l1), (2, .int l2)] → W p l e (gRm 2 44) s m args below meth c H locs 0 0 (MQ below (gQi Γ z) args s 0 0 (gA Γ)) (F0 m 4 ls [])) (h : fs_X10_allVisited_4 F4 l1 l2 g = some z) (hP : va_P (gD Γ) gcls (lay Γ g) H) (hS : va_S (gA Γ) s.heap H locs) (hl : lv_has ls 3 [(0, .ref (gB Γ + 174)), (1, .int l1), (2, .int l2)]) : W p l e (gRm 2 44) s m args below meth c H locs 0 0 (MQ below (gQi Γ z) args s 0 0 (gA Γ)) (F0 m 4 ls []) := by
  unfold fs_X10_allVisited_4 at h
  obtain ⟨hx, hb, hml, hr, hown, hts, hK, hlk, hX⟩ := id C0
  refine lv_iload_n hx hb dX10_allVisited_4 rfl (lv_at hl 2 rfl) ?_
  refine lv_aload_n hx hb dX10_allVisited_5 rfl (lv_at hl 0 rfl) ?_
  refine gf_10_13 hx hb hown hts hK hP wf_X10_35 dX10_allVisited_6 ?_
  refine lv_iconst (v := 1) hx hb dX10_allVisited_9 (by decide) ?_
  refine gIld hx hb hK hP is_183 dX10_allVisited_10 h (fun h => ?_)
  refine lv_icmp_ge (tgt := 31) hx hb dX10_allVisited_11 (by decide) (fun c1 => ?_) (fun c1 => ?_)
  · replace h := gpos c1 h
    refine lv_iload_n hx hb dX10_allVisited_31 rfl (lv_at hl 1 rfl) ?_
    exact giret hx hb hr hlk hP hS dX10_allVisited_32 h
  · replace h := gneg c1 h
    refine lv_iload_n hx hb dX10_allVisited_14 rfl (lv_at hl 1 rfl) ?_
    refine lv_aload_n hx hb dX10_allVisited_15 rfl (lv_at hl 0 rfl) ?_
    refine gf_10_13 hx hb hown hts hK hP wf_X10_35 dX10_allVisited_16 ?_
    refine lv_iload_n hx hb dX10_allVisited_19 rfl (lv_at hl 2 rfl) ?_
    refine gCSi (rest := [.int l1]) C0 cal_X10_visited wl_X10_104 wt_X10_visited ⟨Nat.le_of_ble_eq_true rfl, Nat.le_of_ble_eq_true rfl⟩ ⟨Nat.le_of_ble_eq_true rfl, Nat.le_of_ble_eq_true rfl⟩ [.ref (gB Γ + 183), .int l2] rfl (Nat.le_of_ble_eq_true rfl) hP hS hl.1 dX10_allVisited_20 h (fun u hu => m_X10_visited l Γ is_183 l2 g u hu) (fun u2 H locs h hP hS => ?_) rfl
    refine lv_ior hx hb dX10_allVisited_23 ?_
    refine lv_topi (fun x3 ex3 => ?_)
    replace h := gLetI ex3 h
    refine lv_istore_n (lv' := [(1, .int x3), (0, .ref (gB Γ + 174)), (2, .int l2)]) hx hb dX10_allVisited_24 rfl hl (by decide) rfl (fun ls hl => ?_)
    obtain ⟨x4, ex4⟩ : ∃ y : Int32, y = l2 + (1 : Int32) := ⟨_, rfl⟩
    replace h := gLetI ex4 h
    refine lv_iinc (v := x4) (lv' := [(2, .int x4), (1, .int x3), (0, .ref (gB Γ + 174))]) hx hb dX10_allVisited_25 hl (k := 2) rfl (by rw [ex4]; rfl) (by decide) rfl (fun ls hl => ?_)
    refine lv_goto (tgt := 4) hx hb dX10_allVisited_28 (by decide) ?_
    exact hF4 _ _ _ _ _ _ h hP hS (lv_sub hl [2, 1, 0] rfl)
set_option maxHeartbeats 2000000 in
set_option maxRecDepth 20000 in
theorem bk_X10_allVisited_4 {p : Program} {l : Launch} {e : Env} {s : State} {m : MethodId} {args : Array Value} {below : List Frame} {meth : Method} {c : Code} {Γ : gE} (C0 : gCx p s m args meth c Γ RX10 cX10_allVisited 3 (some .int))   {z : Int32 × gG}   : ∀ (n : Nat) (l1 : Int32) (l2 : Int32) (g : gG) (H : Heap) (locs : List Loc) (ls : Array Slot), fb_X10_allVisited_4 n l1 l2 g = some z → va_P (gD Γ) gcls (lay Γ g) H → va_S (gA Γ) s.heap H locs → lv_has ls 3 [(0, .ref (gB Γ + 174)), (1, .int l1), (2, .int l2)] → W p l e (gRm 2 44) s m args below meth c H locs 0 0 (MQ below (gQi Γ z) args s 0 0 (gA Γ)) (F0 m 4 ls []) := by
  intro n
  induction n with
  | zero => intro l1 l2 g H locs ls h hP hS hl; cases h
  | succ n ih => intro l1 l2 g H locs ls h hP hS hl; exact bs_X10_allVisited_4 C0  ih h hP hS hl
set_option maxHeartbeats 2000000 in
set_option maxRecDepth 20000 in
theorem m_X10_allVisited (l : Launch) (Γ : gE)    (g : gG) (z : Int32 × gG) (h : f_X10_allVisited g = some z) : gMi l yX10_allVisited cX10_allVisited 3 (some .int) 2 44 Γ [.ref (gB Γ + 174)] g z := by
  unfold f_X10_allVisited at h
  refine gStart (own := RX10) (by decide +kernel) rfl (Nat.le_of_ble_eq_true rfl) ?_
  intro p e s m below meth c C0 ls hl hP
  have hS : va_S (gA Γ) s.heap s.heap [] := va_S.rf
  have hl : lv_has ls 3 [(0, .ref (gB Γ + 174))] := hl
  obtain ⟨hx, hb, hml, hr, hown, hts, hK, hlk, hX⟩ := id C0
  refine lv_iconst (v := 0) hx hb dX10_allVisited_0 (by decide) ?_
  refine lv_istore_n (lv' := [(1, .int (0 : Int32)), (0, .ref (gB Γ + 174))]) hx hb dX10_allVisited_1 rfl hl (by decide) rfl (fun ls hl => ?_)
  refine lv_iconst (v := 0) hx hb dX10_allVisited_2 (by decide) ?_
  refine lv_istore_n (lv' := [(2, .int (0 : Int32)), (1, .int (0 : Int32)), (0, .ref (gB Γ + 174))]) hx hb dX10_allVisited_3 rfl hl (by decide) rfl (fun ls hl => ?_)
  exact bk_X10_allVisited_4 C0  gFuel _ _ _ _ _ _ h hP hS (lv_sub hl [2, 1, 0] rfl)
set_option maxHeartbeats 2000000 in
set_option maxRecDepth 20000 in
theorem bs_X10_about_93 {p : Program} {l : Launch} {e : Env} {s : State} {m : MethodId} {args : Array Value} {below : List Frame} {meth : Method} {c : Code} {Γ : gE} (C0 : gCx p s m args meth c Γ RX10 cX10_about 6 (some .int))   {z : Int32 × gG} {F36 : Int32 → Int32 → Int32 → Int32 → Int32 → gG → Option (Int32 × gG)} {l1 : Int32} {l2 : Int32} {l4 : Int32} {l5 : Int32} {s0 : Int32} {g : gG} {H : Heap} {locs : List Loc} {ls : Array Slot} (hF36 : ∀ (l1 : Int32) (l2 : Int32) (l3 : Int32) (l4 : Int32) (l5 : Int32) (g : gG) (H : Heap) (locs : List Loc) (ls : Array Slot), F36 l1 l2 l3 l4 l5 g = some z → va_P (gD Γ) gcls (lay Γ g) H → va_S (gA Γ) s.heap H locs → lv_has ls 6 [(0, .ref (gB Γ + 174)), (1, .int l1), (2, .int l2), (3, .int l3), (4, .int l4), (5, .int l5)] → W p l e (gRm 4 87) s m args below meth c H locs 0 0 (MQ below (gQi Γ z) args s 0 0 (gA Γ)) (F0 m 36 ls [])) (h : fs_X10_about_93 F36 l1 l2 l4 l5 s0 g = some z) (hP : va_P (gD Γ) gcls (lay Γ g) H) (hS : va_S (gA Γ) s.heap H locs) (hl : lv_has ls 6 [(0, .ref (gB Γ + 174)), (1, .int l1), (2, .int l2), (4, .int l4), (5, .int l5)]) : W p l e (gRm 4 87) s m args below meth c H locs 0 0 (MQ below (gQi Γ z) args s 0 0 (gA Γ)) (F0 m 93 ls [.int s0]) := by
  unfold fs_X10_about_93 at h
  obtain ⟨hx, hb, hml, hr, hown, hts, hK, hlk, hX⟩ := id C0
  refine lv_istore_n (lv' := [(3, .int s0), (0, .ref (gB Γ + 174)), (1, .int l1), (2, .int l2), (4, .int l4), (5, .int l5)]) hx hb dX10_about_93 rfl hl (by decide) rfl (fun ls hl => ?_)
  refine lv_iload hx hb dX10_about_94 (lv_at hl 4 rfl) ?_
  refine lv_aload_n hx hb dX10_about_96 rfl (lv_at hl 1 rfl) ?_
  refine gf_10_13 hx hb hown hts hK hP wf_X10_35 dX10_about_97 ?_
  refine lv_iload hx hb dX10_about_100 (lv_at hl 5 rfl) ?_
  refine lv_iconst (v := 2) hx hb dX10_about_102 (by decide) ?_
  refine gCSi (rest := [.ref (gB Γ + 183), .int l4]) C0 cal_X10_cell wl_X10_101 wt_X10_cell ⟨Nat.le_of_ble_eq_true rfl, Nat.le_of_ble_eq_true rfl⟩ ⟨Nat.le_of_ble_eq_true rfl, Nat.le_of_ble_eq_true rfl⟩ [.int l5, .int (2 : Int32)] rfl (Nat.le_of_ble_eq_true rfl) hP hS hl.1 dX10_about_103 h (fun u hu => m_X10_cell l Γ l5 (2 : Int32) g u hu) (fun u1 H locs h hP hS => ?_) rfl
  refine gIld hx hb hK hP is_183 dX10_about_106 h (fun h => ?_)
  refine lv_iadd hx hb dX10_about_107 ?_
  refine lv_topi (fun x2 ex2 => ?_)
  replace h := gLetI ex2 h
  refine lv_istore (lv' := [(4, .int x2), (3, .int s0), (0, .ref (gB Γ + 174)), (1, .int l1), (2, .int l2), (5, .int l5)]) hx hb dX10_about_108 hl (by decide) rfl (fun ls hl => ?_)
  obtain ⟨x3, ex3⟩ : ∃ y : Int32, y = l5 + (1 : Int32) := ⟨_, rfl⟩
  replace h := gLetI ex3 h
  refine lv_iinc (v := x3) (lv' := [(5, .int x3), (4, .int x2), (3, .int s0), (0, .ref (gB Γ + 174)), (1, .int l1), (2, .int l2)]) hx hb dX10_about_110 hl (k := 5) rfl (by rw [ex3]; rfl) (by decide) rfl (fun ls hl => ?_)
  refine lv_goto (tgt := 36) hx hb dX10_about_113 (by decide) ?_
  exact hF36 _ _ _ _ _ _ _ _ _ h hP hS (lv_sub hl [3, 4, 5, 2, 1, 0] rfl)
set_option maxHeartbeats 2000000 in
set_option maxRecDepth 20000 in
theorem bs_X10_about_65 {p : Program} {l : Launch} {e : Env} {s : State} {m : MethodId} {args : Array Value} {below : List Frame} {meth : Method} {c : Code} {Γ : gE} (C0 : gCx p s m args meth c Γ RX10 cX10_about 6 (some .int))   {z : Int32 × gG} {F36 : Int32 → Int32 → Int32 → Int32 → Int32 → gG → Option (Int32 × gG)} {l1 : Int32} {l3 : Int32} {l4 : Int32} {l5 : Int32} {s0 : Int32} {s1 : Int32} {g : gG} {H : Heap} {locs : List Loc} {ls : Array Slot} (hF36 : ∀ (l1 : Int32) (l2 : Int32) (l3 : Int32) (l4 : Int32) (l5 : Int32) (g : gG) (H : Heap) (locs : List Loc) (ls : Array Slot), F36 l1 l2 l3 l4 l5 g = some z → va_P (gD Γ) gcls (lay Γ g) H → va_S (gA Γ) s.heap H locs → lv_has ls 6 [(0, .ref (gB Γ + 174)), (1, .int l1), (2, .int l2), (3, .int l3), (4, .int l4), (5, .int l5)] → W p l e (gRm 4 87) s m args below meth c H locs 0 0 (MQ below (gQi Γ z) args s 0 0 (gA Γ)) (F0 m 36 ls [])) (h : fs_X10_about_65 F36 l1 l3 l4 l5 s0 s1 g = some z) (hP : va_P (gD Γ) gcls (lay Γ g) H) (hS : va_S (gA Γ) s.heap H locs) (hl : lv_has ls 6 [(0, .ref (gB Γ + 174)), (1, .int l1), (3, .int l3), (4, .int l4), (5, .int l5)]) : W p l e (gRm 4 87) s m args below meth c H locs 0 0 (MQ below (gQi Γ z) args s 0 0 (gA Γ)) (F0 m 65 ls [.int s1, .int s0]) := by
  unfold fs_X10_about_65 at h
  obtain ⟨hx, hb, hml, hr, hown, hts, hK, hlk, hX⟩ := id C0
  refine lv_iadd hx hb dX10_about_65 ?_
  refine lv_topi (fun x1 ex1 => ?_)
  replace h := gLetI ex1 h
  refine lv_istore_n (lv' := [(2, .int x1), (0, .ref (gB Γ + 174)), (1, .int l1), (3, .int l3), (4, .int l4), (5, .int l5)]) hx hb dX10_about_66 rfl hl (by decide) rfl (fun ls hl => ?_)
  refine lv_aload_n hx hb dX10_about_67 rfl (lv_at hl 1 rfl) ?_
  refine gf_10_13 hx hb hown hts hK hP wf_X10_35 dX10_about_68 ?_
  refine lv_iload hx hb dX10_about_71 (lv_at hl 5 rfl) ?_
  refine gCSi (rest := []) C0 cal_X10_score wl_X10_208 wt_X10_score ⟨Nat.le_of_ble_eq_true rfl, Nat.le_of_ble_eq_true rfl⟩ ⟨Nat.le_of_ble_eq_true rfl, Nat.le_of_ble_eq_true rfl⟩ [.ref (gB Γ + 183), .int l5] rfl (Nat.le_of_ble_eq_true rfl) hP hS hl.1 dX10_about_73 h (fun u hu => m_X10_score l Γ is_183 l5 g u hu) (fun u2 H locs h hP hS => ?_) rfl
  refine lv_iload_n hx hb dX10_about_76 rfl (lv_at hl 3 rfl) ?_
  refine lv_icmp_le (tgt := 92) hx hb dX10_about_77 (by decide) (fun c3 => ?_) (fun c3 => ?_)
  · replace h := gpos c3 h
    refine lv_iload_n hx hb dX10_about_92 rfl (lv_at hl 3 rfl) ?_
    exact bs_X10_about_93 C0 hF36 h hP hS (lv_sub hl [1, 2, 0, 4, 5] rfl)
  · replace h := gneg c3 h
    refine lv_aload_n hx hb dX10_about_80 rfl (lv_at hl 1 rfl) ?_
    refine gf_10_13 hx hb hown hts hK hP wf_X10_35 dX10_about_81 ?_
    refine lv_iload hx hb dX10_about_84 (lv_at hl 5 rfl) ?_
    refine gCSi (rest := []) C0 cal_X10_score wl_X10_208 wt_X10_score ⟨Nat.le_of_ble_eq_true rfl, Nat.le_of_ble_eq_true rfl⟩ ⟨Nat.le_of_ble_eq_true rfl, Nat.le_of_ble_eq_true rfl⟩ [.ref (gB Γ + 183), .int l5] rfl (Nat.le_of_ble_eq_true rfl) hP hS hl.1 dX10_about_86 h (fun u hu => m_X10_score l Γ is_183 l5 u2.2 u hu) (fun u4 H locs h hP hS => ?_) rfl
    refine lv_goto (tgt := 93) hx hb dX10_about_89 (by decide) ?_
    exact bs_X10_about_93 C0 hF36 h hP hS (lv_sub hl [1, 2, 0, 4, 5] rfl)
set_option maxHeartbeats 2000000 in
set_option maxRecDepth 20000 in
theorem bs_X10_about_36 {p : Program} {l : Launch} {e : Env} {s : State} {m : MethodId} {args : Array Value} {below : List Frame} {meth : Method} {c : Code} {Γ : gE} (C0 : gCx p s m args meth c Γ RX10 cX10_about 6 (some .int))   {z : Int32 × gG} {F36 : Int32 → Int32 → Int32 → Int32 → Int32 → gG → Option (Int32 × gG)} {l1 : Int32} {l2 : Int32} {l3 : Int32} {l4 : Int32} {l5 : Int32} {g : gG} {H : Heap} {locs : List Loc} {ls : Array Slot} (hF36 : ∀ (l1 : Int32) (l2 : Int32) (l3 : Int32) (l4 : Int32) (l5 : Int32) (g : gG) (H : Heap) (locs : List Loc) (ls : Array Slot), F36 l1 l2 l3 l4 l5 g = some z → va_P (gD Γ) gcls (lay Γ g) H → va_S (gA Γ) s.heap H locs → lv_has ls 6 [(0, .ref (gB Γ + 174)), (1, .int l1), (2, .int l2), (3, .int l3), (4, .int l4), (5, .int l5)] → W p l e (gRm 4 87) s m args below meth c H locs 0 0 (MQ below (gQi Γ z) args s 0 0 (gA Γ)) (F0 m 36 ls [])) (h : fs_X10_about_36 F36 l1 l2 l3 l4 l5 g = some z) (hP : va_P (gD Γ) gcls (lay Γ g) H) (hS : va_S (gA Γ) s.heap H locs) (hl : lv_has ls 6 [(0, .ref (gB Γ + 174)), (1, .int l1), (2, .int l2), (3, .int l3), (4, .int l4), (5, .int l5)]) : W p l e (gRm 4 87) s m args below meth c H locs 0 0 (MQ below (gQi Γ z) args s 0 0 (gA Γ)) (F0 m 36 ls []) := by
  unfold fs_X10_about_36 at h
  obtain ⟨hx, hb, hml, hr, hown, hts, hK, hlk, hX⟩ := id C0
  refine lv_iload hx hb dX10_about_36 (lv_at hl 5 rfl) ?_
  refine lv_aload_n hx hb dX10_about_38 rfl (lv_at hl 0 rfl) ?_
  refine gf_10_13 hx hb hown hts hK hP wf_X10_35 dX10_about_39 ?_
  refine lv_iconst (v := 1) hx hb dX10_about_42 (by decide) ?_
  refine gIld hx hb hK hP is_183 dX10_about_43 h (fun h => ?_)
  refine lv_icmp_ge (tgt := 116) hx hb dX10_about_44 (by decide) (fun c1 => ?_) (fun c1 => ?_)
  · replace h := gpos c1 h
    refine lv_iload_n hx hb dX10_about_116 rfl (lv_at hl 1 rfl) ?_
    refine lv_iconst (v := 2) hx hb dX10_about_117 (by decide) ?_
    refine lv_icmp_ge (tgt := 130) hx hb dX10_about_118 (by decide) (fun c2 => ?_) (fun c2 => ?_)
    · replace h := gpos c2 h
      refine lv_iload_n hx hb dX10_about_130 rfl (lv_at hl 1 rfl) ?_
      refine lv_iconst (v := 2) hx hb dX10_about_131 (by decide) ?_
      refine lv_icmp_ne (tgt := 139) hx hb dX10_about_132 (by decide) (fun c3 => ?_) (fun c3 => ?_)
      · replace h := gneg c3 h
        refine lv_iload_n hx hb dX10_about_139 rfl (lv_at hl 1 rfl) ?_
        refine lv_iconst (v := 3) hx hb dX10_about_140 (by decide) ?_
        refine lv_icmp_ne (tgt := 148) hx hb dX10_about_141 (by decide) (fun c4 => ?_) (fun c4 => ?_)
        · replace h := gneg c4 h
          refine lv_iload_n hx hb dX10_about_148 rfl (lv_at hl 1 rfl) ?_
          refine lv_iconst (v := 4) hx hb dX10_about_149 (by decide) ?_
          refine lv_icmp_ne (tgt := 163) hx hb dX10_about_150 (by decide) (fun c5 => ?_) (fun c5 => ?_)
          · replace h := gneg c5 h
            refine lv_iload hx hb dX10_about_163 (lv_at hl 4 rfl) ?_
            exact giret hx hb hr hlk hP hS dX10_about_165 h
          · replace h := gpos c5 h
            refine lv_aload_n hx hb dX10_about_153 rfl (lv_at hl 0 rfl) ?_
            refine gCVi (rest := []) C0 cal_X10_allVisited wl_X10_211 wi_X10_allVisited ws_X10_allVisited ⟨Nat.le_of_ble_eq_true rfl, Nat.le_of_ble_eq_true rfl⟩ ⟨Nat.le_of_ble_eq_true rfl, Nat.le_of_ble_eq_true rfl⟩ grv_10 [] rfl (Nat.le_of_ble_eq_true rfl) hP hS hl.1 dX10_about_154 h (fun u hu => m_X10_allVisited l Γ g u hu) (fun u6 H locs h hP hS => ?_) rfl
            refine gCSi (rest := []) C0 cal_X10_count wl_X10_214 wt_X10_count ⟨Nat.le_of_ble_eq_true rfl, Nat.le_of_ble_eq_true rfl⟩ ⟨Nat.le_of_ble_eq_true rfl, Nat.le_of_ble_eq_true rfl⟩ [.int u6.1] rfl (Nat.le_of_ble_eq_true rfl) hP hS hl.1 dX10_about_157 h (fun u hu => m_X10_count l Γ u6.1 u6.2 u hu) (fun u7 H locs h hP hS => ?_) rfl
            refine lv_goto (tgt := 165) hx hb dX10_about_160 (by decide) ?_
            exact giret hx hb hr hlk hP hS dX10_about_165 h
        · replace h := gpos c4 h
          refine lv_iload_n hx hb dX10_about_144 rfl (lv_at hl 3 rfl) ?_
          refine lv_goto (tgt := 165) hx hb dX10_about_145 (by decide) ?_
          exact giret hx hb hr hlk hP hS dX10_about_165 h
      · replace h := gpos c3 h
        refine lv_iload_n hx hb dX10_about_135 rfl (lv_at hl 2 rfl) ?_
        refine lv_goto (tgt := 165) hx hb dX10_about_136 (by decide) ?_
        exact giret hx hb hr hlk hP hS dX10_about_165 h
    · replace h := gneg c2 h
      refine lv_aload_n hx hb dX10_about_121 rfl (lv_at hl 0 rfl) ?_
      refine gf_10_13 hx hb hown hts hK hP wf_X10_35 dX10_about_122 ?_
      refine lv_iload_n hx hb dX10_about_125 rfl (lv_at hl 1 rfl) ?_
      refine gIld hx hb hK hP is_183 dX10_about_126 h (fun h => ?_)
      refine lv_goto (tgt := 165) hx hb dX10_about_127 (by decide) ?_
      exact giret hx hb hr hlk hP hS dX10_about_165 h
  · replace h := gneg c1 h
    refine lv_iload_n hx hb dX10_about_47 rfl (lv_at hl 2 rfl) ?_
    refine lv_aload_n hx hb dX10_about_48 rfl (lv_at hl 0 rfl) ?_
    refine gf_10_13 hx hb hown hts hK hP wf_X10_35 dX10_about_49 ?_
    refine lv_iload hx hb dX10_about_52 (lv_at hl 5 rfl) ?_
    refine gCSi (rest := [.int l2]) C0 cal_X10_isThere wl_X10_108 wt_X10_isThere ⟨Nat.le_of_ble_eq_true rfl, Nat.le_of_ble_eq_true rfl⟩ ⟨Nat.le_of_ble_eq_true rfl, Nat.le_of_ble_eq_true rfl⟩ [.ref (gB Γ + 183), .int l5] rfl (Nat.le_of_ble_eq_true rfl) hP hS hl.1 dX10_about_54 h (fun u hu => m_X10_isThere l Γ is_183 l5 g u hu) (fun u8 H locs h hP hS => ?_) rfl
    refine lv_if_eq (tgt := 64) hx hb dX10_about_57 (by decide) (fun c9 => ?_) (fun c9 => ?_)
    · replace h := gpos c9 h
      refine lv_iconst (v := 0) hx hb dX10_about_64 (by decide) ?_
      exact bs_X10_about_65 C0 hF36 h hP hS (lv_sub hl [0, 1, 3, 4, 5] rfl)
    · replace h := gneg c9 h
      refine lv_iconst (v := 1) hx hb dX10_about_60 (by decide) ?_
      refine lv_goto (tgt := 65) hx hb dX10_about_61 (by decide) ?_
      exact bs_X10_about_65 C0 hF36 h hP hS (lv_sub hl [0, 1, 3, 4, 5] rfl)
set_option maxHeartbeats 2000000 in
set_option maxRecDepth 20000 in
theorem bk_X10_about_36 {p : Program} {l : Launch} {e : Env} {s : State} {m : MethodId} {args : Array Value} {below : List Frame} {meth : Method} {c : Code} {Γ : gE} (C0 : gCx p s m args meth c Γ RX10 cX10_about 6 (some .int))   {z : Int32 × gG}   : ∀ (n : Nat) (l1 : Int32) (l2 : Int32) (l3 : Int32) (l4 : Int32) (l5 : Int32) (g : gG) (H : Heap) (locs : List Loc) (ls : Array Slot), fb_X10_about_36 n l1 l2 l3 l4 l5 g = some z → va_P (gD Γ) gcls (lay Γ g) H → va_S (gA Γ) s.heap H locs → lv_has ls 6 [(0, .ref (gB Γ + 174)), (1, .int l1), (2, .int l2), (3, .int l3), (4, .int l4), (5, .int l5)] → W p l e (gRm 4 87) s m args below meth c H locs 0 0 (MQ below (gQi Γ z) args s 0 0 (gA Γ)) (F0 m 36 ls []) := by
  intro n
  induction n with
  | zero => intro l1 l2 l3 l4 l5 g H locs ls h hP hS hl; cases h
  | succ n ih => intro l1 l2 l3 l4 l5 g H locs ls h hP hS hl; exact bs_X10_about_36 C0  ih h hP hS hl
set_option maxHeartbeats 2000000 in
set_option maxRecDepth 20000 in
theorem bs_X10_about_18 {p : Program} {l : Launch} {e : Env} {s : State} {m : MethodId} {args : Array Value} {below : List Frame} {meth : Method} {c : Code} {Γ : gE} (C0 : gCx p s m args meth c Γ RX10 cX10_about 6 (some .int))   {z : Int32 × gG}  {l1 : Int32} {s1 : Int32} {g : gG} {H : Heap} {locs : List Loc} {ls : Array Slot}  (h : fs_X10_about_18 l1 s1 g = some z) (hP : va_P (gD Γ) gcls (lay Γ g) H) (hS : va_S (gA Γ) s.heap H locs) (hl : lv_has ls 6 [(0, .ref (gB Γ + 174)), (1, .int l1)]) : W p l e (gRm 4 87) s m args below meth c H locs 0 0 (MQ below (gQi Γ z) args s 0 0 (gA Γ)) (F0 m 18 ls [.int s1, .ref (gB Γ + 174)]) := by
  unfold fs_X10_about_18 at h
  obtain ⟨hx, hb, hml, hr, hown, hts, hK, hlk, hX⟩ := id C0
  refine gCVi (rest := []) C0 cal_X10_refused wl_X10_146 wi_X10_refused ws_X10_refused ⟨Nat.le_of_ble_eq_true rfl, Nat.le_of_ble_eq_true rfl⟩ ⟨Nat.le_of_ble_eq_true rfl, Nat.le_of_ble_eq_true rfl⟩ grv_10 [.int s1] rfl (Nat.le_of_ble_eq_true rfl) hP hS hl.1 dX10_about_18 h (fun u hu => m_X10_refused l Γ s1 g u hu) (fun u1 H locs h hP hS => ?_) rfl
  refine lv_if_eq (tgt := 26) hx hb dX10_about_21 (by decide) (fun c2 => ?_) (fun c2 => ?_)
  · replace h := gpos c2 h
    refine lv_iconst (v := 0) hx hb dX10_about_26 (by decide) ?_
    refine lv_istore_n (lv' := [(2, .int (0 : Int32)), (0, .ref (gB Γ + 174)), (1, .int l1)]) hx hb dX10_about_27 rfl hl (by decide) rfl (fun ls hl => ?_)
    refine lv_iconst (v := 0) hx hb dX10_about_28 (by decide) ?_
    refine lv_istore_n (lv' := [(3, .int (0 : Int32)), (2, .int (0 : Int32)), (0, .ref (gB Γ + 174)), (1, .int l1)]) hx hb dX10_about_29 rfl hl (by decide) rfl (fun ls hl => ?_)
    refine lv_iconst (v := 0) hx hb dX10_about_30 (by decide) ?_
    refine lv_istore (lv' := [(4, .int (0 : Int32)), (3, .int (0 : Int32)), (2, .int (0 : Int32)), (0, .ref (gB Γ + 174)), (1, .int l1)]) hx hb dX10_about_31 hl (by decide) rfl (fun ls hl => ?_)
    refine lv_iconst (v := 0) hx hb dX10_about_33 (by decide) ?_
    refine lv_istore (lv' := [(5, .int (0 : Int32)), (4, .int (0 : Int32)), (3, .int (0 : Int32)), (2, .int (0 : Int32)), (0, .ref (gB Γ + 174)), (1, .int l1)]) hx hb dX10_about_34 hl (by decide) rfl (fun ls hl => ?_)
    exact bk_X10_about_36 C0  gFuel _ _ _ _ _ _ _ _ _ h hP hS (lv_sub hl [4, 5, 3, 2, 1, 0] rfl)
  · replace h := gneg c2 h
    refine lv_iconst (v := 0) hx hb dX10_about_24 (by decide) ?_
    exact giret hx hb hr hlk hP hS dX10_about_25 h
set_option maxHeartbeats 2000000 in
set_option maxRecDepth 20000 in
theorem m_X10_about (l : Launch) (Γ : gE)   (a1 : Int32) (g : gG) (z : Int32 × gG) (h : f_X10_about a1 g = some z) : gMi l yX10_about cX10_about 6 (some .int) 4 87 Γ [.ref (gB Γ + 174), .int a1] g z := by
  unfold f_X10_about at h
  refine gStart (own := RX10) (by decide +kernel) rfl (Nat.le_of_ble_eq_true rfl) ?_
  intro p e s m below meth c C0 ls hl hP
  have hS : va_S (gA Γ) s.heap s.heap [] := va_S.rf
  have hl : lv_has ls 6 [(0, .ref (gB Γ + 174)), (1, .int a1)] := hl
  obtain ⟨hx, hb, hml, hr, hown, hts, hK, hlk, hX⟩ := id C0
  refine lv_aload_n hx hb dX10_about_0 rfl (lv_at hl 0 rfl) ?_
  refine lv_iload_n hx hb dX10_about_1 rfl (lv_at hl 1 rfl) ?_
  refine lv_i2l hx hb dX10_about_2 rfl ?_
  refine lv_lconst (v := 0) hx hb dX10_about_3 (by decide) ?_
  refine lv_ldc2 (v := 5) hx hb hown (hts _ wkl_X10_206) dX10_about_4 ?_
  refine gCSi (rest := [.ref (gB Γ + 174)]) C0 cal_X10_in wl_X10_139 wt_X10_in ⟨Nat.le_of_ble_eq_true rfl, Nat.le_of_ble_eq_true rfl⟩ ⟨Nat.le_of_ble_eq_true rfl, Nat.le_of_ble_eq_true rfl⟩ [.long a1.toInt64, .long (0 : Int64), .long (5 : Int64)] rfl (Nat.le_of_ble_eq_true rfl) hP hS hl.1 dX10_about_7 h (fun u hu => m_X10_in l Γ a1.toInt64 (0 : Int64) (5 : Int64) g u hu) (fun u1 H locs h hP hS => ?_) rfl
  refine lv_if_eq (tgt := 17) hx hb dX10_about_10 (by decide) (fun c2 => ?_) (fun c2 => ?_)
  · replace h := gpos c2 h
    refine lv_iconst (v := 1) hx hb dX10_about_17 (by decide) ?_
    exact bs_X10_about_18 C0  h hP hS (lv_sub hl [0, 1] rfl)
  · replace h := gneg c2 h
    refine lv_iconst (v := 0) hx hb dX10_about_13 (by decide) ?_
    refine lv_goto (tgt := 18) hx hb dX10_about_14 (by decide) ?_
    exact bs_X10_about_18 C0  h hP hS (lv_sub hl [0, 1] rfl)
set_option maxHeartbeats 2000000 in
set_option maxRecDepth 20000 in
theorem m_X10_isPlace (l : Launch) (Γ : gE)   (a1 : Int32) (g : gG) (z : Int32 × gG) (h : f_X10_isPlace a1 g = some z) : gMi l yX10_isPlace cX10_isPlace 2 (some .boolean) 1 25 Γ [.ref (gB Γ + 174), .int a1] g z := by
  unfold f_X10_isPlace at h
  refine gStart (own := RX10) (by decide +kernel) rfl (Nat.le_of_ble_eq_true rfl) ?_
  intro p e s m below meth c C0 ls hl hP
  have hS : va_S (gA Γ) s.heap s.heap [] := va_S.rf
  have hl : lv_has ls 2 [(0, .ref (gB Γ + 174)), (1, .int a1)] := hl
  obtain ⟨hx, hb, hml, hr, hown, hts, hK, hlk, hX⟩ := id C0
  refine lv_iload_n hx hb dX10_isPlace_0 rfl (lv_at hl 1 rfl) ?_
  refine lv_i2l hx hb dX10_isPlace_1 rfl ?_
  refine lv_lconst (v := 0) hx hb dX10_isPlace_2 (by decide) ?_
  refine lv_aload_n hx hb dX10_isPlace_3 rfl (lv_at hl 0 rfl) ?_
  refine gf_10_13 hx hb hown hts hK hP wf_X10_35 dX10_isPlace_4 ?_
  refine lv_iconst (v := 0) hx hb dX10_isPlace_7 (by decide) ?_
  refine gIld hx hb hK hP is_183 dX10_isPlace_8 h (fun h => ?_)
  refine lv_iconst (v := 1) hx hb dX10_isPlace_9 (by decide) ?_
  refine lv_isub hx hb dX10_isPlace_10 ?_
  refine lv_i2l hx hb dX10_isPlace_11 rfl ?_
  refine gCSi (rest := []) C0 cal_X10_in wl_X10_139 wt_X10_in ⟨Nat.le_of_ble_eq_true rfl, Nat.le_of_ble_eq_true rfl⟩ ⟨Nat.le_of_ble_eq_true rfl, Nat.le_of_ble_eq_true rfl⟩ [.long a1.toInt64, .long (0 : Int64), .long (((g.1 183 (0 : Int32).toNatClampNeg) - (1 : Int32)).toInt64)] rfl (Nat.le_of_ble_eq_true rfl) hP hS hl.1 dX10_isPlace_12 h (fun u hu => m_X10_in l Γ a1.toInt64 (0 : Int64) (((g.1 183 (0 : Int32).toNatClampNeg) - (1 : Int32)).toInt64) g u hu) (fun u1 H locs h hP hS => ?_) rfl
  exact gzret hx hb hr hlk hP hS dX10_isPlace_15 h
set_option maxHeartbeats 2000000 in
set_option maxRecDepth 20000 in
theorem m_X10_isTeam (l : Launch) (Γ : gE)   (a1 : Int32) (g : gG) (z : Int32 × gG) (h : f_X10_isTeam a1 g = some z) : gMi l yX10_isTeam cX10_isTeam 2 (some .boolean) 1 25 Γ [.ref (gB Γ + 174), .int a1] g z := by
  unfold f_X10_isTeam at h
  refine gStart (own := RX10) (by decide +kernel) rfl (Nat.le_of_ble_eq_true rfl) ?_
  intro p e s m below meth c C0 ls hl hP
  have hS : va_S (gA Γ) s.heap s.heap [] := va_S.rf
  have hl : lv_has ls 2 [(0, .ref (gB Γ + 174)), (1, .int a1)] := hl
  obtain ⟨hx, hb, hml, hr, hown, hts, hK, hlk, hX⟩ := id C0
  refine lv_iload_n hx hb dX10_isTeam_0 rfl (lv_at hl 1 rfl) ?_
  refine lv_i2l hx hb dX10_isTeam_1 rfl ?_
  refine lv_lconst (v := 0) hx hb dX10_isTeam_2 (by decide) ?_
  refine lv_aload_n hx hb dX10_isTeam_3 rfl (lv_at hl 0 rfl) ?_
  refine gf_10_13 hx hb hown hts hK hP wf_X10_35 dX10_isTeam_4 ?_
  refine lv_iconst (v := 1) hx hb dX10_isTeam_7 (by decide) ?_
  refine gIld hx hb hK hP is_183 dX10_isTeam_8 h (fun h => ?_)
  refine lv_iconst (v := 1) hx hb dX10_isTeam_9 (by decide) ?_
  refine lv_isub hx hb dX10_isTeam_10 ?_
  refine lv_i2l hx hb dX10_isTeam_11 rfl ?_
  refine gCSi (rest := []) C0 cal_X10_in wl_X10_139 wt_X10_in ⟨Nat.le_of_ble_eq_true rfl, Nat.le_of_ble_eq_true rfl⟩ ⟨Nat.le_of_ble_eq_true rfl, Nat.le_of_ble_eq_true rfl⟩ [.long a1.toInt64, .long (0 : Int64), .long (((g.1 183 (1 : Int32).toNatClampNeg) - (1 : Int32)).toInt64)] rfl (Nat.le_of_ble_eq_true rfl) hP hS hl.1 dX10_isTeam_12 h (fun u hu => m_X10_in l Γ a1.toInt64 (0 : Int64) (((g.1 183 (1 : Int32).toNatClampNeg) - (1 : Int32)).toInt64) g u hu) (fun u1 H locs h hP hS => ?_) rfl
  exact gzret hx hb hr hlk hP hS dX10_isTeam_15 h
set_option maxHeartbeats 2000000 in
set_option maxRecDepth 20000 in
theorem bs_X10_place_94 {p : Program} {l : Launch} {e : Env} {s : State} {m : MethodId} {args : Array Value} {below : List Frame} {meth : Method} {c : Code} {Γ : gE} (C0 : gCx p s m args meth c Γ RX10 cX10_place 5 (some .int))   {z : Int32 × gG} {F61 : Int32 → Int32 → Int32 → Int32 → gG → Option (Int32 × gG)} {l1 : Int32} {l2 : Int32} {l4 : Int32} {s0 : Int32} {s1 : Int32} {g : gG} {H : Heap} {locs : List Loc} {ls : Array Slot} (hF61 : ∀ (l1 : Int32) (l2 : Int32) (l3 : Int32) (l4 : Int32) (g : gG) (H : Heap) (locs : List Loc) (ls : Array Slot), F61 l1 l2 l3 l4 g = some z → va_P (gD Γ) gcls (lay Γ g) H → va_S (gA Γ) s.heap H locs → lv_has ls 5 [(0, .ref (gB Γ + 174)), (1, .int l1), (2, .int l2), (3, .int l3), (4, .int l4)] → W p l e (gRm 3 66) s m args below meth c H locs 0 0 (MQ below (gQi Γ z) args s 0 0 (gA Γ)) (F0 m 61 ls [])) (h : fs_X10_place_94 F61 l1 l2 l4 s0 s1 g = some z) (hP : va_P (gD Γ) gcls (lay Γ g) H) (hS : va_S (gA Γ) s.heap H locs) (hl : lv_has ls 5 [(0, .ref (gB Γ + 174)), (1, .int l1), (2, .int l2), (4, .int l4)]) : W p l e (gRm 3 66) s m args below meth c H locs 0 0 (MQ below (gQi Γ z) args s 0 0 (gA Γ)) (F0 m 94 ls [.int s1, .int s0]) := by
  unfold fs_X10_place_94 at h
  obtain ⟨hx, hb, hml, hr, hown, hts, hK, hlk, hX⟩ := id C0
  refine lv_iadd hx hb dX10_place_94 ?_
  refine lv_topi (fun x1 ex1 => ?_)
  replace h := gLetI ex1 h
  refine lv_istore_n (lv' := [(3, .int x1), (0, .ref (gB Γ + 174)), (1, .int l1), (2, .int l2), (4, .int l4)]) hx hb dX10_place_95 rfl hl (by decide) rfl (fun ls hl => ?_)
  obtain ⟨x2, ex2⟩ : ∃ y : Int32, y = l4 + (1 : Int32) := ⟨_, rfl⟩
  replace h := gLetI ex2 h
  refine lv_iinc (v := x2) (lv' := [(4, .int x2), (3, .int x1), (0, .ref (gB Γ + 174)), (1, .int l1), (2, .int l2)]) hx hb dX10_place_96 hl (k := 4) rfl (by rw [ex2]; rfl) (by decide) rfl (fun ls hl => ?_)
  refine lv_goto (tgt := 61) hx hb dX10_place_99 (by decide) ?_
  exact hF61 _ _ _ _ _ _ _ _ h hP hS (lv_sub hl [2, 3, 4, 1, 0] rfl)
set_option maxHeartbeats 2000000 in
set_option maxRecDepth 20000 in
theorem bs_X10_place_61 {p : Program} {l : Launch} {e : Env} {s : State} {m : MethodId} {args : Array Value} {below : List Frame} {meth : Method} {c : Code} {Γ : gE} (C0 : gCx p s m args meth c Γ RX10 cX10_place 5 (some .int))   {z : Int32 × gG} {F61 : Int32 → Int32 → Int32 → Int32 → gG → Option (Int32 × gG)} {l1 : Int32} {l2 : Int32} {l3 : Int32} {l4 : Int32} {g : gG} {H : Heap} {locs : List Loc} {ls : Array Slot} (hF61 : ∀ (l1 : Int32) (l2 : Int32) (l3 : Int32) (l4 : Int32) (g : gG) (H : Heap) (locs : List Loc) (ls : Array Slot), F61 l1 l2 l3 l4 g = some z → va_P (gD Γ) gcls (lay Γ g) H → va_S (gA Γ) s.heap H locs → lv_has ls 5 [(0, .ref (gB Γ + 174)), (1, .int l1), (2, .int l2), (3, .int l3), (4, .int l4)] → W p l e (gRm 3 66) s m args below meth c H locs 0 0 (MQ below (gQi Γ z) args s 0 0 (gA Γ)) (F0 m 61 ls [])) (h : fs_X10_place_61 F61 l1 l2 l3 l4 g = some z) (hP : va_P (gD Γ) gcls (lay Γ g) H) (hS : va_S (gA Γ) s.heap H locs) (hl : lv_has ls 5 [(0, .ref (gB Γ + 174)), (1, .int l1), (2, .int l2), (3, .int l3), (4, .int l4)]) : W p l e (gRm 3 66) s m args below meth c H locs 0 0 (MQ below (gQi Γ z) args s 0 0 (gA Γ)) (F0 m 61 ls []) := by
  unfold fs_X10_place_61 at h
  obtain ⟨hx, hb, hml, hr, hown, hts, hK, hlk, hX⟩ := id C0
  refine lv_iload hx hb dX10_place_61 (lv_at hl 4 rfl) ?_
  refine lv_aload_n hx hb dX10_place_63 rfl (lv_at hl 0 rfl) ?_
  refine gf_10_13 hx hb hown hts hK hP wf_X10_35 dX10_place_64 ?_
  refine lv_iconst (v := 1) hx hb dX10_place_67 (by decide) ?_
  refine gIld hx hb hK hP is_183 dX10_place_68 h (fun h => ?_)
  refine lv_icmp_ge (tgt := 102) hx hb dX10_place_69 (by decide) (fun c1 => ?_) (fun c1 => ?_)
  · replace h := gpos c1 h
    refine lv_iload_n hx hb dX10_place_102 rfl (lv_at hl 2 rfl) ?_
    refine lv_iconst (v := 2) hx hb dX10_place_103 (by decide) ?_
    refine lv_icmp_ne (tgt := 111) hx hb dX10_place_104 (by decide) (fun c2 => ?_) (fun c2 => ?_)
    · replace h := gneg c2 h
      refine lv_aload_n hx hb dX10_place_111 rfl (lv_at hl 0 rfl) ?_
      refine gf_10_13 hx hb hown hts hK hP wf_X10_35 dX10_place_112 ?_
      refine lv_iload_n hx hb dX10_place_115 rfl (lv_at hl 1 rfl) ?_
      refine gCSi (rest := []) C0 cal_X10_heldBy wl_X10_223 wt_X10_heldBy ⟨Nat.le_of_ble_eq_true rfl, Nat.le_of_ble_eq_true rfl⟩ ⟨Nat.le_of_ble_eq_true rfl, Nat.le_of_ble_eq_true rfl⟩ [.ref (gB Γ + 183), .int l1] rfl (Nat.le_of_ble_eq_true rfl) hP hS hl.1 dX10_place_116 h (fun u hu => m_X10_heldBy l Γ is_183 l1 g u hu) (fun u3 H locs h hP hS => ?_) rfl
      exact giret hx hb hr hlk hP hS dX10_place_119 h
    · replace h := gpos c2 h
      refine lv_iload_n hx hb dX10_place_107 rfl (lv_at hl 3 rfl) ?_
      refine lv_goto (tgt := 119) hx hb dX10_place_108 (by decide) ?_
      exact giret hx hb hr hlk hP hS dX10_place_119 h
  · replace h := gneg c1 h
    refine lv_iload_n hx hb dX10_place_72 rfl (lv_at hl 3 rfl) ?_
    refine lv_aload_n hx hb dX10_place_73 rfl (lv_at hl 0 rfl) ?_
    refine gf_10_13 hx hb hown hts hK hP wf_X10_35 dX10_place_74 ?_
    refine lv_iload hx hb dX10_place_77 (lv_at hl 4 rfl) ?_
    refine gCSi (rest := [.int l3]) C0 cal_X10_visited wl_X10_104 wt_X10_visited ⟨Nat.le_of_ble_eq_true rfl, Nat.le_of_ble_eq_true rfl⟩ ⟨Nat.le_of_ble_eq_true rfl, Nat.le_of_ble_eq_true rfl⟩ [.ref (gB Γ + 183), .int l4] rfl (Nat.le_of_ble_eq_true rfl) hP hS hl.1 dX10_place_79 h (fun u hu => m_X10_visited l Γ is_183 l4 g u hu) (fun u4 H locs h hP hS => ?_) rfl
    refine lv_iload_n hx hb dX10_place_82 rfl (lv_at hl 1 rfl) ?_
    refine gCSi (rest := [.int l3]) C0 cal_X10_has wl_X10_65 wt_X10_has ⟨Nat.le_of_ble_eq_true rfl, Nat.le_of_ble_eq_true rfl⟩ ⟨Nat.le_of_ble_eq_true rfl, Nat.le_of_ble_eq_true rfl⟩ [.int u4.1, .int l1] rfl (Nat.le_of_ble_eq_true rfl) hP hS hl.1 dX10_place_83 h (fun u hu => m_X10_has l Γ u4.1 l1 u4.2 u hu) (fun u5 H locs h hP hS => ?_) rfl
    refine lv_if_eq (tgt := 93) hx hb dX10_place_86 (by decide) (fun c6 => ?_) (fun c6 => ?_)
    · replace h := gpos c6 h
      refine lv_iconst (v := 0) hx hb dX10_place_93 (by decide) ?_
      exact bs_X10_place_94 C0 hF61 h hP hS (lv_sub hl [0, 1, 2, 4] rfl)
    · replace h := gneg c6 h
      refine lv_iconst (v := 1) hx hb dX10_place_89 (by decide) ?_
      refine lv_goto (tgt := 94) hx hb dX10_place_90 (by decide) ?_
      exact bs_X10_place_94 C0 hF61 h hP hS (lv_sub hl [0, 1, 2, 4] rfl)
set_option maxHeartbeats 2000000 in
set_option maxRecDepth 20000 in
theorem bk_X10_place_61 {p : Program} {l : Launch} {e : Env} {s : State} {m : MethodId} {args : Array Value} {below : List Frame} {meth : Method} {c : Code} {Γ : gE} (C0 : gCx p s m args meth c Γ RX10 cX10_place 5 (some .int))   {z : Int32 × gG}   : ∀ (n : Nat) (l1 : Int32) (l2 : Int32) (l3 : Int32) (l4 : Int32) (g : gG) (H : Heap) (locs : List Loc) (ls : Array Slot), fb_X10_place_61 n l1 l2 l3 l4 g = some z → va_P (gD Γ) gcls (lay Γ g) H → va_S (gA Γ) s.heap H locs → lv_has ls 5 [(0, .ref (gB Γ + 174)), (1, .int l1), (2, .int l2), (3, .int l3), (4, .int l4)] → W p l e (gRm 3 66) s m args below meth c H locs 0 0 (MQ below (gQi Γ z) args s 0 0 (gA Γ)) (F0 m 61 ls []) := by
  intro n
  induction n with
  | zero => intro l1 l2 l3 l4 g H locs ls h hP hS hl; cases h
  | succ n ih => intro l1 l2 l3 l4 g H locs ls h hP hS hl; exact bs_X10_place_61 C0  ih h hP hS hl
set_option maxHeartbeats 2000000 in
set_option maxRecDepth 20000 in
theorem bs_X10_place_30 {p : Program} {l : Launch} {e : Env} {s : State} {m : MethodId} {args : Array Value} {below : List Frame} {meth : Method} {c : Code} {Γ : gE} (C0 : gCx p s m args meth c Γ RX10 cX10_place 5 (some .int))   {z : Int32 × gG}  {l1 : Int32} {l2 : Int32} {s1 : Int32} {g : gG} {H : Heap} {locs : List Loc} {ls : Array Slot}  (h : fs_X10_place_30 l1 l2 s1 g = some z) (hP : va_P (gD Γ) gcls (lay Γ g) H) (hS : va_S (gA Γ) s.heap H locs) (hl : lv_has ls 5 [(0, .ref (gB Γ + 174)), (1, .int l1), (2, .int l2)]) : W p l e (gRm 3 66) s m args below meth c H locs 0 0 (MQ below (gQi Γ z) args s 0 0 (gA Γ)) (F0 m 30 ls [.int s1, .ref (gB Γ + 174)]) := by
  unfold fs_X10_place_30 at h
  obtain ⟨hx, hb, hml, hr, hown, hts, hK, hlk, hX⟩ := id C0
  refine gCVi (rest := []) C0 cal_X10_refused wl_X10_146 wi_X10_refused ws_X10_refused ⟨Nat.le_of_ble_eq_true rfl, Nat.le_of_ble_eq_true rfl⟩ ⟨Nat.le_of_ble_eq_true rfl, Nat.le_of_ble_eq_true rfl⟩ grv_10 [.int s1] rfl (Nat.le_of_ble_eq_true rfl) hP hS hl.1 dX10_place_30 h (fun u hu => m_X10_refused l Γ s1 g u hu) (fun u1 H locs h hP hS => ?_) rfl
  refine lv_if_eq (tgt := 38) hx hb dX10_place_33 (by decide) (fun c2 => ?_) (fun c2 => ?_)
  · replace h := gpos c2 h
    refine lv_iload_n hx hb dX10_place_38 rfl (lv_at hl 2 rfl) ?_
    refine lv_iconst (v := 2) hx hb dX10_place_39 (by decide) ?_
    refine lv_icmp_ge (tgt := 56) hx hb dX10_place_40 (by decide) (fun c3 => ?_) (fun c3 => ?_)
    · replace h := gpos c3 h
      refine lv_iconst (v := 0) hx hb dX10_place_56 (by decide) ?_
      refine lv_istore_n (lv' := [(3, .int (0 : Int32)), (0, .ref (gB Γ + 174)), (1, .int l1), (2, .int l2)]) hx hb dX10_place_57 rfl hl (by decide) rfl (fun ls hl => ?_)
      refine lv_iconst (v := 0) hx hb dX10_place_58 (by decide) ?_
      refine lv_istore (lv' := [(4, .int (0 : Int32)), (3, .int (0 : Int32)), (0, .ref (gB Γ + 174)), (1, .int l1), (2, .int l2)]) hx hb dX10_place_59 hl (by decide) rfl (fun ls hl => ?_)
      exact bk_X10_place_61 C0  gFuel _ _ _ _ _ _ _ _ h hP hS (lv_sub hl [2, 3, 4, 1, 0] rfl)
    · replace h := gneg c3 h
      refine lv_aload_n hx hb dX10_place_43 rfl (lv_at hl 0 rfl) ?_
      refine gf_10_13 hx hb hown hts hK hP wf_X10_35 dX10_place_44 ?_
      refine lv_iconst (v := 2) hx hb dX10_place_47 (by decide) ?_
      refine lv_iconst (v := 2) hx hb dX10_place_48 (by decide) ?_
      refine lv_iload_n hx hb dX10_place_49 rfl (lv_at hl 1 rfl) ?_
      refine lv_imul hx hb dX10_place_50 ?_
      refine lv_iadd hx hb dX10_place_51 ?_
      refine lv_iload_n hx hb dX10_place_52 rfl (lv_at hl 2 rfl) ?_
      refine lv_iadd hx hb dX10_place_53 ?_
      refine gIld hx hb hK hP is_183 dX10_place_54 h (fun h => ?_)
      exact giret hx hb hr hlk hP hS dX10_place_55 h
  · replace h := gneg c2 h
    refine lv_iconst (v := 0) hx hb dX10_place_36 (by decide) ?_
    exact giret hx hb hr hlk hP hS dX10_place_37 h
set_option maxHeartbeats 2000000 in
set_option maxRecDepth 20000 in
theorem m_X10_place (l : Launch) (Γ : gE)   (a1 : Int32) (a2 : Int32) (g : gG) (z : Int32 × gG) (h : f_X10_place a1 a2 g = some z) : gMi l yX10_place cX10_place 5 (some .int) 3 66 Γ [.ref (gB Γ + 174), .int a1, .int a2] g z := by
  unfold f_X10_place at h
  refine gStart (own := RX10) (by decide +kernel) rfl (Nat.le_of_ble_eq_true rfl) ?_
  intro p e s m below meth c C0 ls hl hP
  have hS : va_S (gA Γ) s.heap s.heap [] := va_S.rf
  have hl : lv_has ls 5 [(0, .ref (gB Γ + 174)), (1, .int a1), (2, .int a2)] := hl
  obtain ⟨hx, hb, hml, hr, hown, hts, hK, hlk, hX⟩ := id C0
  refine lv_aload_n hx hb dX10_place_0 rfl (lv_at hl 0 rfl) ?_
  refine lv_aload_n hx hb dX10_place_1 rfl (lv_at hl 0 rfl) ?_
  refine lv_iload_n hx hb dX10_place_2 rfl (lv_at hl 1 rfl) ?_
  refine gCVi (rest := [.ref (gB Γ + 174)]) C0 cal_X10_isPlace wl_X10_218 wi_X10_isPlace ws_X10_isPlace ⟨Nat.le_of_ble_eq_true rfl, Nat.le_of_ble_eq_true rfl⟩ ⟨Nat.le_of_ble_eq_true rfl, Nat.le_of_ble_eq_true rfl⟩ grv_10 [.int a1] rfl (Nat.le_of_ble_eq_true rfl) hP hS hl.1 dX10_place_3 h (fun u hu => m_X10_isPlace l Γ a1 g u hu) (fun u1 H locs h hP hS => ?_) rfl
  refine lv_if_ne (tgt := 13) hx hb dX10_place_6 (by decide) (fun c2 => ?_) (fun c2 => ?_)
  · replace h := gneg c2 h
    refine lv_iload_n hx hb dX10_place_13 rfl (lv_at hl 2 rfl) ?_
    refine lv_i2l hx hb dX10_place_14 rfl ?_
    refine lv_lconst (v := 0) hx hb dX10_place_15 (by decide) ?_
    refine lv_ldc2 (v := 3) hx hb hown (hts _ wkl_X10_221) dX10_place_16 ?_
    refine gCSi (rest := [.ref (gB Γ + 174)]) C0 cal_X10_in wl_X10_139 wt_X10_in ⟨Nat.le_of_ble_eq_true rfl, Nat.le_of_ble_eq_true rfl⟩ ⟨Nat.le_of_ble_eq_true rfl, Nat.le_of_ble_eq_true rfl⟩ [.long a2.toInt64, .long (0 : Int64), .long (3 : Int64)] rfl (Nat.le_of_ble_eq_true rfl) hP hS hl.1 dX10_place_19 h (fun u hu => m_X10_in l Γ a2.toInt64 (0 : Int64) (3 : Int64) u1.2 u hu) (fun u3 H locs h hP hS => ?_) rfl
    refine lv_if_eq (tgt := 29) hx hb dX10_place_22 (by decide) (fun c4 => ?_) (fun c4 => ?_)
    · replace h := gpos c4 h
      refine lv_iconst (v := 2) hx hb dX10_place_29 (by decide) ?_
      exact bs_X10_place_30 C0  h hP hS (lv_sub hl [0, 1, 2] rfl)
    · replace h := gneg c4 h
      refine lv_iconst (v := 0) hx hb dX10_place_25 (by decide) ?_
      refine lv_goto (tgt := 30) hx hb dX10_place_26 (by decide) ?_
      exact bs_X10_place_30 C0  h hP hS (lv_sub hl [0, 1, 2] rfl)
  · replace h := gpos c2 h
    refine lv_iconst (v := 1) hx hb dX10_place_9 (by decide) ?_
    refine lv_goto (tgt := 30) hx hb dX10_place_10 (by decide) ?_
    exact bs_X10_place_30 C0  h hP hS (lv_sub hl [0, 1, 2] rfl)
set_option maxHeartbeats 2000000 in
set_option maxRecDepth 20000 in
theorem bs_X10_holds_38 {p : Program} {l : Launch} {e : Env} {s : State} {m : MethodId} {args : Array Value} {below : List Frame} {meth : Method} {c : Code} {Γ : gE} (C0 : gCx p s m args meth c Γ RX10 cX10_holds 3 (some .boolean))   {z : Int32 × gG}  {l1 : Int32} {l2 : Int32} {s1 : Int32} {g : gG} {H : Heap} {locs : List Loc} {ls : Array Slot}  (h : fs_X10_holds_38 l1 l2 s1 g = some z) (hP : va_P (gD Γ) gcls (lay Γ g) H) (hS : va_S (gA Γ) s.heap H locs) (hl : lv_has ls 3 [(0, .ref (gB Γ + 174)), (1, .int l1), (2, .int l2)]) : W p l e (gRm 2 46) s m args below meth c H locs 0 0 (MQ below (gQi Γ z) args s 0 0 (gA Γ)) (F0 m 38 ls [.int s1, .ref (gB Γ + 174)]) := by
  unfold fs_X10_holds_38 at h
  obtain ⟨hx, hb, hml, hr, hown, hts, hK, hlk, hX⟩ := id C0
  refine gCVi (rest := []) C0 cal_X10_refused wl_X10_146 wi_X10_refused ws_X10_refused ⟨Nat.le_of_ble_eq_true rfl, Nat.le_of_ble_eq_true rfl⟩ ⟨Nat.le_of_ble_eq_true rfl, Nat.le_of_ble_eq_true rfl⟩ grv_10 [.int s1] rfl (Nat.le_of_ble_eq_true rfl) hP hS hl.1 dX10_holds_38 h (fun u hu => m_X10_refused l Γ s1 g u hu) (fun u1 H locs h hP hS => ?_) rfl
  refine lv_if_ne (tgt := 60) hx hb dX10_holds_41 (by decide) (fun c2 => ?_) (fun c2 => ?_)
  · replace h := gneg c2 h
    refine lv_iconst (v := 0) hx hb dX10_holds_60 (by decide) ?_
    exact gzret0 hx hb hr hlk hP hS rfl dX10_holds_61 h
  · replace h := gpos c2 h
    refine lv_aload_n hx hb dX10_holds_44 rfl (lv_at hl 0 rfl) ?_
    refine gf_10_13 hx hb hown hts hK hP wf_X10_35 dX10_holds_45 ?_
    refine lv_iload_n hx hb dX10_holds_48 rfl (lv_at hl 1 rfl) ?_
    refine lv_iload_n hx hb dX10_holds_49 rfl (lv_at hl 2 rfl) ?_
    refine gCSi (rest := []) C0 cal_X10_isHeld wl_X10_86 wt_X10_isHeld ⟨Nat.le_of_ble_eq_true rfl, Nat.le_of_ble_eq_true rfl⟩ ⟨Nat.le_of_ble_eq_true rfl, Nat.le_of_ble_eq_true rfl⟩ [.ref (gB Γ + 183), .int l1, .int l2] rfl (Nat.le_of_ble_eq_true rfl) hP hS hl.1 dX10_holds_50 h (fun u hu => m_X10_isHeld l Γ is_183 l1 l2 u1.2 u hu) (fun u3 H locs h hP hS => ?_) rfl
    refine lv_if_eq (tgt := 60) hx hb dX10_holds_53 (by decide) (fun c4 => ?_) (fun c4 => ?_)
    · replace h := gpos c4 h
      refine lv_iconst (v := 0) hx hb dX10_holds_60 (by decide) ?_
      exact gzret0 hx hb hr hlk hP hS rfl dX10_holds_61 h
    · replace h := gneg c4 h
      refine lv_iconst (v := 1) hx hb dX10_holds_56 (by decide) ?_
      refine lv_goto (tgt := 61) hx hb dX10_holds_57 (by decide) ?_
      exact gzret0 hx hb hr hlk hP hS rfl dX10_holds_61 h
set_option maxHeartbeats 2000000 in
set_option maxRecDepth 20000 in
theorem m_X10_holds (l : Launch) (Γ : gE)   (a1 : Int32) (a2 : Int32) (g : gG) (z : Int32 × gG) (h : f_X10_holds a1 a2 g = some z) : gMi l yX10_holds cX10_holds 3 (some .boolean) 2 46 Γ [.ref (gB Γ + 174), .int a1, .int a2] g z := by
  unfold f_X10_holds at h
  refine gStart (own := RX10) (by decide +kernel) rfl (Nat.le_of_ble_eq_true rfl) ?_
  intro p e s m below meth c C0 ls hl hP
  have hS : va_S (gA Γ) s.heap s.heap [] := va_S.rf
  have hl : lv_has ls 3 [(0, .ref (gB Γ + 174)), (1, .int a1), (2, .int a2)] := hl
  obtain ⟨hx, hb, hml, hr, hown, hts, hK, hlk, hX⟩ := id C0
  refine lv_aload_n hx hb dX10_holds_0 rfl (lv_at hl 0 rfl) ?_
  refine lv_aload_n hx hb dX10_holds_1 rfl (lv_at hl 0 rfl) ?_
  refine lv_iload_n hx hb dX10_holds_2 rfl (lv_at hl 1 rfl) ?_
  refine gCVi (rest := [.ref (gB Γ + 174)]) C0 cal_X10_isPlace wl_X10_218 wi_X10_isPlace ws_X10_isPlace ⟨Nat.le_of_ble_eq_true rfl, Nat.le_of_ble_eq_true rfl⟩ ⟨Nat.le_of_ble_eq_true rfl, Nat.le_of_ble_eq_true rfl⟩ grv_10 [.int a1] rfl (Nat.le_of_ble_eq_true rfl) hP hS hl.1 dX10_holds_3 h (fun u hu => m_X10_isPlace l Γ a1 g u hu) (fun u1 H locs h hP hS => ?_) rfl
  refine lv_if_ne (tgt := 13) hx hb dX10_holds_6 (by decide) (fun c2 => ?_) (fun c2 => ?_)
  · replace h := gneg c2 h
    refine lv_iload_n hx hb dX10_holds_13 rfl (lv_at hl 2 rfl) ?_
    refine lv_i2l hx hb dX10_holds_14 rfl ?_
    refine lv_lconst (v := 0) hx hb dX10_holds_15 (by decide) ?_
    refine lv_iconst (v := 1) hx hb dX10_holds_16 (by decide) ?_
    refine lv_aload_n hx hb dX10_holds_17 rfl (lv_at hl 0 rfl) ?_
    refine gf_10_13 hx hb hown hts hK hP wf_X10_35 dX10_holds_18 ?_
    refine lv_iconst (v := 0) hx hb dX10_holds_21 (by decide) ?_
    refine gIld hx hb hK hP is_183 dX10_holds_22 h (fun h => ?_)
    refine lv_ishl hx hb dX10_holds_23 ?_
    refine lv_iconst (v := 1) hx hb dX10_holds_24 (by decide) ?_
    refine lv_isub hx hb dX10_holds_25 ?_
    refine lv_i2l hx hb dX10_holds_26 rfl ?_
    refine gCSi (rest := [.ref (gB Γ + 174)]) C0 cal_X10_in wl_X10_139 wt_X10_in ⟨Nat.le_of_ble_eq_true rfl, Nat.le_of_ble_eq_true rfl⟩ ⟨Nat.le_of_ble_eq_true rfl, Nat.le_of_ble_eq_true rfl⟩ [.long a2.toInt64, .long (0 : Int64), .long ((((1 : Int32) <<< ((u1.2.1 183 (0 : Int32).toNatClampNeg) &&& 31)) - (1 : Int32)).toInt64)] rfl (Nat.le_of_ble_eq_true rfl) hP hS hl.1 dX10_holds_27 h (fun u hu => m_X10_in l Γ a2.toInt64 (0 : Int64) ((((1 : Int32) <<< ((u1.2.1 183 (0 : Int32).toNatClampNeg) &&& 31)) - (1 : Int32)).toInt64) u1.2 u hu) (fun u3 H locs h hP hS => ?_) rfl
    refine lv_if_eq (tgt := 37) hx hb dX10_holds_30 (by decide) (fun c4 => ?_) (fun c4 => ?_)
    · replace h := gpos c4 h
      refine lv_iconst (v := 2) hx hb dX10_holds_37 (by decide) ?_
      exact bs_X10_holds_38 C0  h hP hS (lv_sub hl [0, 1, 2] rfl)
    · replace h := gneg c4 h
      refine lv_iconst (v := 0) hx hb dX10_holds_33 (by decide) ?_
      refine lv_goto (tgt := 38) hx hb dX10_holds_34 (by decide) ?_
      exact bs_X10_holds_38 C0  h hP hS (lv_sub hl [0, 1, 2] rfl)
  · replace h := gpos c2 h
    refine lv_iconst (v := 1) hx hb dX10_holds_9 (by decide) ?_
    refine lv_goto (tgt := 38) hx hb dX10_holds_10 (by decide) ?_
    exact bs_X10_holds_38 C0  h hP hS (lv_sub hl [0, 1, 2] rfl)
set_option maxHeartbeats 2000000 in
set_option maxRecDepth 20000 in
theorem bs_X10_team_30 {p : Program} {l : Launch} {e : Env} {s : State} {m : MethodId} {args : Array Value} {below : List Frame} {meth : Method} {c : Code} {Γ : gE} (C0 : gCx p s m args meth c Γ RX10 cX10_team 3 (some .int))   {z : Int32 × gG}  {l1 : Int32} {l2 : Int32} {s1 : Int32} {g : gG} {H : Heap} {locs : List Loc} {ls : Array Slot}  (h : fs_X10_team_30 l1 l2 s1 g = some z) (hP : va_P (gD Γ) gcls (lay Γ g) H) (hS : va_S (gA Γ) s.heap H locs) (hl : lv_has ls 3 [(0, .ref (gB Γ + 174)), (1, .int l1), (2, .int l2)]) : W p l e (gRm 4 87) s m args below meth c H locs 0 0 (MQ below (gQi Γ z) args s 0 0 (gA Γ)) (F0 m 30 ls [.int s1, .ref (gB Γ + 174)]) := by
  unfold fs_X10_team_30 at h
  obtain ⟨hx, hb, hml, hr, hown, hts, hK, hlk, hX⟩ := id C0
  refine gCVi (rest := []) C0 cal_X10_refused wl_X10_146 wi_X10_refused ws_X10_refused ⟨Nat.le_of_ble_eq_true rfl, Nat.le_of_ble_eq_true rfl⟩ ⟨Nat.le_of_ble_eq_true rfl, Nat.le_of_ble_eq_true rfl⟩ grv_10 [.int s1] rfl (Nat.le_of_ble_eq_true rfl) hP hS hl.1 dX10_team_30 h (fun u hu => m_X10_refused l Γ s1 g u hu) (fun u1 H locs h hP hS => ?_) rfl
  refine lv_if_eq (tgt := 38) hx hb dX10_team_33 (by decide) (fun c2 => ?_) (fun c2 => ?_)
  · replace h := gpos c2 h
    refine lv_iload_n hx hb dX10_team_38 rfl (lv_at hl 2 rfl) ?_
    by_cases c3 : l2 = (0 : Int32)
    · replace h := gpos c3 h
      refine lv_tableIn (tgt := 72) hx hb dX10_team_39 (by rw [c3]; decide) (by rw [c3]; decide) (by rw [c3]; rfl) (by decide) ?_
      refine lv_aload_n hx hb dX10_team_72 rfl (lv_at hl 0 rfl) ?_
      refine gf_10_13 hx hb hown hts hK hP wf_X10_35 dX10_team_73 ?_
      refine lv_iload_n hx hb dX10_team_76 rfl (lv_at hl 1 rfl) ?_
      refine gCSi (rest := []) C0 cal_X10_visited wl_X10_104 wt_X10_visited ⟨Nat.le_of_ble_eq_true rfl, Nat.le_of_ble_eq_true rfl⟩ ⟨Nat.le_of_ble_eq_true rfl, Nat.le_of_ble_eq_true rfl⟩ [.ref (gB Γ + 183), .int l1] rfl (Nat.le_of_ble_eq_true rfl) hP hS hl.1 dX10_team_77 h (fun u hu => m_X10_visited l Γ is_183 l1 u1.2 u hu) (fun u4 H locs h hP hS => ?_) rfl
      exact giret hx hb hr hlk hP hS dX10_team_80 h
    replace h := gneg c3 h
    by_cases c5 : l2 = (1 : Int32)
    · replace h := gpos c5 h
      refine lv_tableIn (tgt := 81) hx hb dX10_team_39 (by rw [c5]; decide) (by rw [c5]; decide) (by rw [c5]; rfl) (by decide) ?_
      refine lv_aload_n hx hb dX10_team_81 rfl (lv_at hl 0 rfl) ?_
      refine gf_10_13 hx hb hown hts hK hP wf_X10_35 dX10_team_82 ?_
      refine lv_iload_n hx hb dX10_team_85 rfl (lv_at hl 1 rfl) ?_
      refine lv_iconst (v := 0) hx hb dX10_team_86 (by decide) ?_
      refine gCSi (rest := [.ref (gB Γ + 183)]) C0 cal_X10_cell wl_X10_101 wt_X10_cell ⟨Nat.le_of_ble_eq_true rfl, Nat.le_of_ble_eq_true rfl⟩ ⟨Nat.le_of_ble_eq_true rfl, Nat.le_of_ble_eq_true rfl⟩ [.int l1, .int (0 : Int32)] rfl (Nat.le_of_ble_eq_true rfl) hP hS hl.1 dX10_team_87 h (fun u hu => m_X10_cell l Γ l1 (0 : Int32) u1.2 u hu) (fun u6 H locs h hP hS => ?_) rfl
      refine gIld hx hb hK hP is_183 dX10_team_90 h (fun h => ?_)
      exact giret hx hb hr hlk hP hS dX10_team_91 h
    replace h := gneg c5 h
    by_cases c7 : l2 = (2 : Int32)
    · replace h := gpos c7 h
      refine lv_tableIn (tgt := 92) hx hb dX10_team_39 (by rw [c7]; decide) (by rw [c7]; decide) (by rw [c7]; rfl) (by decide) ?_
      refine lv_aload_n hx hb dX10_team_92 rfl (lv_at hl 0 rfl) ?_
      refine gf_10_13 hx hb hown hts hK hP wf_X10_35 dX10_team_93 ?_
      refine lv_iload_n hx hb dX10_team_96 rfl (lv_at hl 1 rfl) ?_
      refine lv_iconst (v := 1) hx hb dX10_team_97 (by decide) ?_
      refine gCSi (rest := [.ref (gB Γ + 183)]) C0 cal_X10_cell wl_X10_101 wt_X10_cell ⟨Nat.le_of_ble_eq_true rfl, Nat.le_of_ble_eq_true rfl⟩ ⟨Nat.le_of_ble_eq_true rfl, Nat.le_of_ble_eq_true rfl⟩ [.int l1, .int (1 : Int32)] rfl (Nat.le_of_ble_eq_true rfl) hP hS hl.1 dX10_team_98 h (fun u hu => m_X10_cell l Γ l1 (1 : Int32) u1.2 u hu) (fun u8 H locs h hP hS => ?_) rfl
      refine gIld hx hb hK hP is_183 dX10_team_101 h (fun h => ?_)
      exact giret hx hb hr hlk hP hS dX10_team_102 h
    replace h := gneg c7 h
    by_cases c9 : l2 = (3 : Int32)
    · replace h := gpos c9 h
      refine lv_tableIn (tgt := 103) hx hb dX10_team_39 (by rw [c9]; decide) (by rw [c9]; decide) (by rw [c9]; rfl) (by decide) ?_
      refine lv_aload_n hx hb dX10_team_103 rfl (lv_at hl 0 rfl) ?_
      refine gf_10_13 hx hb hown hts hK hP wf_X10_35 dX10_team_104 ?_
      refine lv_iload_n hx hb dX10_team_107 rfl (lv_at hl 1 rfl) ?_
      refine lv_iconst (v := 2) hx hb dX10_team_108 (by decide) ?_
      refine gCSi (rest := [.ref (gB Γ + 183)]) C0 cal_X10_cell wl_X10_101 wt_X10_cell ⟨Nat.le_of_ble_eq_true rfl, Nat.le_of_ble_eq_true rfl⟩ ⟨Nat.le_of_ble_eq_true rfl, Nat.le_of_ble_eq_true rfl⟩ [.int l1, .int (2 : Int32)] rfl (Nat.le_of_ble_eq_true rfl) hP hS hl.1 dX10_team_109 h (fun u hu => m_X10_cell l Γ l1 (2 : Int32) u1.2 u hu) (fun u10 H locs h hP hS => ?_) rfl
      refine gIld hx hb hK hP is_183 dX10_team_112 h (fun h => ?_)
      exact giret hx hb hr hlk hP hS dX10_team_113 h
    replace h := gneg c9 h
    by_cases c11 : l2 = (4 : Int32)
    · replace h := gpos c11 h
      refine lv_tableIn (tgt := 114) hx hb dX10_team_39 (by rw [c11]; decide) (by rw [c11]; decide) (by rw [c11]; rfl) (by decide) ?_
      refine lv_aload_n hx hb dX10_team_114 rfl (lv_at hl 0 rfl) ?_
      refine gf_10_13 hx hb hown hts hK hP wf_X10_35 dX10_team_115 ?_
      refine lv_iload_n hx hb dX10_team_118 rfl (lv_at hl 1 rfl) ?_
      refine gCSi (rest := []) C0 cal_X10_score wl_X10_208 wt_X10_score ⟨Nat.le_of_ble_eq_true rfl, Nat.le_of_ble_eq_true rfl⟩ ⟨Nat.le_of_ble_eq_true rfl, Nat.le_of_ble_eq_true rfl⟩ [.ref (gB Γ + 183), .int l1] rfl (Nat.le_of_ble_eq_true rfl) hP hS hl.1 dX10_team_119 h (fun u hu => m_X10_score l Γ is_183 l1 u1.2 u hu) (fun u12 H locs h hP hS => ?_) rfl
      exact giret hx hb hr hlk hP hS dX10_team_122 h
    replace h := gneg c11 h
    have nc3 := gNe c3
    simp only [show ((0 : Int32)).toInt = 0 from by decide] at nc3
    have nc5 := gNe c5
    simp only [show ((1 : Int32)).toInt = 1 from by decide] at nc5
    have nc7 := gNe c7
    simp only [show ((2 : Int32)).toInt = 2 from by decide] at nc7
    have nc9 := gNe c9
    simp only [show ((3 : Int32)).toInt = 3 from by decide] at nc9
    have nc11 := gNe c11
    simp only [show ((4 : Int32)).toInt = 4 from by decide] at nc11
    refine lv_tableOut (tgt := 123) hx hb dX10_team_39 (gTabOut (by omega)) (by decide) ?_
    refine lv_aload_n hx hb dX10_team_123 rfl (lv_at hl 0 rfl) ?_
    refine gf_10_13 hx hb hown hts hK hP wf_X10_35 dX10_team_124 ?_
    refine lv_iload_n hx hb dX10_team_127 rfl (lv_at hl 1 rfl) ?_
    refine gCSi (rest := []) C0 cal_X10_last wl_X10_112 wt_X10_last ⟨Nat.le_of_ble_eq_true rfl, Nat.le_of_ble_eq_true rfl⟩ ⟨Nat.le_of_ble_eq_true rfl, Nat.le_of_ble_eq_true rfl⟩ [.ref (gB Γ + 183), .int l1] rfl (Nat.le_of_ble_eq_true rfl) hP hS hl.1 dX10_team_128 h (fun u hu => m_X10_last l Γ is_183 l1 u1.2 u hu) (fun u13 H locs h hP hS => ?_) rfl
    exact giret hx hb hr hlk hP hS dX10_team_131 h
  · replace h := gneg c2 h
    refine lv_iconst (v := 0) hx hb dX10_team_36 (by decide) ?_
    exact giret hx hb hr hlk hP hS dX10_team_37 h
set_option maxHeartbeats 2000000 in
set_option maxRecDepth 20000 in
theorem m_X10_team (l : Launch) (Γ : gE)   (a1 : Int32) (a2 : Int32) (g : gG) (z : Int32 × gG) (h : f_X10_team a1 a2 g = some z) : gMi l yX10_team cX10_team 3 (some .int) 4 87 Γ [.ref (gB Γ + 174), .int a1, .int a2] g z := by
  unfold f_X10_team at h
  refine gStart (own := RX10) (by decide +kernel) rfl (Nat.le_of_ble_eq_true rfl) ?_
  intro p e s m below meth c C0 ls hl hP
  have hS : va_S (gA Γ) s.heap s.heap [] := va_S.rf
  have hl : lv_has ls 3 [(0, .ref (gB Γ + 174)), (1, .int a1), (2, .int a2)] := hl
  obtain ⟨hx, hb, hml, hr, hown, hts, hK, hlk, hX⟩ := id C0
  refine lv_aload_n hx hb dX10_team_0 rfl (lv_at hl 0 rfl) ?_
  refine lv_aload_n hx hb dX10_team_1 rfl (lv_at hl 0 rfl) ?_
  refine lv_iload_n hx hb dX10_team_2 rfl (lv_at hl 1 rfl) ?_
  refine gCVi (rest := [.ref (gB Γ + 174)]) C0 cal_X10_isTeam wl_X10_226 wi_X10_isTeam ws_X10_isTeam ⟨Nat.le_of_ble_eq_true rfl, Nat.le_of_ble_eq_true rfl⟩ ⟨Nat.le_of_ble_eq_true rfl, Nat.le_of_ble_eq_true rfl⟩ grv_10 [.int a1] rfl (Nat.le_of_ble_eq_true rfl) hP hS hl.1 dX10_team_3 h (fun u hu => m_X10_isTeam l Γ a1 g u hu) (fun u1 H locs h hP hS => ?_) rfl
  refine lv_if_ne (tgt := 13) hx hb dX10_team_6 (by decide) (fun c2 => ?_) (fun c2 => ?_)
  · replace h := gneg c2 h
    refine lv_iload_n hx hb dX10_team_13 rfl (lv_at hl 2 rfl) ?_
    refine lv_i2l hx hb dX10_team_14 rfl ?_
    refine lv_lconst (v := 0) hx hb dX10_team_15 (by decide) ?_
    refine lv_ldc2 (v := 5) hx hb hown (hts _ wkl_X10_206) dX10_team_16 ?_
    refine gCSi (rest := [.ref (gB Γ + 174)]) C0 cal_X10_in wl_X10_139 wt_X10_in ⟨Nat.le_of_ble_eq_true rfl, Nat.le_of_ble_eq_true rfl⟩ ⟨Nat.le_of_ble_eq_true rfl, Nat.le_of_ble_eq_true rfl⟩ [.long a2.toInt64, .long (0 : Int64), .long (5 : Int64)] rfl (Nat.le_of_ble_eq_true rfl) hP hS hl.1 dX10_team_19 h (fun u hu => m_X10_in l Γ a2.toInt64 (0 : Int64) (5 : Int64) u1.2 u hu) (fun u3 H locs h hP hS => ?_) rfl
    refine lv_if_eq (tgt := 29) hx hb dX10_team_22 (by decide) (fun c4 => ?_) (fun c4 => ?_)
    · replace h := gpos c4 h
      refine lv_iconst (v := 2) hx hb dX10_team_29 (by decide) ?_
      exact bs_X10_team_30 C0  h hP hS (lv_sub hl [0, 1, 2] rfl)
    · replace h := gneg c4 h
      refine lv_iconst (v := 0) hx hb dX10_team_25 (by decide) ?_
      refine lv_goto (tgt := 30) hx hb dX10_team_26 (by decide) ?_
      exact bs_X10_team_30 C0  h hP hS (lv_sub hl [0, 1, 2] rfl)
  · replace h := gpos c2 h
    refine lv_iconst (v := 1) hx hb dX10_team_9 (by decide) ?_
    refine lv_goto (tgt := 30) hx hb dX10_team_10 (by decide) ?_
    exact bs_X10_team_30 C0  h hP hS (lv_sub hl [0, 1, 2] rfl)
set_option maxHeartbeats 2000000 in
set_option maxRecDepth 20000 in
theorem bs_X10_trail_22 {p : Program} {l : Launch} {e : Env} {s : State} {m : MethodId} {args : Array Value} {below : List Frame} {meth : Method} {c : Code} {Γ : gE} (C0 : gCx p s m args meth c Γ RX10 cX10_trail 3 (some .int))   {z : Int32 × gG}  {l1 : Int32} {l2 : Int32} {s1 : Int32} {g : gG} {H : Heap} {locs : List Loc} {ls : Array Slot}  (h : fs_X10_trail_22 l1 l2 s1 g = some z) (hP : va_P (gD Γ) gcls (lay Γ g) H) (hS : va_S (gA Γ) s.heap H locs) (hl : lv_has ls 3 [(0, .ref (gB Γ + 174)), (1, .int l1), (2, .int l2)]) : W p l e (gRm 2 46) s m args below meth c H locs 0 0 (MQ below (gQi Γ z) args s 0 0 (gA Γ)) (F0 m 22 ls [.int s1, .ref (gB Γ + 174)]) := by
  unfold fs_X10_trail_22 at h
  obtain ⟨hx, hb, hml, hr, hown, hts, hK, hlk, hX⟩ := id C0
  refine gCVi (rest := []) C0 cal_X10_refused wl_X10_146 wi_X10_refused ws_X10_refused ⟨Nat.le_of_ble_eq_true rfl, Nat.le_of_ble_eq_true rfl⟩ ⟨Nat.le_of_ble_eq_true rfl, Nat.le_of_ble_eq_true rfl⟩ grv_10 [.int s1] rfl (Nat.le_of_ble_eq_true rfl) hP hS hl.1 dX10_trail_22 h (fun u hu => m_X10_refused l Γ s1 g u hu) (fun u1 H locs h hP hS => ?_) rfl
  refine lv_if_eq (tgt := 30) hx hb dX10_trail_25 (by decide) (fun c2 => ?_) (fun c2 => ?_)
  · replace h := gpos c2 h
    refine lv_iload_n hx hb dX10_trail_30 rfl (lv_at hl 2 rfl) ?_
    refine lv_aload_n hx hb dX10_trail_31 rfl (lv_at hl 0 rfl) ?_
    refine gf_10_13 hx hb hown hts hK hP wf_X10_35 dX10_trail_32 ?_
    refine lv_iload_n hx hb dX10_trail_35 rfl (lv_at hl 1 rfl) ?_
    refine lv_iconst (v := 0) hx hb dX10_trail_36 (by decide) ?_
    refine gCSi (rest := [.ref (gB Γ + 183), .int l2]) C0 cal_X10_cell wl_X10_101 wt_X10_cell ⟨Nat.le_of_ble_eq_true rfl, Nat.le_of_ble_eq_true rfl⟩ ⟨Nat.le_of_ble_eq_true rfl, Nat.le_of_ble_eq_true rfl⟩ [.int l1, .int (0 : Int32)] rfl (Nat.le_of_ble_eq_true rfl) hP hS hl.1 dX10_trail_37 h (fun u hu => m_X10_cell l Γ l1 (0 : Int32) u1.2 u hu) (fun u3 H locs h hP hS => ?_) rfl
    refine gIld hx hb hK hP is_183 dX10_trail_40 h (fun h => ?_)
    refine lv_icmp_ge (tgt := 59) hx hb dX10_trail_41 (by decide) (fun c4 => ?_) (fun c4 => ?_)
    · replace h := gpos c4 h
      refine lv_bipush (v := -9) hx hb dX10_trail_59 (by decide) ?_
      exact giret hx hb hr hlk hP hS dX10_trail_61 h
    · replace h := gneg c4 h
      refine lv_aload_n hx hb dX10_trail_44 rfl (lv_at hl 0 rfl) ?_
      refine gf_10_13 hx hb hown hts hK hP wf_X10_35 dX10_trail_45 ?_
      refine lv_iload_n hx hb dX10_trail_48 rfl (lv_at hl 1 rfl) ?_
      refine lv_iconst (v := 3) hx hb dX10_trail_49 (by decide) ?_
      refine lv_iload_n hx hb dX10_trail_50 rfl (lv_at hl 2 rfl) ?_
      refine lv_iadd hx hb dX10_trail_51 ?_
      refine gCSi (rest := [.ref (gB Γ + 183)]) C0 cal_X10_cell wl_X10_101 wt_X10_cell ⟨Nat.le_of_ble_eq_true rfl, Nat.le_of_ble_eq_true rfl⟩ ⟨Nat.le_of_ble_eq_true rfl, Nat.le_of_ble_eq_true rfl⟩ [.int l1, .int ((3 : Int32) + l2)] rfl (Nat.le_of_ble_eq_true rfl) hP hS hl.1 dX10_trail_52 h (fun u hu => m_X10_cell l Γ l1 ((3 : Int32) + l2) u3.2 u hu) (fun u5 H locs h hP hS => ?_) rfl
      refine gIld hx hb hK hP is_183 dX10_trail_55 h (fun h => ?_)
      refine lv_goto (tgt := 61) hx hb dX10_trail_56 (by decide) ?_
      exact giret hx hb hr hlk hP hS dX10_trail_61 h
  · replace h := gneg c2 h
    refine lv_iconst (v := 0) hx hb dX10_trail_28 (by decide) ?_
    exact giret hx hb hr hlk hP hS dX10_trail_29 h
set_option maxHeartbeats 2000000 in
set_option maxRecDepth 20000 in
theorem m_X10_trail (l : Launch) (Γ : gE)   (a1 : Int32) (a2 : Int32) (g : gG) (z : Int32 × gG) (h : f_X10_trail a1 a2 g = some z) : gMi l yX10_trail cX10_trail 3 (some .int) 2 46 Γ [.ref (gB Γ + 174), .int a1, .int a2] g z := by
  unfold f_X10_trail at h
  refine gStart (own := RX10) (by decide +kernel) rfl (Nat.le_of_ble_eq_true rfl) ?_
  intro p e s m below meth c C0 ls hl hP
  have hS : va_S (gA Γ) s.heap s.heap [] := va_S.rf
  have hl : lv_has ls 3 [(0, .ref (gB Γ + 174)), (1, .int a1), (2, .int a2)] := hl
  obtain ⟨hx, hb, hml, hr, hown, hts, hK, hlk, hX⟩ := id C0
  refine lv_aload_n hx hb dX10_trail_0 rfl (lv_at hl 0 rfl) ?_
  refine lv_aload_n hx hb dX10_trail_1 rfl (lv_at hl 0 rfl) ?_
  refine lv_iload_n hx hb dX10_trail_2 rfl (lv_at hl 1 rfl) ?_
  refine gCVi (rest := [.ref (gB Γ + 174)]) C0 cal_X10_isTeam wl_X10_226 wi_X10_isTeam ws_X10_isTeam ⟨Nat.le_of_ble_eq_true rfl, Nat.le_of_ble_eq_true rfl⟩ ⟨Nat.le_of_ble_eq_true rfl, Nat.le_of_ble_eq_true rfl⟩ grv_10 [.int a1] rfl (Nat.le_of_ble_eq_true rfl) hP hS hl.1 dX10_trail_3 h (fun u hu => m_X10_isTeam l Γ a1 g u hu) (fun u1 H locs h hP hS => ?_) rfl
  refine lv_if_ne (tgt := 13) hx hb dX10_trail_6 (by decide) (fun c2 => ?_) (fun c2 => ?_)
  · replace h := gneg c2 h
    refine lv_iload_n hx hb dX10_trail_13 rfl (lv_at hl 2 rfl) ?_
    refine lv_if_ge (tgt := 21) hx hb dX10_trail_14 (by decide) (fun c3 => ?_) (fun c3 => ?_)
    · replace h := gpos c3 h
      refine lv_iconst (v := 0) hx hb dX10_trail_21 (by decide) ?_
      exact bs_X10_trail_22 C0  h hP hS (lv_sub hl [0, 1, 2] rfl)
    · replace h := gneg c3 h
      refine lv_iconst (v := 2) hx hb dX10_trail_17 (by decide) ?_
      refine lv_goto (tgt := 22) hx hb dX10_trail_18 (by decide) ?_
      exact bs_X10_trail_22 C0  h hP hS (lv_sub hl [0, 1, 2] rfl)
  · replace h := gpos c2 h
    refine lv_iconst (v := 1) hx hb dX10_trail_9 (by decide) ?_
    refine lv_goto (tgt := 22) hx hb dX10_trail_10 (by decide) ?_
    exact bs_X10_trail_22 C0  h hP hS (lv_sub hl [0, 1, 2] rfl)
set_option maxHeartbeats 2000000 in
set_option maxRecDepth 20000 in
theorem bs_X10_open_14 {p : Program} {l : Launch} {e : Env} {s : State} {m : MethodId} {args : Array Value} {below : List Frame} {meth : Method} {c : Code} {Γ : gE} (C0 : gCx p s m args meth c Γ RX10 cX10_open 2 (some .int))   {z : Int32 × gG}  {l1 : Int32} {s1 : Int32} {g : gG} {H : Heap} {locs : List Loc} {ls : Array Slot}  (h : fs_X10_open_14 l1 s1 g = some z) (hP : va_P (gD Γ) gcls (lay Γ g) H) (hS : va_S (gA Γ) s.heap H locs) (hl : lv_has ls 2 [(0, .ref (gB Γ + 174)), (1, .int l1)]) : W p l e (gRm 4 88) s m args below meth c H locs 0 0 (MQ below (gQi Γ z) args s 0 0 (gA Γ)) (F0 m 14 ls [.int s1, .ref (gB Γ + 174)]) := by
  unfold fs_X10_open_14 at h
  obtain ⟨hx, hb, hml, hr, hown, hts, hK, hlk, hX⟩ := id C0
  refine gCVi (rest := []) C0 cal_X10_refused wl_X10_146 wi_X10_refused ws_X10_refused ⟨Nat.le_of_ble_eq_true rfl, Nat.le_of_ble_eq_true rfl⟩ ⟨Nat.le_of_ble_eq_true rfl, Nat.le_of_ble_eq_true rfl⟩ grv_10 [.int s1] rfl (Nat.le_of_ble_eq_true rfl) hP hS hl.1 dX10_open_14 h (fun u hu => m_X10_refused l Γ s1 g u hu) (fun u1 H locs h hP hS => ?_) rfl
  refine lv_if_eq (tgt := 24) hx hb dX10_open_17 (by decide) (fun c2 => ?_) (fun c2 => ?_)
  · replace h := gpos c2 h
    refine lv_aload_n hx hb dX10_open_24 rfl (lv_at hl 0 rfl) ?_
    refine gf_10_13 hx hb hown hts hK hP wf_X10_35 dX10_open_25 ?_
    refine lv_aload_n hx hb dX10_open_28 rfl (lv_at hl 0 rfl) ?_
    refine gf_10_13 hx hb hown hts hK hP wf_X10_35 dX10_open_29 ?_
    refine lv_iload_n hx hb dX10_open_32 rfl (lv_at hl 1 rfl) ?_
    refine gCSi (rest := [.ref (gB Γ + 183)]) C0 cal_X10_visited wl_X10_104 wt_X10_visited ⟨Nat.le_of_ble_eq_true rfl, Nat.le_of_ble_eq_true rfl⟩ ⟨Nat.le_of_ble_eq_true rfl, Nat.le_of_ble_eq_true rfl⟩ [.ref (gB Γ + 183), .int l1] rfl (Nat.le_of_ble_eq_true rfl) hP hS hl.1 dX10_open_33 h (fun u hu => m_X10_visited l Γ is_183 l1 u1.2 u hu) (fun u3 H locs h hP hS => ?_) rfl
    refine gCSi (rest := []) C0 cal_X10_openOf wl_X10_119 wt_X10_openOf ⟨Nat.le_of_ble_eq_true rfl, Nat.le_of_ble_eq_true rfl⟩ ⟨Nat.le_of_ble_eq_true rfl, Nat.le_of_ble_eq_true rfl⟩ [.ref (gB Γ + 183), .int u3.1] rfl (Nat.le_of_ble_eq_true rfl) hP hS hl.1 dX10_open_36 h (fun u hu => m_X10_openOf l Γ is_183 u3.1 u3.2 u hu) (fun u4 H locs h hP hS => ?_) rfl
    exact giret hx hb hr hlk hP hS dX10_open_39 h
  · replace h := gneg c2 h
    refine lv_iconst (v := 0) hx hb dX10_open_20 (by decide) ?_
    refine lv_goto (tgt := 39) hx hb dX10_open_21 (by decide) ?_
    exact giret hx hb hr hlk hP hS dX10_open_39 h
set_option maxHeartbeats 2000000 in
set_option maxRecDepth 20000 in
theorem m_X10_open (l : Launch) (Γ : gE)   (a1 : Int32) (g : gG) (z : Int32 × gG) (h : f_X10_open a1 g = some z) : gMi l yX10_open cX10_open 2 (some .int) 4 88 Γ [.ref (gB Γ + 174), .int a1] g z := by
  unfold f_X10_open at h
  refine gStart (own := RX10) (by decide +kernel) rfl (Nat.le_of_ble_eq_true rfl) ?_
  intro p e s m below meth c C0 ls hl hP
  have hS : va_S (gA Γ) s.heap s.heap [] := va_S.rf
  have hl : lv_has ls 2 [(0, .ref (gB Γ + 174)), (1, .int a1)] := hl
  obtain ⟨hx, hb, hml, hr, hown, hts, hK, hlk, hX⟩ := id C0
  refine lv_aload_n hx hb dX10_open_0 rfl (lv_at hl 0 rfl) ?_
  refine lv_aload_n hx hb dX10_open_1 rfl (lv_at hl 0 rfl) ?_
  refine lv_iload_n hx hb dX10_open_2 rfl (lv_at hl 1 rfl) ?_
  refine gCVi (rest := [.ref (gB Γ + 174)]) C0 cal_X10_isTeam wl_X10_226 wi_X10_isTeam ws_X10_isTeam ⟨Nat.le_of_ble_eq_true rfl, Nat.le_of_ble_eq_true rfl⟩ ⟨Nat.le_of_ble_eq_true rfl, Nat.le_of_ble_eq_true rfl⟩ grv_10 [.int a1] rfl (Nat.le_of_ble_eq_true rfl) hP hS hl.1 dX10_open_3 h (fun u hu => m_X10_isTeam l Γ a1 g u hu) (fun u1 H locs h hP hS => ?_) rfl
  refine lv_if_eq (tgt := 13) hx hb dX10_open_6 (by decide) (fun c2 => ?_) (fun c2 => ?_)
  · replace h := gpos c2 h
    refine lv_iconst (v := 1) hx hb dX10_open_13 (by decide) ?_
    exact bs_X10_open_14 C0  h hP hS (lv_sub hl [0, 1] rfl)
  · replace h := gneg c2 h
    refine lv_iconst (v := 0) hx hb dX10_open_9 (by decide) ?_
    refine lv_goto (tgt := 14) hx hb dX10_open_10 (by decide) ?_
    exact bs_X10_open_14 C0  h hP hS (lv_sub hl [0, 1] rfl)
set_option maxHeartbeats 2000000 in
set_option maxRecDepth 20000 in
theorem m_X10_adds (l : Launch) (Γ : gE) {r0 nr0 : Nat} (hr0 : isI r0 nr0)  (g : gG) (z : Int32 × gG) (h : f_X10_adds r0 nr0 g = some z) : gMi l yX10_adds cX10_adds 1 (some .boolean) 2 43 Γ [.ref (gB Γ + r0)] g z := by
  unfold f_X10_adds at h
  refine gStart (own := RX10) (by decide +kernel) rfl (Nat.le_of_ble_eq_true rfl) ?_
  intro p e s m below meth c C0 ls hl hP
  have hS : va_S (gA Γ) s.heap s.heap [] := va_S.rf
  have hl : lv_has ls 1 [(0, .ref (gB Γ + r0))] := hl
  obtain ⟨hx, hb, hml, hr, hown, hts, hK, hlk, hX⟩ := id C0
  refine lv_aload_n hx hb dX10_adds_0 rfl (lv_at hl 0 rfl) ?_
  refine lv_iconst (v := 1) hx hb dX10_adds_1 (by decide) ?_
  refine gIld hx hb hK hP hr0 dX10_adds_2 h (fun h => ?_)
  refine lv_iconst (v := 4) hx hb dX10_adds_3 (by decide) ?_
  refine lv_icmp_ne (tgt := 9) hx hb dX10_adds_4 (by decide) (fun c1 => ?_) (fun c1 => ?_)
  · replace h := gneg c1 h
    refine lv_aload_n hx hb dX10_adds_9 rfl (lv_at hl 0 rfl) ?_
    refine lv_aload_n hx hb dX10_adds_10 rfl (lv_at hl 0 rfl) ?_
    refine lv_iconst (v := 1) hx hb dX10_adds_11 (by decide) ?_
    refine gIld hx hb hK hP hr0 dX10_adds_12 h (fun h => ?_)
    refine gCSv (rest := []) C0 cal_X10_clearTeam wl_X10_229 wt_X10_clearTeam ⟨Nat.le_of_ble_eq_true rfl, Nat.le_of_ble_eq_true rfl⟩ ⟨Nat.le_of_ble_eq_true rfl, Nat.le_of_ble_eq_true rfl⟩ [.ref (gB Γ + r0), .int (g.1 r0 (1 : Int32).toNatClampNeg)] rfl (Nat.le_of_ble_eq_true rfl) hP hS hl.1 dX10_adds_13 h (fun u hu => m_X10_clearTeam l Γ hr0 (g.1 r0 (1 : Int32).toNatClampNeg) g u hu) (fun u2 H locs h hP hS => ?_) rfl
    refine lv_aload_n hx hb dX10_adds_16 rfl (lv_at hl 0 rfl) ?_
    refine lv_iconst (v := 1) hx hb dX10_adds_17 (by decide) ?_
    refine lv_dup2_11 hx hb dX10_adds_18 rfl rfl ?_
    refine gIld hx hb hK hP hr0 dX10_adds_19 h (fun h => ?_)
    refine lv_iconst (v := 1) hx hb dX10_adds_20 (by decide) ?_
    refine lv_iadd hx hb dX10_adds_21 ?_
    refine gIst hx hb hK hP hS hr0 dX10_adds_22 h (fun H locs g3 h hP hS => ?_)
    refine lv_iconst (v := 1) hx hb dX10_adds_23 (by decide) ?_
    exact gzret0 hx hb hr hlk hP hS rfl dX10_adds_24 h
  · replace h := gpos c1 h
    refine lv_iconst (v := 0) hx hb dX10_adds_7 (by decide) ?_
    exact gzret0 hx hb hr hlk hP hS rfl dX10_adds_8 h
set_option maxHeartbeats 2000000 in
set_option maxRecDepth 20000 in
theorem bs_X10_addTeam_16 {p : Program} {l : Launch} {e : Env} {s : State} {m : MethodId} {args : Array Value} {below : List Frame} {meth : Method} {c : Code} {Γ : gE} (C0 : gCx p s m args meth c Γ RX10 cX10_addTeam 1 (some .int))   {z : Int32 × gG}  {s1 : Int32} {g : gG} {H : Heap} {locs : List Loc} {ls : Array Slot}  (h : fs_X10_addTeam_16 s1 g = some z) (hP : va_P (gD Γ) gcls (lay Γ g) H) (hS : va_S (gA Γ) s.heap H locs) (hl : lv_has ls 1 [(0, .ref (gB Γ + 174))]) : W p l e (gRm 3 63) s m args below meth c H locs 0 0 (MQ below (gQi Γ z) args s 0 0 (gA Γ)) (F0 m 16 ls [.int s1, .ref (gB Γ + 174)]) := by
  unfold fs_X10_addTeam_16 at h
  obtain ⟨hx, hb, hml, hr, hown, hts, hK, hlk, hX⟩ := id C0
  refine gCVi (rest := []) C0 cal_X10_refused wl_X10_146 wi_X10_refused ws_X10_refused ⟨Nat.le_of_ble_eq_true rfl, Nat.le_of_ble_eq_true rfl⟩ ⟨Nat.le_of_ble_eq_true rfl, Nat.le_of_ble_eq_true rfl⟩ grv_10 [.int s1] rfl (Nat.le_of_ble_eq_true rfl) hP hS hl.1 dX10_addTeam_16 h (fun u hu => m_X10_refused l Γ s1 g u hu) (fun u1 H locs h hP hS => ?_) rfl
  refine lv_if_eq (tgt := 24) hx hb dX10_addTeam_19 (by decide) (fun c2 => ?_) (fun c2 => ?_)
  · replace h := gpos c2 h
    refine lv_aload_n hx hb dX10_addTeam_24 rfl (lv_at hl 0 rfl) ?_
    refine gCVv (rest := []) C0 cal_X10_note wl_X10_232 wi_X10_note ws_X10_note ⟨Nat.le_of_ble_eq_true rfl, Nat.le_of_ble_eq_true rfl⟩ ⟨Nat.le_of_ble_eq_true rfl, Nat.le_of_ble_eq_true rfl⟩ grv_10 [] rfl (Nat.le_of_ble_eq_true rfl) hP hS hl.1 dX10_addTeam_25 h (fun u hu => m_X10_note l Γ u1.2 u hu) (fun u3 H locs h hP hS => ?_) rfl
    refine lv_aload_n hx hb dX10_addTeam_28 rfl (lv_at hl 0 rfl) ?_
    refine gf_10_13 hx hb hown hts hK hP wf_X10_35 dX10_addTeam_29 ?_
    refine gCSi (rest := []) C0 cal_X10_adds wl_X10_235 wt_X10_adds ⟨Nat.le_of_ble_eq_true rfl, Nat.le_of_ble_eq_true rfl⟩ ⟨Nat.le_of_ble_eq_true rfl, Nat.le_of_ble_eq_true rfl⟩ [.ref (gB Γ + 183)] rfl (Nat.le_of_ble_eq_true rfl) hP hS hl.1 dX10_addTeam_32 h (fun u hu => m_X10_adds l Γ is_183 u3.2 u hu) (fun u4 H locs h hP hS => ?_) rfl
    refine lv_pop hx hb dX10_addTeam_35 rfl ?_
    refine lv_aload_n hx hb dX10_addTeam_36 rfl (lv_at hl 0 rfl) ?_
    refine gf_10_13 hx hb hown hts hK hP wf_X10_35 dX10_addTeam_37 ?_
    refine lv_iconst (v := 1) hx hb dX10_addTeam_40 (by decide) ?_
    refine gIld hx hb hK hP is_183 dX10_addTeam_41 h (fun h => ?_)
    refine lv_iconst (v := 1) hx hb dX10_addTeam_42 (by decide) ?_
    refine lv_isub hx hb dX10_addTeam_43 ?_
    exact giret hx hb hr hlk hP hS dX10_addTeam_44 h
  · replace h := gneg c2 h
    refine lv_iconst (v := 0) hx hb dX10_addTeam_22 (by decide) ?_
    exact giret hx hb hr hlk hP hS dX10_addTeam_23 h
set_option maxHeartbeats 2000000 in
set_option maxRecDepth 20000 in
theorem m_X10_addTeam (l : Launch) (Γ : gE)    (g : gG) (z : Int32 × gG) (h : f_X10_addTeam g = some z) : gMi l yX10_addTeam cX10_addTeam 1 (some .int) 3 63 Γ [.ref (gB Γ + 174)] g z := by
  unfold f_X10_addTeam at h
  refine gStart (own := RX10) (by decide +kernel) rfl (Nat.le_of_ble_eq_true rfl) ?_
  intro p e s m below meth c C0 ls hl hP
  have hS : va_S (gA Γ) s.heap s.heap [] := va_S.rf
  have hl : lv_has ls 1 [(0, .ref (gB Γ + 174))] := hl
  obtain ⟨hx, hb, hml, hr, hown, hts, hK, hlk, hX⟩ := id C0
  refine lv_aload_n hx hb dX10_addTeam_0 rfl (lv_at hl 0 rfl) ?_
  refine lv_aload_n hx hb dX10_addTeam_1 rfl (lv_at hl 0 rfl) ?_
  refine gf_10_13 hx hb hown hts hK hP wf_X10_35 dX10_addTeam_2 ?_
  refine lv_iconst (v := 1) hx hb dX10_addTeam_5 (by decide) ?_
  refine gIld hx hb hK hP is_183 dX10_addTeam_6 h (fun h => ?_)
  refine lv_iconst (v := 4) hx hb dX10_addTeam_7 (by decide) ?_
  refine lv_icmp_ne (tgt := 15) hx hb dX10_addTeam_8 (by decide) (fun c1 => ?_) (fun c1 => ?_)
  · replace h := gneg c1 h
    refine lv_iconst (v := 0) hx hb dX10_addTeam_15 (by decide) ?_
    exact bs_X10_addTeam_16 C0  h hP hS (lv_sub hl [0] rfl)
  · replace h := gpos c1 h
    refine lv_iconst (v := 1) hx hb dX10_addTeam_11 (by decide) ?_
    refine lv_goto (tgt := 16) hx hb dX10_addTeam_12 (by decide) ?_
    exact bs_X10_addTeam_16 C0  h hP hS (lv_sub hl [0] rfl)
set_option maxHeartbeats 2000000 in
set_option maxRecDepth 20000 in
theorem bs_X10_go_45 {p : Program} {l : Launch} {e : Env} {s : State} {m : MethodId} {args : Array Value} {below : List Frame} {meth : Method} {c : Code} {Γ : gE} (C0 : gCx p s m args meth c Γ RX10 cX10_go 3 (some .int))   {z : Int32 × gG}  {l1 : Int32} {l2 : Int32} {s1 : Int32} {g : gG} {H : Heap} {locs : List Loc} {ls : Array Slot}  (h : fs_X10_go_45 l1 l2 s1 g = some z) (hP : va_P (gD Γ) gcls (lay Γ g) H) (hS : va_S (gA Γ) s.heap H locs) (hl : lv_has ls 3 [(0, .ref (gB Γ + 174)), (1, .int l1), (2, .int l2)]) : W p l e (gRm 3 67) s m args below meth c H locs 0 0 (MQ below (gQi Γ z) args s 0 0 (gA Γ)) (F0 m 45 ls [.int s1, .ref (gB Γ + 174)]) := by
  unfold fs_X10_go_45 at h
  obtain ⟨hx, hb, hml, hr, hown, hts, hK, hlk, hX⟩ := id C0
  refine gCVi (rest := []) C0 cal_X10_refused wl_X10_146 wi_X10_refused ws_X10_refused ⟨Nat.le_of_ble_eq_true rfl, Nat.le_of_ble_eq_true rfl⟩ ⟨Nat.le_of_ble_eq_true rfl, Nat.le_of_ble_eq_true rfl⟩ grv_10 [.int s1] rfl (Nat.le_of_ble_eq_true rfl) hP hS hl.1 dX10_go_45 h (fun u hu => m_X10_refused l Γ s1 g u hu) (fun u1 H locs h hP hS => ?_) rfl
  refine lv_if_eq (tgt := 53) hx hb dX10_go_48 (by decide) (fun c2 => ?_) (fun c2 => ?_)
  · replace h := gpos c2 h
    refine lv_aload_n hx hb dX10_go_53 rfl (lv_at hl 0 rfl) ?_
    refine gCVv (rest := []) C0 cal_X10_note wl_X10_232 wi_X10_note ws_X10_note ⟨Nat.le_of_ble_eq_true rfl, Nat.le_of_ble_eq_true rfl⟩ ⟨Nat.le_of_ble_eq_true rfl, Nat.le_of_ble_eq_true rfl⟩ grv_10 [] rfl (Nat.le_of_ble_eq_true rfl) hP hS hl.1 dX10_go_54 h (fun u hu => m_X10_note l Γ u1.2 u hu) (fun u3 H locs h hP hS => ?_) rfl
    refine lv_aload_n hx hb dX10_go_57 rfl (lv_at hl 0 rfl) ?_
    refine gf_10_13 hx hb hown hts hK hP wf_X10_35 dX10_go_58 ?_
    refine lv_iload_n hx hb dX10_go_61 rfl (lv_at hl 1 rfl) ?_
    refine lv_iload_n hx hb dX10_go_62 rfl (lv_at hl 2 rfl) ?_
    refine gCSv (rest := []) C0 cal_X10_visit wl_X10_239 wt_X10_visit ⟨Nat.le_of_ble_eq_true rfl, Nat.le_of_ble_eq_true rfl⟩ ⟨Nat.le_of_ble_eq_true rfl, Nat.le_of_ble_eq_true rfl⟩ [.ref (gB Γ + 183), .int l1, .int l2] rfl (Nat.le_of_ble_eq_true rfl) hP hS hl.1 dX10_go_63 h (fun u hu => m_X10_visit l Γ is_183 l1 l2 u3.2 u hu) (fun u4 H locs h hP hS => ?_) rfl
    refine lv_aload_n hx hb dX10_go_66 rfl (lv_at hl 0 rfl) ?_
    refine gf_10_13 hx hb hown hts hK hP wf_X10_35 dX10_go_67 ?_
    refine lv_iload_n hx hb dX10_go_70 rfl (lv_at hl 1 rfl) ?_
    refine lv_iconst (v := 1) hx hb dX10_go_71 (by decide) ?_
    refine gCSi (rest := [.ref (gB Γ + 183)]) C0 cal_X10_cell wl_X10_101 wt_X10_cell ⟨Nat.le_of_ble_eq_true rfl, Nat.le_of_ble_eq_true rfl⟩ ⟨Nat.le_of_ble_eq_true rfl, Nat.le_of_ble_eq_true rfl⟩ [.int l1, .int (1 : Int32)] rfl (Nat.le_of_ble_eq_true rfl) hP hS hl.1 dX10_go_72 h (fun u hu => m_X10_cell l Γ l1 (1 : Int32) u4.2 u hu) (fun u5 H locs h hP hS => ?_) rfl
    refine gIld hx hb hK hP is_183 dX10_go_75 h (fun h => ?_)
    exact giret hx hb hr hlk hP hS dX10_go_76 h
  · replace h := gneg c2 h
    refine lv_iconst (v := 0) hx hb dX10_go_51 (by decide) ?_
    exact giret hx hb hr hlk hP hS dX10_go_52 h
set_option maxHeartbeats 2000000 in
set_option maxRecDepth 20000 in
theorem bs_X10_go_17 {p : Program} {l : Launch} {e : Env} {s : State} {m : MethodId} {args : Array Value} {below : List Frame} {meth : Method} {c : Code} {Γ : gE} (C0 : gCx p s m args meth c Γ RX10 cX10_go 3 (some .int))   {z : Int32 × gG}  {l1 : Int32} {l2 : Int32} {g : gG} {H : Heap} {locs : List Loc} {ls : Array Slot}  (h : fs_X10_go_17 l1 l2 g = some z) (hP : va_P (gD Γ) gcls (lay Γ g) H) (hS : va_S (gA Γ) s.heap H locs) (hl : lv_has ls 3 [(0, .ref (gB Γ + 174)), (1, .int l1), (2, .int l2)]) : W p l e (gRm 3 67) s m args below meth c H locs 0 0 (MQ below (gQi Γ z) args s 0 0 (gA Γ)) (F0 m 17 ls [.ref (gB Γ + 174)]) := by
  unfold fs_X10_go_17 at h
  obtain ⟨hx, hb, hml, hr, hown, hts, hK, hlk, hX⟩ := id C0
  refine lv_iconst (v := 1) hx hb dX10_go_17 (by decide) ?_
  refine lv_goto (tgt := 45) hx hb dX10_go_18 (by decide) ?_
  exact bs_X10_go_45 C0  h hP hS (lv_sub hl [0, 1, 2] rfl)
set_option maxHeartbeats 2000000 in
set_option maxRecDepth 20000 in
theorem m_X10_go (l : Launch) (Γ : gE)   (a1 : Int32) (a2 : Int32) (g : gG) (z : Int32 × gG) (h : f_X10_go a1 a2 g = some z) : gMi l yX10_go cX10_go 3 (some .int) 3 67 Γ [.ref (gB Γ + 174), .int a1, .int a2] g z := by
  unfold f_X10_go at h
  refine gStart (own := RX10) (by decide +kernel) rfl (Nat.le_of_ble_eq_true rfl) ?_
  intro p e s m below meth c C0 ls hl hP
  have hS : va_S (gA Γ) s.heap s.heap [] := va_S.rf
  have hl : lv_has ls 3 [(0, .ref (gB Γ + 174)), (1, .int a1), (2, .int a2)] := hl
  obtain ⟨hx, hb, hml, hr, hown, hts, hK, hlk, hX⟩ := id C0
  refine lv_aload_n hx hb dX10_go_0 rfl (lv_at hl 0 rfl) ?_
  refine lv_aload_n hx hb dX10_go_1 rfl (lv_at hl 0 rfl) ?_
  refine lv_iload_n hx hb dX10_go_2 rfl (lv_at hl 1 rfl) ?_
  refine gCVi (rest := [.ref (gB Γ + 174)]) C0 cal_X10_isTeam wl_X10_226 wi_X10_isTeam ws_X10_isTeam ⟨Nat.le_of_ble_eq_true rfl, Nat.le_of_ble_eq_true rfl⟩ ⟨Nat.le_of_ble_eq_true rfl, Nat.le_of_ble_eq_true rfl⟩ grv_10 [.int a1] rfl (Nat.le_of_ble_eq_true rfl) hP hS hl.1 dX10_go_3 h (fun u hu => m_X10_isTeam l Γ a1 g u hu) (fun u1 H locs h hP hS => ?_) rfl
  refine lv_if_eq (tgt := 17) hx hb dX10_go_6 (by decide) (fun c2 => ?_) (fun c2 => ?_)
  · replace h := gpos c2 h
    exact bs_X10_go_17 C0  h hP hS (lv_sub hl [0, 1, 2] rfl)
  · replace h := gneg c2 h
    refine lv_aload_n hx hb dX10_go_9 rfl (lv_at hl 0 rfl) ?_
    refine lv_iload_n hx hb dX10_go_10 rfl (lv_at hl 2 rfl) ?_
    refine gCVi (rest := [.ref (gB Γ + 174)]) C0 cal_X10_isPlace wl_X10_218 wi_X10_isPlace ws_X10_isPlace ⟨Nat.le_of_ble_eq_true rfl, Nat.le_of_ble_eq_true rfl⟩ ⟨Nat.le_of_ble_eq_true rfl, Nat.le_of_ble_eq_true rfl⟩ grv_10 [.int a2] rfl (Nat.le_of_ble_eq_true rfl) hP hS hl.1 dX10_go_11 h (fun u hu => m_X10_isPlace l Γ a2 u1.2 u hu) (fun u3 H locs h hP hS => ?_) rfl
    refine lv_if_ne (tgt := 21) hx hb dX10_go_14 (by decide) (fun c4 => ?_) (fun c4 => ?_)
    · replace h := gneg c4 h
      refine lv_aload_n hx hb dX10_go_21 rfl (lv_at hl 0 rfl) ?_
      refine gf_10_13 hx hb hown hts hK hP wf_X10_35 dX10_go_22 ?_
      refine lv_aload_n hx hb dX10_go_25 rfl (lv_at hl 0 rfl) ?_
      refine gf_10_13 hx hb hown hts hK hP wf_X10_35 dX10_go_26 ?_
      refine lv_iload_n hx hb dX10_go_29 rfl (lv_at hl 1 rfl) ?_
      refine gCSi (rest := [.ref (gB Γ + 183), .ref (gB Γ + 174)]) C0 cal_X10_visited wl_X10_104 wt_X10_visited ⟨Nat.le_of_ble_eq_true rfl, Nat.le_of_ble_eq_true rfl⟩ ⟨Nat.le_of_ble_eq_true rfl, Nat.le_of_ble_eq_true rfl⟩ [.ref (gB Γ + 183), .int a1] rfl (Nat.le_of_ble_eq_true rfl) hP hS hl.1 dX10_go_30 h (fun u hu => m_X10_visited l Γ is_183 a1 u3.2 u hu) (fun u5 H locs h hP hS => ?_) rfl
      refine lv_iload_n hx hb dX10_go_33 rfl (lv_at hl 2 rfl) ?_
      refine gCSi (rest := [.ref (gB Γ + 174)]) C0 cal_X10_canVisit wl_X10_98 wt_X10_canVisit ⟨Nat.le_of_ble_eq_true rfl, Nat.le_of_ble_eq_true rfl⟩ ⟨Nat.le_of_ble_eq_true rfl, Nat.le_of_ble_eq_true rfl⟩ [.ref (gB Γ + 183), .int u5.1, .int a2] rfl (Nat.le_of_ble_eq_true rfl) hP hS hl.1 dX10_go_34 h (fun u hu => m_X10_canVisit l Γ is_183 u5.1 a2 u5.2 u hu) (fun u6 H locs h hP hS => ?_) rfl
      refine lv_if_eq (tgt := 44) hx hb dX10_go_37 (by decide) (fun c7 => ?_) (fun c7 => ?_)
      · replace h := gpos c7 h
        refine lv_iconst (v := 2) hx hb dX10_go_44 (by decide) ?_
        exact bs_X10_go_45 C0  h hP hS (lv_sub hl [0, 1, 2] rfl)
      · replace h := gneg c7 h
        refine lv_iconst (v := 0) hx hb dX10_go_40 (by decide) ?_
        refine lv_goto (tgt := 45) hx hb dX10_go_41 (by decide) ?_
        exact bs_X10_go_45 C0  h hP hS (lv_sub hl [0, 1, 2] rfl)
    · replace h := gpos c4 h
      exact bs_X10_go_17 C0  h hP hS (lv_sub hl [0, 1, 2] rfl)
set_option maxHeartbeats 2000000 in
set_option maxRecDepth 20000 in
theorem bs_X10_hint_30 {p : Program} {l : Launch} {e : Env} {s : State} {m : MethodId} {args : Array Value} {below : List Frame} {meth : Method} {c : Code} {Γ : gE} (C0 : gCx p s m args meth c Γ RX10 cX10_hint 2 (some .int))   {z : Int32 × gG}  {l1 : Int32} {s1 : Int32} {g : gG} {H : Heap} {locs : List Loc} {ls : Array Slot}  (h : fs_X10_hint_30 l1 s1 g = some z) (hP : va_P (gD Γ) gcls (lay Γ g) H) (hS : va_S (gA Γ) s.heap H locs) (hl : lv_has ls 2 [(0, .ref (gB Γ + 174)), (1, .int l1)]) : W p l e (gRm 5 117) s m args below meth c H locs 0 0 (MQ below (gQi Γ z) args s 0 0 (gA Γ)) (F0 m 30 ls [.int s1, .ref (gB Γ + 174)]) := by
  unfold fs_X10_hint_30 at h
  obtain ⟨hx, hb, hml, hr, hown, hts, hK, hlk, hX⟩ := id C0
  refine gCVi (rest := []) C0 cal_X10_refused wl_X10_146 wi_X10_refused ws_X10_refused ⟨Nat.le_of_ble_eq_true rfl, Nat.le_of_ble_eq_true rfl⟩ ⟨Nat.le_of_ble_eq_true rfl, Nat.le_of_ble_eq_true rfl⟩ grv_10 [.int s1] rfl (Nat.le_of_ble_eq_true rfl) hP hS hl.1 dX10_hint_30 h (fun u hu => m_X10_refused l Γ s1 g u hu) (fun u1 H locs h hP hS => ?_) rfl
  refine lv_if_eq (tgt := 38) hx hb dX10_hint_33 (by decide) (fun c2 => ?_) (fun c2 => ?_)
  · replace h := gpos c2 h
    refine lv_aload_n hx hb dX10_hint_38 rfl (lv_at hl 0 rfl) ?_
    refine gCVv (rest := []) C0 cal_X10_note wl_X10_232 wi_X10_note ws_X10_note ⟨Nat.le_of_ble_eq_true rfl, Nat.le_of_ble_eq_true rfl⟩ ⟨Nat.le_of_ble_eq_true rfl, Nat.le_of_ble_eq_true rfl⟩ grv_10 [] rfl (Nat.le_of_ble_eq_true rfl) hP hS hl.1 dX10_hint_39 h (fun u hu => m_X10_note l Γ u1.2 u hu) (fun u3 H locs h hP hS => ?_) rfl
    refine lv_aload_n hx hb dX10_hint_42 rfl (lv_at hl 0 rfl) ?_
    refine gf_10_13 hx hb hown hts hK hP wf_X10_35 dX10_hint_43 ?_
    refine lv_iload_n hx hb dX10_hint_46 rfl (lv_at hl 1 rfl) ?_
    refine lv_iconst (v := 2) hx hb dX10_hint_47 (by decide) ?_
    refine gCSi (rest := [.ref (gB Γ + 183)]) C0 cal_X10_cell wl_X10_101 wt_X10_cell ⟨Nat.le_of_ble_eq_true rfl, Nat.le_of_ble_eq_true rfl⟩ ⟨Nat.le_of_ble_eq_true rfl, Nat.le_of_ble_eq_true rfl⟩ [.int l1, .int (2 : Int32)] rfl (Nat.le_of_ble_eq_true rfl) hP hS hl.1 dX10_hint_48 h (fun u hu => m_X10_cell l Γ l1 (2 : Int32) u3.2 u hu) (fun u4 H locs h hP hS => ?_) rfl
    refine lv_dup2_11 hx hb dX10_hint_51 rfl rfl ?_
    refine gIld hx hb hK hP is_183 dX10_hint_52 h (fun h => ?_)
    refine lv_iconst (v := 1) hx hb dX10_hint_53 (by decide) ?_
    refine lv_iadd hx hb dX10_hint_54 ?_
    refine gIst hx hb hK hP hS is_183 dX10_hint_55 h (fun H locs g5 h hP hS => ?_)
    refine lv_aload_n hx hb dX10_hint_56 rfl (lv_at hl 0 rfl) ?_
    refine lv_aload_n hx hb dX10_hint_57 rfl (lv_at hl 0 rfl) ?_
    refine gf_10_13 hx hb hown hts hK hP wf_X10_35 dX10_hint_58 ?_
    refine lv_iload_n hx hb dX10_hint_61 rfl (lv_at hl 1 rfl) ?_
    refine gCVi (rest := []) C0 cal_X10_safeOf wl_X10_243 wi_X10_safeOf ws_X10_safeOf ⟨Nat.le_of_ble_eq_true rfl, Nat.le_of_ble_eq_true rfl⟩ ⟨Nat.le_of_ble_eq_true rfl, Nat.le_of_ble_eq_true rfl⟩ grv_10 [.ref (gB Γ + 183), .int l1] rfl (Nat.le_of_ble_eq_true rfl) hP hS hl.1 dX10_hint_62 h (fun u hu => m_X10_safeOf l Γ is_183 l1 g5 u hu) (fun u6 H locs h hP hS => ?_) rfl
    refine gCSi (rest := []) C0 cal_X10_smallest wl_X10_246 wt_X10_smallest ⟨Nat.le_of_ble_eq_true rfl, Nat.le_of_ble_eq_true rfl⟩ ⟨Nat.le_of_ble_eq_true rfl, Nat.le_of_ble_eq_true rfl⟩ [.int u6.1] rfl (Nat.le_of_ble_eq_true rfl) hP hS hl.1 dX10_hint_65 h (fun u hu => m_X10_smallest l Γ u6.1 u6.2 u hu) (fun u7 H locs h hP hS => ?_) rfl
    exact giret hx hb hr hlk hP hS dX10_hint_68 h
  · replace h := gneg c2 h
    refine lv_iconst (v := 0) hx hb dX10_hint_36 (by decide) ?_
    exact giret hx hb hr hlk hP hS dX10_hint_37 h
set_option maxHeartbeats 2000000 in
set_option maxRecDepth 20000 in
theorem m_X10_hint (l : Launch) (Γ : gE)   (a1 : Int32) (g : gG) (z : Int32 × gG) (h : f_X10_hint a1 g = some z) : gMi l yX10_hint cX10_hint 2 (some .int) 5 117 Γ [.ref (gB Γ + 174), .int a1] g z := by
  unfold f_X10_hint at h
  refine gStart (own := RX10) (by decide +kernel) rfl (Nat.le_of_ble_eq_true rfl) ?_
  intro p e s m below meth c C0 ls hl hP
  have hS : va_S (gA Γ) s.heap s.heap [] := va_S.rf
  have hl : lv_has ls 2 [(0, .ref (gB Γ + 174)), (1, .int a1)] := hl
  obtain ⟨hx, hb, hml, hr, hown, hts, hK, hlk, hX⟩ := id C0
  refine lv_aload_n hx hb dX10_hint_0 rfl (lv_at hl 0 rfl) ?_
  refine lv_aload_n hx hb dX10_hint_1 rfl (lv_at hl 0 rfl) ?_
  refine lv_iload_n hx hb dX10_hint_2 rfl (lv_at hl 1 rfl) ?_
  refine gCVi (rest := [.ref (gB Γ + 174)]) C0 cal_X10_isTeam wl_X10_226 wi_X10_isTeam ws_X10_isTeam ⟨Nat.le_of_ble_eq_true rfl, Nat.le_of_ble_eq_true rfl⟩ ⟨Nat.le_of_ble_eq_true rfl, Nat.le_of_ble_eq_true rfl⟩ grv_10 [.int a1] rfl (Nat.le_of_ble_eq_true rfl) hP hS hl.1 dX10_hint_3 h (fun u hu => m_X10_isTeam l Γ a1 g u hu) (fun u1 H locs h hP hS => ?_) rfl
  refine lv_if_ne (tgt := 13) hx hb dX10_hint_6 (by decide) (fun c2 => ?_) (fun c2 => ?_)
  · replace h := gneg c2 h
    refine lv_aload_n hx hb dX10_hint_13 rfl (lv_at hl 0 rfl) ?_
    refine lv_aload_n hx hb dX10_hint_14 rfl (lv_at hl 0 rfl) ?_
    refine gf_10_13 hx hb hown hts hK hP wf_X10_35 dX10_hint_15 ?_
    refine lv_iload_n hx hb dX10_hint_18 rfl (lv_at hl 1 rfl) ?_
    refine gCVi (rest := [.ref (gB Γ + 174)]) C0 cal_X10_safeOf wl_X10_243 wi_X10_safeOf ws_X10_safeOf ⟨Nat.le_of_ble_eq_true rfl, Nat.le_of_ble_eq_true rfl⟩ ⟨Nat.le_of_ble_eq_true rfl, Nat.le_of_ble_eq_true rfl⟩ grv_10 [.ref (gB Γ + 183), .int a1] rfl (Nat.le_of_ble_eq_true rfl) hP hS hl.1 dX10_hint_19 h (fun u hu => m_X10_safeOf l Γ is_183 a1 u1.2 u hu) (fun u3 H locs h hP hS => ?_) rfl
    refine lv_if_ne (tgt := 29) hx hb dX10_hint_22 (by decide) (fun c4 => ?_) (fun c4 => ?_)
    · replace h := gneg c4 h
      refine lv_iconst (v := 0) hx hb dX10_hint_29 (by decide) ?_
      exact bs_X10_hint_30 C0  h hP hS (lv_sub hl [0, 1] rfl)
    · replace h := gpos c4 h
      refine lv_iconst (v := 2) hx hb dX10_hint_25 (by decide) ?_
      refine lv_goto (tgt := 30) hx hb dX10_hint_26 (by decide) ?_
      exact bs_X10_hint_30 C0  h hP hS (lv_sub hl [0, 1] rfl)
  · replace h := gpos c2 h
    refine lv_iconst (v := 1) hx hb dX10_hint_9 (by decide) ?_
    refine lv_goto (tgt := 30) hx hb dX10_hint_10 (by decide) ?_
    exact bs_X10_hint_30 C0  h hP hS (lv_sub hl [0, 1] rfl)
set_option maxHeartbeats 2000000 in
set_option maxRecDepth 20000 in
theorem bs_X10_giveUp_14 {p : Program} {l : Launch} {e : Env} {s : State} {m : MethodId} {args : Array Value} {below : List Frame} {meth : Method} {c : Code} {Γ : gE} (C0 : gCx p s m args meth c Γ RX10 cX10_giveUp 2 (some .int))   {z : Int32 × gG}  {l1 : Int32} {s1 : Int32} {g : gG} {H : Heap} {locs : List Loc} {ls : Array Slot}  (h : fs_X10_giveUp_14 l1 s1 g = some z) (hP : va_P (gD Γ) gcls (lay Γ g) H) (hS : va_S (gA Γ) s.heap H locs) (hl : lv_has ls 2 [(0, .ref (gB Γ + 174)), (1, .int l1)]) : W p l e (gRm 2 46) s m args below meth c H locs 0 0 (MQ below (gQi Γ z) args s 0 0 (gA Γ)) (F0 m 14 ls [.int s1, .ref (gB Γ + 174)]) := by
  unfold fs_X10_giveUp_14 at h
  obtain ⟨hx, hb, hml, hr, hown, hts, hK, hlk, hX⟩ := id C0
  refine gCVi (rest := []) C0 cal_X10_refused wl_X10_146 wi_X10_refused ws_X10_refused ⟨Nat.le_of_ble_eq_true rfl, Nat.le_of_ble_eq_true rfl⟩ ⟨Nat.le_of_ble_eq_true rfl, Nat.le_of_ble_eq_true rfl⟩ grv_10 [.int s1] rfl (Nat.le_of_ble_eq_true rfl) hP hS hl.1 dX10_giveUp_14 h (fun u hu => m_X10_refused l Γ s1 g u hu) (fun u1 H locs h hP hS => ?_) rfl
  refine lv_if_eq (tgt := 22) hx hb dX10_giveUp_17 (by decide) (fun c2 => ?_) (fun c2 => ?_)
  · replace h := gpos c2 h
    refine lv_aload_n hx hb dX10_giveUp_22 rfl (lv_at hl 0 rfl) ?_
    refine gCVv (rest := []) C0 cal_X10_note wl_X10_232 wi_X10_note ws_X10_note ⟨Nat.le_of_ble_eq_true rfl, Nat.le_of_ble_eq_true rfl⟩ ⟨Nat.le_of_ble_eq_true rfl, Nat.le_of_ble_eq_true rfl⟩ grv_10 [] rfl (Nat.le_of_ble_eq_true rfl) hP hS hl.1 dX10_giveUp_23 h (fun u hu => m_X10_note l Γ u1.2 u hu) (fun u3 H locs h hP hS => ?_) rfl
    refine lv_aload_n hx hb dX10_giveUp_26 rfl (lv_at hl 0 rfl) ?_
    refine gf_10_13 hx hb hown hts hK hP wf_X10_35 dX10_giveUp_27 ?_
    refine lv_iload_n hx hb dX10_giveUp_30 rfl (lv_at hl 1 rfl) ?_
    refine gCSv (rest := []) C0 cal_X10_drop wl_X10_249 wt_X10_drop ⟨Nat.le_of_ble_eq_true rfl, Nat.le_of_ble_eq_true rfl⟩ ⟨Nat.le_of_ble_eq_true rfl, Nat.le_of_ble_eq_true rfl⟩ [.ref (gB Γ + 183), .int l1] rfl (Nat.le_of_ble_eq_true rfl) hP hS hl.1 dX10_giveUp_31 h (fun u hu => m_X10_drop l Γ is_183 l1 u3.2 u hu) (fun u4 H locs h hP hS => ?_) rfl
    refine lv_aload_n hx hb dX10_giveUp_34 rfl (lv_at hl 0 rfl) ?_
    refine gf_10_13 hx hb hown hts hK hP wf_X10_35 dX10_giveUp_35 ?_
    refine lv_iconst (v := 1) hx hb dX10_giveUp_38 (by decide) ?_
    refine gIld hx hb hK hP is_183 dX10_giveUp_39 h (fun h => ?_)
    exact giret hx hb hr hlk hP hS dX10_giveUp_40 h
  · replace h := gneg c2 h
    refine lv_iconst (v := 0) hx hb dX10_giveUp_20 (by decide) ?_
    exact giret hx hb hr hlk hP hS dX10_giveUp_21 h
set_option maxHeartbeats 2000000 in
set_option maxRecDepth 20000 in
theorem m_X10_giveUp (l : Launch) (Γ : gE)   (a1 : Int32) (g : gG) (z : Int32 × gG) (h : f_X10_giveUp a1 g = some z) : gMi l yX10_giveUp cX10_giveUp 2 (some .int) 2 46 Γ [.ref (gB Γ + 174), .int a1] g z := by
  unfold f_X10_giveUp at h
  refine gStart (own := RX10) (by decide +kernel) rfl (Nat.le_of_ble_eq_true rfl) ?_
  intro p e s m below meth c C0 ls hl hP
  have hS : va_S (gA Γ) s.heap s.heap [] := va_S.rf
  have hl : lv_has ls 2 [(0, .ref (gB Γ + 174)), (1, .int a1)] := hl
  obtain ⟨hx, hb, hml, hr, hown, hts, hK, hlk, hX⟩ := id C0
  refine lv_aload_n hx hb dX10_giveUp_0 rfl (lv_at hl 0 rfl) ?_
  refine lv_aload_n hx hb dX10_giveUp_1 rfl (lv_at hl 0 rfl) ?_
  refine lv_iload_n hx hb dX10_giveUp_2 rfl (lv_at hl 1 rfl) ?_
  refine gCVi (rest := [.ref (gB Γ + 174)]) C0 cal_X10_isTeam wl_X10_226 wi_X10_isTeam ws_X10_isTeam ⟨Nat.le_of_ble_eq_true rfl, Nat.le_of_ble_eq_true rfl⟩ ⟨Nat.le_of_ble_eq_true rfl, Nat.le_of_ble_eq_true rfl⟩ grv_10 [.int a1] rfl (Nat.le_of_ble_eq_true rfl) hP hS hl.1 dX10_giveUp_3 h (fun u hu => m_X10_isTeam l Γ a1 g u hu) (fun u1 H locs h hP hS => ?_) rfl
  refine lv_if_eq (tgt := 13) hx hb dX10_giveUp_6 (by decide) (fun c2 => ?_) (fun c2 => ?_)
  · replace h := gpos c2 h
    refine lv_iconst (v := 1) hx hb dX10_giveUp_13 (by decide) ?_
    exact bs_X10_giveUp_14 C0  h hP hS (lv_sub hl [0, 1] rfl)
  · replace h := gneg c2 h
    refine lv_iconst (v := 0) hx hb dX10_giveUp_9 (by decide) ?_
    refine lv_goto (tgt := 14) hx hb dX10_giveUp_10 (by decide) ?_
    exact bs_X10_giveUp_14 C0  h hP hS (lv_sub hl [0, 1] rfl)
set_option maxHeartbeats 2000000 in
set_option maxRecDepth 20000 in
theorem bs_X10_move_42 {p : Program} {l : Launch} {e : Env} {s : State} {m : MethodId} {args : Array Value} {below : List Frame} {meth : Method} {c : Code} {Γ : gE} (C0 : gCx p s m args meth c Γ RX10 cX10_move 5 (some .int))   {z : Int32 × gG}  {l1 : Int32} {l2 : Int32} {l3 : Int32} {s1 : Int32} {g : gG} {H : Heap} {locs : List Loc} {ls : Array Slot}  (h : fs_X10_move_42 l1 l2 l3 s1 g = some z) (hP : va_P (gD Γ) gcls (lay Γ g) H) (hS : va_S (gA Γ) s.heap H locs) (hl : lv_has ls 5 [(0, .ref (gB Γ + 174)), (1, .int l1), (2, .int l2), (3, .int l3)]) : W p l e (gRm 2 46) s m args below meth c H locs 0 0 (MQ below (gQi Γ z) args s 0 0 (gA Γ)) (F0 m 42 ls [.int s1, .ref (gB Γ + 174)]) := by
  unfold fs_X10_move_42 at h
  obtain ⟨hx, hb, hml, hr, hown, hts, hK, hlk, hX⟩ := id C0
  refine gCVi (rest := []) C0 cal_X10_refused wl_X10_146 wi_X10_refused ws_X10_refused ⟨Nat.le_of_ble_eq_true rfl, Nat.le_of_ble_eq_true rfl⟩ ⟨Nat.le_of_ble_eq_true rfl, Nat.le_of_ble_eq_true rfl⟩ grv_10 [.int s1] rfl (Nat.le_of_ble_eq_true rfl) hP hS hl.1 dX10_move_42 h (fun u hu => m_X10_refused l Γ s1 g u hu) (fun u1 H locs h hP hS => ?_) rfl
  refine lv_if_eq (tgt := 50) hx hb dX10_move_45 (by decide) (fun c2 => ?_) (fun c2 => ?_)
  · replace h := gpos c2 h
    refine lv_aload_n hx hb dX10_move_50 rfl (lv_at hl 0 rfl) ?_
    refine gCVv (rest := []) C0 cal_X10_note wl_X10_232 wi_X10_note ws_X10_note ⟨Nat.le_of_ble_eq_true rfl, Nat.le_of_ble_eq_true rfl⟩ ⟨Nat.le_of_ble_eq_true rfl, Nat.le_of_ble_eq_true rfl⟩ grv_10 [] rfl (Nat.le_of_ble_eq_true rfl) hP hS hl.1 dX10_move_51 h (fun u hu => m_X10_note l Γ u1.2 u hu) (fun u3 H locs h hP hS => ?_) rfl
    refine lv_bipush (v := 10) hx hb dX10_move_54 (by decide) ?_
    refine lv_aload_n hx hb dX10_move_56 rfl (lv_at hl 0 rfl) ?_
    refine gf_10_13 hx hb hown hts hK hP wf_X10_35 dX10_move_57 ?_
    refine lv_iconst (v := 2) hx hb dX10_move_60 (by decide) ?_
    refine lv_iconst (v := 2) hx hb dX10_move_61 (by decide) ?_
    refine lv_iload_n hx hb dX10_move_62 rfl (lv_at hl 1 rfl) ?_
    refine lv_imul hx hb dX10_move_63 ?_
    refine lv_iadd hx hb dX10_move_64 ?_
    refine gIld hx hb hK hP is_183 dX10_move_65 h (fun h => ?_)
    refine lv_imul hx hb dX10_move_66 ?_
    refine lv_aload_n hx hb dX10_move_67 rfl (lv_at hl 0 rfl) ?_
    refine gf_10_13 hx hb hown hts hK hP wf_X10_35 dX10_move_68 ?_
    refine lv_iconst (v := 2) hx hb dX10_move_71 (by decide) ?_
    refine lv_iconst (v := 2) hx hb dX10_move_72 (by decide) ?_
    refine lv_iload_n hx hb dX10_move_73 rfl (lv_at hl 1 rfl) ?_
    refine lv_imul hx hb dX10_move_74 ?_
    refine lv_iadd hx hb dX10_move_75 ?_
    refine lv_iconst (v := 1) hx hb dX10_move_76 (by decide) ?_
    refine lv_iadd hx hb dX10_move_77 ?_
    refine gIld hx hb hK hP is_183 dX10_move_78 h (fun h => ?_)
    refine lv_iadd hx hb dX10_move_79 ?_
    refine lv_topi (fun x4 ex4 => ?_)
    replace h := gLetI ex4 h
    refine lv_istore (lv' := [(4, .int x4), (0, .ref (gB Γ + 174)), (1, .int l1), (2, .int l2), (3, .int l3)]) hx hb dX10_move_80 hl (by decide) rfl (fun ls hl => ?_)
    refine lv_aload_n hx hb dX10_move_82 rfl (lv_at hl 1 rfl) ?_
    refine gf_10_13 hx hb hown hts hK hP wf_X10_35 dX10_move_83 ?_
    refine lv_iconst (v := 2) hx hb dX10_move_86 (by decide) ?_
    refine lv_iconst (v := 2) hx hb dX10_move_87 (by decide) ?_
    refine lv_iload_n hx hb dX10_move_88 rfl (lv_at hl 2 rfl) ?_
    refine lv_imul hx hb dX10_move_89 ?_
    refine lv_iadd hx hb dX10_move_90 ?_
    refine lv_iload_n hx hb dX10_move_91 rfl (lv_at hl 3 rfl) ?_
    refine gIst hx hb hK hP hS is_183 dX10_move_92 h (fun H locs g5 h hP hS => ?_)
    refine lv_aload_n hx hb dX10_move_93 rfl (lv_at hl 1 rfl) ?_
    refine gf_10_13 hx hb hown hts hK hP wf_X10_35 dX10_move_94 ?_
    refine lv_iconst (v := 2) hx hb dX10_move_97 (by decide) ?_
    refine lv_iconst (v := 2) hx hb dX10_move_98 (by decide) ?_
    refine lv_iload_n hx hb dX10_move_99 rfl (lv_at hl 2 rfl) ?_
    refine lv_imul hx hb dX10_move_100 ?_
    refine lv_iadd hx hb dX10_move_101 ?_
    refine lv_iconst (v := 1) hx hb dX10_move_102 (by decide) ?_
    refine lv_iadd hx hb dX10_move_103 ?_
    refine lv_iload_n hx hb dX10_move_104 rfl (lv_at hl 4 rfl) ?_
    refine gIst hx hb hK hP hS is_183 dX10_move_105 h (fun H locs g6 h hP hS => ?_)
    refine lv_iload hx hb dX10_move_106 (lv_at hl 0 rfl) ?_
    exact giret hx hb hr hlk hP hS dX10_move_108 h
  · replace h := gneg c2 h
    refine lv_iconst (v := 0) hx hb dX10_move_48 (by decide) ?_
    exact giret hx hb hr hlk hP hS dX10_move_49 h
set_option maxHeartbeats 2000000 in
set_option maxRecDepth 20000 in
theorem bs_X10_move_41 {p : Program} {l : Launch} {e : Env} {s : State} {m : MethodId} {args : Array Value} {below : List Frame} {meth : Method} {c : Code} {Γ : gE} (C0 : gCx p s m args meth c Γ RX10 cX10_move 5 (some .int))   {z : Int32 × gG}  {l1 : Int32} {l2 : Int32} {l3 : Int32} {g : gG} {H : Heap} {locs : List Loc} {ls : Array Slot}  (h : fs_X10_move_41 l1 l2 l3 g = some z) (hP : va_P (gD Γ) gcls (lay Γ g) H) (hS : va_S (gA Γ) s.heap H locs) (hl : lv_has ls 5 [(0, .ref (gB Γ + 174)), (1, .int l1), (2, .int l2), (3, .int l3)]) : W p l e (gRm 2 46) s m args below meth c H locs 0 0 (MQ below (gQi Γ z) args s 0 0 (gA Γ)) (F0 m 41 ls [.ref (gB Γ + 174)]) := by
  unfold fs_X10_move_41 at h
  obtain ⟨hx, hb, hml, hr, hown, hts, hK, hlk, hX⟩ := id C0
  refine lv_iconst (v := 2) hx hb dX10_move_41 (by decide) ?_
  exact bs_X10_move_42 C0  h hP hS (lv_sub hl [0, 1, 2, 3] rfl)
set_option maxHeartbeats 2000000 in
set_option maxRecDepth 20000 in
theorem m_X10_move (l : Launch) (Γ : gE)   (a1 : Int32) (a2 : Int32) (a3 : Int32) (g : gG) (z : Int32 × gG) (h : f_X10_move a1 a2 a3 g = some z) : gMi l yX10_move cX10_move 5 (some .int) 2 46 Γ [.ref (gB Γ + 174), .int a1, .int a2, .int a3] g z := by
  unfold f_X10_move at h
  refine gStart (own := RX10) (by decide +kernel) rfl (Nat.le_of_ble_eq_true rfl) ?_
  intro p e s m below meth c C0 ls hl hP
  have hS : va_S (gA Γ) s.heap s.heap [] := va_S.rf
  have hl : lv_has ls 5 [(0, .ref (gB Γ + 174)), (1, .int a1), (2, .int a2), (3, .int a3)] := hl
  obtain ⟨hx, hb, hml, hr, hown, hts, hK, hlk, hX⟩ := id C0
  refine lv_aload_n hx hb dX10_move_0 rfl (lv_at hl 0 rfl) ?_
  refine lv_aload_n hx hb dX10_move_1 rfl (lv_at hl 0 rfl) ?_
  refine lv_iload_n hx hb dX10_move_2 rfl (lv_at hl 1 rfl) ?_
  refine gCVi (rest := [.ref (gB Γ + 174)]) C0 cal_X10_isPlace wl_X10_218 wi_X10_isPlace ws_X10_isPlace ⟨Nat.le_of_ble_eq_true rfl, Nat.le_of_ble_eq_true rfl⟩ ⟨Nat.le_of_ble_eq_true rfl, Nat.le_of_ble_eq_true rfl⟩ grv_10 [.int a1] rfl (Nat.le_of_ble_eq_true rfl) hP hS hl.1 dX10_move_3 h (fun u hu => m_X10_isPlace l Γ a1 g u hu) (fun u1 H locs h hP hS => ?_) rfl
  refine lv_if_ne (tgt := 13) hx hb dX10_move_6 (by decide) (fun c2 => ?_) (fun c2 => ?_)
  · replace h := gneg c2 h
    refine lv_iload_n hx hb dX10_move_13 rfl (lv_at hl 2 rfl) ?_
    refine lv_i2l hx hb dX10_move_14 rfl ?_
    refine lv_lconst (v := 0) hx hb dX10_move_15 (by decide) ?_
    refine lv_ldc2 (v := 9) hx hb hown (hts _ wkl_X10_157) dX10_move_16 ?_
    refine gCSi (rest := [.ref (gB Γ + 174)]) C0 cal_X10_in wl_X10_139 wt_X10_in ⟨Nat.le_of_ble_eq_true rfl, Nat.le_of_ble_eq_true rfl⟩ ⟨Nat.le_of_ble_eq_true rfl, Nat.le_of_ble_eq_true rfl⟩ [.long a2.toInt64, .long (0 : Int64), .long (9 : Int64)] rfl (Nat.le_of_ble_eq_true rfl) hP hS hl.1 dX10_move_19 h (fun u hu => m_X10_in l Γ a2.toInt64 (0 : Int64) (9 : Int64) u1.2 u hu) (fun u3 H locs h hP hS => ?_) rfl
    refine lv_if_eq (tgt := 41) hx hb dX10_move_22 (by decide) (fun c4 => ?_) (fun c4 => ?_)
    · replace h := gpos c4 h
      exact bs_X10_move_41 C0  h hP hS (lv_sub hl [0, 1, 2, 3] rfl)
    · replace h := gneg c4 h
      refine lv_iload_n hx hb dX10_move_25 rfl (lv_at hl 3 rfl) ?_
      refine lv_i2l hx hb dX10_move_26 rfl ?_
      refine lv_lconst (v := 0) hx hb dX10_move_27 (by decide) ?_
      refine lv_ldc2 (v := 9) hx hb hown (hts _ wkl_X10_157) dX10_move_28 ?_
      refine gCSi (rest := [.ref (gB Γ + 174)]) C0 cal_X10_in wl_X10_139 wt_X10_in ⟨Nat.le_of_ble_eq_true rfl, Nat.le_of_ble_eq_true rfl⟩ ⟨Nat.le_of_ble_eq_true rfl, Nat.le_of_ble_eq_true rfl⟩ [.long a3.toInt64, .long (0 : Int64), .long (9 : Int64)] rfl (Nat.le_of_ble_eq_true rfl) hP hS hl.1 dX10_move_31 h (fun u hu => m_X10_in l Γ a3.toInt64 (0 : Int64) (9 : Int64) u3.2 u hu) (fun u5 H locs h hP hS => ?_) rfl
      refine lv_if_eq (tgt := 41) hx hb dX10_move_34 (by decide) (fun c6 => ?_) (fun c6 => ?_)
      · replace h := gpos c6 h
        exact bs_X10_move_41 C0  h hP hS (lv_sub hl [0, 1, 2, 3] rfl)
      · replace h := gneg c6 h
        refine lv_iconst (v := 0) hx hb dX10_move_37 (by decide) ?_
        refine lv_goto (tgt := 42) hx hb dX10_move_38 (by decide) ?_
        exact bs_X10_move_42 C0  h hP hS (lv_sub hl [0, 1, 2, 3] rfl)
  · replace h := gpos c2 h
    refine lv_iconst (v := 1) hx hb dX10_move_9 (by decide) ?_
    refine lv_goto (tgt := 42) hx hb dX10_move_10 (by decide) ?_
    exact bs_X10_move_42 C0  h hP hS (lv_sub hl [0, 1, 2, 3] rfl)
set_option maxHeartbeats 2000000 in
set_option maxRecDepth 20000 in
theorem bs_X10_ease_14 {p : Program} {l : Launch} {e : Env} {s : State} {m : MethodId} {args : Array Value} {below : List Frame} {meth : Method} {c : Code} {Γ : gE} (C0 : gCx p s m args meth c Γ RX10 cX10_ease 3 (some .int))   {z : Int32 × gG}  {l1 : Int32} {s1 : Int32} {g : gG} {H : Heap} {locs : List Loc} {ls : Array Slot}  (h : fs_X10_ease_14 l1 s1 g = some z) (hP : va_P (gD Γ) gcls (lay Γ g) H) (hS : va_S (gA Γ) s.heap H locs) (hl : lv_has ls 3 [(0, .ref (gB Γ + 174)), (1, .int l1)]) : W p l e (gRm 3 66) s m args below meth c H locs 0 0 (MQ below (gQi Γ z) args s 0 0 (gA Γ)) (F0 m 14 ls [.int s1, .ref (gB Γ + 174)]) := by
  unfold fs_X10_ease_14 at h
  obtain ⟨hx, hb, hml, hr, hown, hts, hK, hlk, hX⟩ := id C0
  refine gCVi (rest := []) C0 cal_X10_refused wl_X10_146 wi_X10_refused ws_X10_refused ⟨Nat.le_of_ble_eq_true rfl, Nat.le_of_ble_eq_true rfl⟩ ⟨Nat.le_of_ble_eq_true rfl, Nat.le_of_ble_eq_true rfl⟩ grv_10 [.int s1] rfl (Nat.le_of_ble_eq_true rfl) hP hS hl.1 dX10_ease_14 h (fun u hu => m_X10_refused l Γ s1 g u hu) (fun u1 H locs h hP hS => ?_) rfl
  refine lv_if_eq (tgt := 22) hx hb dX10_ease_17 (by decide) (fun c2 => ?_) (fun c2 => ?_)
  · replace h := gpos c2 h
    refine lv_aload_n hx hb dX10_ease_22 rfl (lv_at hl 0 rfl) ?_
    refine gCVv (rest := []) C0 cal_X10_note wl_X10_232 wi_X10_note ws_X10_note ⟨Nat.le_of_ble_eq_true rfl, Nat.le_of_ble_eq_true rfl⟩ ⟨Nat.le_of_ble_eq_true rfl, Nat.le_of_ble_eq_true rfl⟩ grv_10 [] rfl (Nat.le_of_ble_eq_true rfl) hP hS hl.1 dX10_ease_23 h (fun u hu => m_X10_note l Γ u1.2 u hu) (fun u3 H locs h hP hS => ?_) rfl
    refine lv_aload_n hx hb dX10_ease_26 rfl (lv_at hl 0 rfl) ?_
    refine gf_10_13 hx hb hown hts hK hP wf_X10_35 dX10_ease_27 ?_
    refine lv_iload_n hx hb dX10_ease_30 rfl (lv_at hl 1 rfl) ?_
    refine gCSi (rest := []) C0 cal_X10_heldBy wl_X10_223 wt_X10_heldBy ⟨Nat.le_of_ble_eq_true rfl, Nat.le_of_ble_eq_true rfl⟩ ⟨Nat.le_of_ble_eq_true rfl, Nat.le_of_ble_eq_true rfl⟩ [.ref (gB Γ + 183), .int l1] rfl (Nat.le_of_ble_eq_true rfl) hP hS hl.1 dX10_ease_31 h (fun u hu => m_X10_heldBy l Γ is_183 l1 u3.2 u hu) (fun u4 H locs h hP hS => ?_) rfl
    refine lv_topi (fun x5 ex5 => ?_)
    replace h := gLetI ex5 h
    refine lv_istore_n (lv' := [(2, .int x5), (0, .ref (gB Γ + 174)), (1, .int l1)]) hx hb dX10_ease_34 rfl hl (by decide) rfl (fun ls hl => ?_)
    refine lv_aload_n hx hb dX10_ease_35 rfl (lv_at hl 1 rfl) ?_
    refine gf_10_13 hx hb hown hts hK hP wf_X10_35 dX10_ease_36 ?_
    refine lv_iload_n hx hb dX10_ease_39 rfl (lv_at hl 2 rfl) ?_
    refine gCSv (rest := []) C0 cal_X10_makeEasy wl_X10_252 wt_X10_makeEasy ⟨Nat.le_of_ble_eq_true rfl, Nat.le_of_ble_eq_true rfl⟩ ⟨Nat.le_of_ble_eq_true rfl, Nat.le_of_ble_eq_true rfl⟩ [.ref (gB Γ + 183), .int l1] rfl (Nat.le_of_ble_eq_true rfl) hP hS hl.1 dX10_ease_40 h (fun u hu => m_X10_makeEasy l Γ is_183 l1 u4.2 u hu) (fun u6 H locs h hP hS => ?_) rfl
    refine lv_iload_n hx hb dX10_ease_43 rfl (lv_at hl 0 rfl) ?_
    exact giret hx hb hr hlk hP hS dX10_ease_44 h
  · replace h := gneg c2 h
    refine lv_iconst (v := 0) hx hb dX10_ease_20 (by decide) ?_
    exact giret hx hb hr hlk hP hS dX10_ease_21 h
set_option maxHeartbeats 2000000 in
set_option maxRecDepth 20000 in
theorem m_X10_ease (l : Launch) (Γ : gE)   (a1 : Int32) (g : gG) (z : Int32 × gG) (h : f_X10_ease a1 g = some z) : gMi l yX10_ease cX10_ease 3 (some .int) 3 66 Γ [.ref (gB Γ + 174), .int a1] g z := by
  unfold f_X10_ease at h
  refine gStart (own := RX10) (by decide +kernel) rfl (Nat.le_of_ble_eq_true rfl) ?_
  intro p e s m below meth c C0 ls hl hP
  have hS : va_S (gA Γ) s.heap s.heap [] := va_S.rf
  have hl : lv_has ls 3 [(0, .ref (gB Γ + 174)), (1, .int a1)] := hl
  obtain ⟨hx, hb, hml, hr, hown, hts, hK, hlk, hX⟩ := id C0
  refine lv_aload_n hx hb dX10_ease_0 rfl (lv_at hl 0 rfl) ?_
  refine lv_aload_n hx hb dX10_ease_1 rfl (lv_at hl 0 rfl) ?_
  refine lv_iload_n hx hb dX10_ease_2 rfl (lv_at hl 1 rfl) ?_
  refine gCVi (rest := [.ref (gB Γ + 174)]) C0 cal_X10_isPlace wl_X10_218 wi_X10_isPlace ws_X10_isPlace ⟨Nat.le_of_ble_eq_true rfl, Nat.le_of_ble_eq_true rfl⟩ ⟨Nat.le_of_ble_eq_true rfl, Nat.le_of_ble_eq_true rfl⟩ grv_10 [.int a1] rfl (Nat.le_of_ble_eq_true rfl) hP hS hl.1 dX10_ease_3 h (fun u hu => m_X10_isPlace l Γ a1 g u hu) (fun u1 H locs h hP hS => ?_) rfl
  refine lv_if_eq (tgt := 13) hx hb dX10_ease_6 (by decide) (fun c2 => ?_) (fun c2 => ?_)
  · replace h := gpos c2 h
    refine lv_iconst (v := 1) hx hb dX10_ease_13 (by decide) ?_
    exact bs_X10_ease_14 C0  h hP hS (lv_sub hl [0, 1] rfl)
  · replace h := gneg c2 h
    refine lv_iconst (v := 0) hx hb dX10_ease_9 (by decide) ?_
    refine lv_goto (tgt := 14) hx hb dX10_ease_10 (by decide) ?_
    exact bs_X10_ease_14 C0  h hP hS (lv_sub hl [0, 1] rfl)
set_option maxHeartbeats 2000000 in
set_option maxRecDepth 20000 in
theorem bs_X10_undo_13 {p : Program} {l : Launch} {e : Env} {s : State} {m : MethodId} {args : Array Value} {below : List Frame} {meth : Method} {c : Code} {Γ : gE} (C0 : gCx p s m args meth c Γ RX10 cX10_undo 1 (some .int))   {z : Int32 × gG}  {s1 : Int32} {g : gG} {H : Heap} {locs : List Loc} {ls : Array Slot}  (h : fs_X10_undo_13 s1 g = some z) (hP : va_P (gD Γ) gcls (lay Γ g) H) (hS : va_S (gA Γ) s.heap H locs) (hl : lv_has ls 1 [(0, .ref (gB Γ + 174))]) : W p l e (gRm 1 25) s m args below meth c H locs 0 0 (MQ below (gQi Γ z) args s 0 0 (gA Γ)) (F0 m 13 ls [.int s1, .ref (gB Γ + 174)]) := by
  unfold fs_X10_undo_13 at h
  obtain ⟨hx, hb, hml, hr, hown, hts, hK, hlk, hX⟩ := id C0
  refine gCVi (rest := []) C0 cal_X10_refused wl_X10_146 wi_X10_refused ws_X10_refused ⟨Nat.le_of_ble_eq_true rfl, Nat.le_of_ble_eq_true rfl⟩ ⟨Nat.le_of_ble_eq_true rfl, Nat.le_of_ble_eq_true rfl⟩ grv_10 [.int s1] rfl (Nat.le_of_ble_eq_true rfl) hP hS hl.1 dX10_undo_13 h (fun u hu => m_X10_refused l Γ s1 g u hu) (fun u1 H locs h hP hS => ?_) rfl
  refine lv_if_eq (tgt := 21) hx hb dX10_undo_16 (by decide) (fun c2 => ?_) (fun c2 => ?_)
  · replace h := gpos c2 h
    refine lv_aload_n hx hb dX10_undo_21 rfl (lv_at hl 0 rfl) ?_
    refine lv_dup hx hb dX10_undo_22 rfl ?_
    refine gf_10_16 hx hb hown hts hK hP wf_X10_79 dX10_undo_23 ?_
    refine lv_iconst (v := 1) hx hb dX10_undo_26 (by decide) ?_
    refine lv_isub hx hb dX10_undo_27 ?_
    refine gp_10_16 hx hb hown hts hK hP hS wf_X10_79 dX10_undo_28 h (fun H locs g3 h hP hS => ?_)
    refine lv_aload_n hx hb dX10_undo_31 rfl (lv_at hl 0 rfl) ?_
    refine gf_10_15 hx hb hown hts hK hP wf_X10_41 dX10_undo_32 ?_
    refine lv_sipush (v := 394) hx hb dX10_undo_35 (by decide) ?_
    refine lv_aload_n hx hb dX10_undo_38 rfl (lv_at hl 0 rfl) ?_
    refine gf_10_16 hx hb hown hts hK hP wf_X10_79 dX10_undo_39 ?_
    refine lv_imul hx hb dX10_undo_42 ?_
    refine lv_aload_n hx hb dX10_undo_43 rfl (lv_at hl 0 rfl) ?_
    refine gf_10_13 hx hb hown hts hK hP wf_X10_35 dX10_undo_44 ?_
    refine lv_iconst (v := 0) hx hb dX10_undo_47 (by decide) ?_
    refine lv_sipush (v := 394) hx hb dX10_undo_48 (by decide) ?_
    refine gCSv (rest := []) C0 cal_X10_copy wl_X10_82 wt_X10_copy ⟨Nat.le_of_ble_eq_true rfl, Nat.le_of_ble_eq_true rfl⟩ ⟨Nat.le_of_ble_eq_true rfl, Nat.le_of_ble_eq_true rfl⟩ [.ref (gB Γ + 185), .int ((394 : Int32) * (g3.1 174 16)), .ref (gB Γ + 183), .int (0 : Int32), .int (394 : Int32)] rfl (Nat.le_of_ble_eq_true rfl) hP hS hl.1 dX10_undo_51 h (fun u hu => m_X10_copy l Γ is_185 is_183 ((394 : Int32) * (g3.1 174 16)) (0 : Int32) (394 : Int32) g3 u hu) (fun u4 H locs h hP hS => ?_) rfl
    refine lv_aload_n hx hb dX10_undo_54 rfl (lv_at hl 0 rfl) ?_
    refine gf_10_16 hx hb hown hts hK hP wf_X10_79 dX10_undo_55 ?_
    exact giret hx hb hr hlk hP hS dX10_undo_58 h
  · replace h := gneg c2 h
    refine lv_iconst (v := 0) hx hb dX10_undo_19 (by decide) ?_
    exact giret hx hb hr hlk hP hS dX10_undo_20 h
set_option maxHeartbeats 2000000 in
set_option maxRecDepth 20000 in
theorem m_X10_undo (l : Launch) (Γ : gE)    (g : gG) (z : Int32 × gG) (h : f_X10_undo g = some z) : gMi l yX10_undo cX10_undo 1 (some .int) 1 25 Γ [.ref (gB Γ + 174)] g z := by
  unfold f_X10_undo at h
  refine gStart (own := RX10) (by decide +kernel) rfl (Nat.le_of_ble_eq_true rfl) ?_
  intro p e s m below meth c C0 ls hl hP
  have hS : va_S (gA Γ) s.heap s.heap [] := va_S.rf
  have hl : lv_has ls 1 [(0, .ref (gB Γ + 174))] := hl
  obtain ⟨hx, hb, hml, hr, hown, hts, hK, hlk, hX⟩ := id C0
  refine lv_aload_n hx hb dX10_undo_0 rfl (lv_at hl 0 rfl) ?_
  refine lv_aload_n hx hb dX10_undo_1 rfl (lv_at hl 0 rfl) ?_
  refine gf_10_16 hx hb hown hts hK hP wf_X10_79 dX10_undo_2 ?_
  refine lv_if_ne (tgt := 12) hx hb dX10_undo_5 (by decide) (fun c1 => ?_) (fun c1 => ?_)
  · replace h := gneg c1 h
    refine lv_iconst (v := 0) hx hb dX10_undo_12 (by decide) ?_
    exact bs_X10_undo_13 C0  h hP hS (lv_sub hl [0] rfl)
  · replace h := gpos c1 h
    refine lv_iconst (v := 1) hx hb dX10_undo_8 (by decide) ?_
    refine lv_goto (tgt := 13) hx hb dX10_undo_9 (by decide) ?_
    exact bs_X10_undo_13 C0  h hP hS (lv_sub hl [0] rfl)
set_option maxHeartbeats 2000000 in
set_option maxRecDepth 20000 in
theorem bs_X10_shortest_103 {p : Program} {l : Launch} {e : Env} {s : State} {m : MethodId} {args : Array Value} {below : List Frame} {meth : Method} {c : Code} {Γ : gE} (C0 : gCx p s m args meth c Γ RX10 cX10_shortest 5 (some .int))   {z : Int32 × gG} {F103 : Int32 → Int32 → gG → Option (Int32 × gG)} {l3 : Int32} {l4 : Int32} {g : gG} {H : Heap} {locs : List Loc} {ls : Array Slot} (hF103 : ∀ (l3 : Int32) (l4 : Int32) (g : gG) (H : Heap) (locs : List Loc) (ls : Array Slot), F103 l3 l4 g = some z → va_P (gD Γ) gcls (lay Γ g) H → va_S (gA Γ) s.heap H locs → lv_has ls 5 [(0, .ref (gB Γ + 174)), (3, .int l3), (4, .int l4)] → W p l e (gRm 4 91) s m args below meth c H locs 0 0 (MQ below (gQi Γ z) args s 0 0 (gA Γ)) (F0 m 103 ls [])) (h : fs_X10_shortest_103 F103 l3 l4 g = some z) (hP : va_P (gD Γ) gcls (lay Γ g) H) (hS : va_S (gA Γ) s.heap H locs) (hl : lv_has ls 5 [(0, .ref (gB Γ + 174)), (3, .int l3), (4, .int l4)]) : W p l e (gRm 4 91) s m args below meth c H locs 0 0 (MQ below (gQi Γ z) args s 0 0 (gA Γ)) (F0 m 103 ls []) := by
  unfold fs_X10_shortest_103 at h
  obtain ⟨hx, hb, hml, hr, hown, hts, hK, hlk, hX⟩ := id C0
  refine lv_iload hx hb dX10_shortest_103 (lv_at hl 2 rfl) ?_
  refine lv_aload_n hx hb dX10_shortest_105 rfl (lv_at hl 0 rfl) ?_
  refine gf_10_13 hx hb hown hts hK hP wf_X10_35 dX10_shortest_106 ?_
  refine gCSi (rest := [.int l4]) C0 cal_X10_chest wl_X10_94 wt_X10_chest ⟨Nat.le_of_ble_eq_true rfl, Nat.le_of_ble_eq_true rfl⟩ ⟨Nat.le_of_ble_eq_true rfl, Nat.le_of_ble_eq_true rfl⟩ [.ref (gB Γ + 183)] rfl (Nat.le_of_ble_eq_true rfl) hP hS hl.1 dX10_shortest_109 h (fun u hu => m_X10_chest l Γ is_183 g u hu) (fun u1 H locs h hP hS => ?_) rfl
  refine lv_icmp_ge (tgt := 159) hx hb dX10_shortest_112 (by decide) (fun c2 => ?_) (fun c2 => ?_)
  · replace h := gpos c2 h
    refine lv_aload_n hx hb dX10_shortest_159 rfl (lv_at hl 0 rfl) ?_
    refine gf_10_13 hx hb hown hts hK hP wf_X10_35 dX10_shortest_160 ?_
    refine gCSi (rest := []) C0 cal_X10_chest wl_X10_94 wt_X10_chest ⟨Nat.le_of_ble_eq_true rfl, Nat.le_of_ble_eq_true rfl⟩ ⟨Nat.le_of_ble_eq_true rfl, Nat.le_of_ble_eq_true rfl⟩ [.ref (gB Γ + 183)] rfl (Nat.le_of_ble_eq_true rfl) hP hS hl.1 dX10_shortest_163 h (fun u hu => m_X10_chest l Γ is_183 u1.2 u hu) (fun u3 H locs h hP hS => ?_) rfl
    exact giret hx hb hr hlk hP hS dX10_shortest_166 h
  · replace h := gneg c2 h
    refine lv_aload_n hx hb dX10_shortest_115 rfl (lv_at hl 0 rfl) ?_
    refine gf_10_13 hx hb hown hts hK hP wf_X10_35 dX10_shortest_116 ?_
    refine lv_iload_n hx hb dX10_shortest_119 rfl (lv_at hl 1 rfl) ?_
    refine lv_iload hx hb dX10_shortest_120 (lv_at hl 2 rfl) ?_
    refine gCSi (rest := []) C0 cal_X10_canVisit wl_X10_98 wt_X10_canVisit ⟨Nat.le_of_ble_eq_true rfl, Nat.le_of_ble_eq_true rfl⟩ ⟨Nat.le_of_ble_eq_true rfl, Nat.le_of_ble_eq_true rfl⟩ [.ref (gB Γ + 183), .int l3, .int l4] rfl (Nat.le_of_ble_eq_true rfl) hP hS hl.1 dX10_shortest_122 h (fun u hu => m_X10_canVisit l Γ is_183 l3 l4 u1.2 u hu) (fun u4 H locs h hP hS => ?_) rfl
    refine lv_if_eq (tgt := 153) hx hb dX10_shortest_125 (by decide) (fun c5 => ?_) (fun c5 => ?_)
    · replace h := gpos c5 h
      obtain ⟨x6, ex6⟩ : ∃ y : Int32, y = l4 + (1 : Int32) := ⟨_, rfl⟩
      replace h := gLetI ex6 h
      refine lv_iinc (v := x6) (lv' := [(4, .int x6), (0, .ref (gB Γ + 174)), (3, .int l3)]) hx hb dX10_shortest_153 hl (k := 2) rfl (by rw [ex6]; rfl) (by decide) rfl (fun ls hl => ?_)
      refine lv_goto (tgt := 103) hx hb dX10_shortest_156 (by decide) ?_
      exact hF103 _ _ _ _ _ _ h hP hS (lv_sub hl [1, 2, 0] rfl)
    · replace h := gneg c5 h
      refine lv_aload_n hx hb dX10_shortest_128 rfl (lv_at hl 0 rfl) ?_
      refine gf_10_21 hx hb hown hts hK hP wf_X10_56 dX10_shortest_129 ?_
      refine lv_iload_n hx hb dX10_shortest_132 rfl (lv_at hl 1 rfl) ?_
      refine lv_iconst (v := 1) hx hb dX10_shortest_133 (by decide) ?_
      refine lv_iload hx hb dX10_shortest_134 (lv_at hl 2 rfl) ?_
      refine lv_ishl hx hb dX10_shortest_136 ?_
      refine lv_ior hx hb dX10_shortest_137 ?_
      refine gIld hx hb hK hP is_190 dX10_shortest_138 h (fun h => ?_)
      refine lv_aload_n hx hb dX10_shortest_139 rfl (lv_at hl 0 rfl) ?_
      refine gf_10_21 hx hb hown hts hK hP wf_X10_56 dX10_shortest_140 ?_
      refine lv_iload_n hx hb dX10_shortest_143 rfl (lv_at hl 1 rfl) ?_
      refine gIld hx hb hK hP is_190 dX10_shortest_144 h (fun h => ?_)
      refine lv_iconst (v := 1) hx hb dX10_shortest_145 (by decide) ?_
      refine lv_isub hx hb dX10_shortest_146 ?_
      refine lv_icmp_ne (tgt := 153) hx hb dX10_shortest_147 (by decide) (fun c7 => ?_) (fun c7 => ?_)
      · replace h := gneg c7 h
        obtain ⟨x8, ex8⟩ : ∃ y : Int32, y = l4 + (1 : Int32) := ⟨_, rfl⟩
        replace h := gLetI ex8 h
        refine lv_iinc (v := x8) (lv' := [(4, .int x8), (0, .ref (gB Γ + 174)), (3, .int l3)]) hx hb dX10_shortest_153 hl (k := 2) rfl (by rw [ex8]; rfl) (by decide) rfl (fun ls hl => ?_)
        refine lv_goto (tgt := 103) hx hb dX10_shortest_156 (by decide) ?_
        exact hF103 _ _ _ _ _ _ h hP hS (lv_sub hl [1, 2, 0] rfl)
      · replace h := gpos c7 h
        refine lv_iload hx hb dX10_shortest_150 (lv_at hl 2 rfl) ?_
        exact giret hx hb hr hlk hP hS dX10_shortest_152 h
set_option maxHeartbeats 2000000 in
set_option maxRecDepth 20000 in
theorem bk_X10_shortest_103 {p : Program} {l : Launch} {e : Env} {s : State} {m : MethodId} {args : Array Value} {below : List Frame} {meth : Method} {c : Code} {Γ : gE} (C0 : gCx p s m args meth c Γ RX10 cX10_shortest 5 (some .int))   {z : Int32 × gG}   : ∀ (n : Nat) (l3 : Int32) (l4 : Int32) (g : gG) (H : Heap) (locs : List Loc) (ls : Array Slot), fb_X10_shortest_103 n l3 l4 g = some z → va_P (gD Γ) gcls (lay Γ g) H → va_S (gA Γ) s.heap H locs → lv_has ls 5 [(0, .ref (gB Γ + 174)), (3, .int l3), (4, .int l4)] → W p l e (gRm 4 91) s m args below meth c H locs 0 0 (MQ below (gQi Γ z) args s 0 0 (gA Γ)) (F0 m 103 ls []) := by
  intro n
  induction n with
  | zero => intro l3 l4 g H locs ls h hP hS hl; cases h
  | succ n ih => intro l3 l4 g H locs ls h hP hS hl; exact bs_X10_shortest_103 C0  ih h hP hS hl
set_option maxHeartbeats 2000000 in
set_option maxRecDepth 20000 in
theorem bs_X10_shortest_28 {p : Program} {l : Launch} {e : Env} {s : State} {m : MethodId} {args : Array Value} {below : List Frame} {meth : Method} {c : Code} {Γ : gE} (C0 : gCx p s m args meth c Γ RX10 cX10_shortest 5 (some .int))   {z : Int32 × gG}  {l1 : Int32} {l2 : Int32} {s1 : Int32} {g : gG} {H : Heap} {locs : List Loc} {ls : Array Slot}  (h : fs_X10_shortest_28 l1 l2 s1 g = some z) (hP : va_P (gD Γ) gcls (lay Γ g) H) (hS : va_S (gA Γ) s.heap H locs) (hl : lv_has ls 5 [(0, .ref (gB Γ + 174)), (1, .int l1), (2, .int l2)]) : W p l e (gRm 4 91) s m args below meth c H locs 0 0 (MQ below (gQi Γ z) args s 0 0 (gA Γ)) (F0 m 28 ls [.int s1, .ref (gB Γ + 174)]) := by
  unfold fs_X10_shortest_28 at h
  obtain ⟨hx, hb, hml, hr, hown, hts, hK, hlk, hX⟩ := id C0
  refine gCVi (rest := []) C0 cal_X10_refused wl_X10_146 wi_X10_refused ws_X10_refused ⟨Nat.le_of_ble_eq_true rfl, Nat.le_of_ble_eq_true rfl⟩ ⟨Nat.le_of_ble_eq_true rfl, Nat.le_of_ble_eq_true rfl⟩ grv_10 [.int s1] rfl (Nat.le_of_ble_eq_true rfl) hP hS hl.1 dX10_shortest_28 h (fun u hu => m_X10_refused l Γ s1 g u hu) (fun u1 H locs h hP hS => ?_) rfl
  refine lv_if_eq (tgt := 36) hx hb dX10_shortest_31 (by decide) (fun c2 => ?_) (fun c2 => ?_)
  · replace h := gpos c2 h
    refine lv_aload_n hx hb dX10_shortest_36 rfl (lv_at hl 0 rfl) ?_
    refine gf_10_13 hx hb hown hts hK hP wf_X10_35 dX10_shortest_37 ?_
    refine lv_iload_n hx hb dX10_shortest_40 rfl (lv_at hl 1 rfl) ?_
    refine gCSi (rest := []) C0 cal_X10_visited wl_X10_104 wt_X10_visited ⟨Nat.le_of_ble_eq_true rfl, Nat.le_of_ble_eq_true rfl⟩ ⟨Nat.le_of_ble_eq_true rfl, Nat.le_of_ble_eq_true rfl⟩ [.ref (gB Γ + 183), .int l1] rfl (Nat.le_of_ble_eq_true rfl) hP hS hl.1 dX10_shortest_41 h (fun u hu => m_X10_visited l Γ is_183 l1 u1.2 u hu) (fun u3 H locs h hP hS => ?_) rfl
    refine lv_topi (fun x4 ex4 => ?_)
    replace h := gLetI ex4 h
    refine lv_istore_n (lv' := [(3, .int x4), (0, .ref (gB Γ + 174)), (1, .int l1), (2, .int l2)]) hx hb dX10_shortest_44 rfl hl (by decide) rfl (fun ls hl => ?_)
    refine lv_aload_n hx hb dX10_shortest_45 rfl (lv_at hl 1 rfl) ?_
    refine gf_10_13 hx hb hown hts hK hP wf_X10_35 dX10_shortest_46 ?_
    refine lv_iload_n hx hb dX10_shortest_49 rfl (lv_at hl 2 rfl) ?_
    refine gCSi (rest := []) C0 cal_X10_isThere wl_X10_108 wt_X10_isThere ⟨Nat.le_of_ble_eq_true rfl, Nat.le_of_ble_eq_true rfl⟩ ⟨Nat.le_of_ble_eq_true rfl, Nat.le_of_ble_eq_true rfl⟩ [.ref (gB Γ + 183), .int l1] rfl (Nat.le_of_ble_eq_true rfl) hP hS hl.1 dX10_shortest_50 h (fun u hu => m_X10_isThere l Γ is_183 l1 u3.2 u hu) (fun u5 H locs h hP hS => ?_) rfl
    refine lv_if_eq (tgt := 67) hx hb dX10_shortest_53 (by decide) (fun c6 => ?_) (fun c6 => ?_)
    · replace h := gpos c6 h
      refine lv_aload_n hx hb dX10_shortest_67 rfl (lv_at hl 1 rfl) ?_
      refine lv_aload_n hx hb dX10_shortest_68 rfl (lv_at hl 1 rfl) ?_
      refine gf_10_13 hx hb hown hts hK hP wf_X10_35 dX10_shortest_69 ?_
      refine gCVv (rest := []) C0 cal_X10_layFewest wl_X10_255 wi_X10_layFewest ws_X10_layFewest ⟨Nat.le_of_ble_eq_true rfl, Nat.le_of_ble_eq_true rfl⟩ ⟨Nat.le_of_ble_eq_true rfl, Nat.le_of_ble_eq_true rfl⟩ grv_10 [.ref (gB Γ + 183)] rfl (Nat.le_of_ble_eq_true rfl) hP hS hl.1 dX10_shortest_72 h (fun u hu => m_X10_layFewest l Γ is_183 u5.2 u hu) (fun u7 H locs h hP hS => ?_) rfl
      refine lv_aload_n hx hb dX10_shortest_75 rfl (lv_at hl 1 rfl) ?_
      refine gf_10_21 hx hb hown hts hK hP wf_X10_56 dX10_shortest_76 ?_
      refine lv_iload_n hx hb dX10_shortest_79 rfl (lv_at hl 0 rfl) ?_
      refine gIld hx hb hK hP is_190 dX10_shortest_80 h (fun h => ?_)
      refine lv_ldc (v := 99999999) hx hb hown (hts _ wk_X10_129) dX10_shortest_81 ?_
      refine lv_icmp_lt (tgt := 89) hx hb dX10_shortest_83 (by decide) (fun c8 => ?_) (fun c8 => ?_)
      · replace h := gpos c8 h
        refine lv_iload_n hx hb dX10_shortest_89 rfl (lv_at hl 3 rfl) ?_
        refine lv_if_ne (tgt := 100) hx hb dX10_shortest_90 (by decide) (fun c9 => ?_) (fun c9 => ?_)
        · replace h := gneg c9 h
          refine lv_iconst (v := 0) hx hb dX10_shortest_100 (by decide) ?_
          refine lv_istore (lv' := [(4, .int (0 : Int32)), (3, .int x4), (0, .ref (gB Γ + 174)), (1, .int l1), (2, .int l2)]) hx hb dX10_shortest_101 hl (by decide) rfl (fun ls hl => ?_)
          exact bk_X10_shortest_103 C0  gFuel _ _ _ _ _ _ h hP hS (lv_sub hl [2, 1, 0] rfl)
        · replace h := gpos c9 h
          refine lv_aload_n hx hb dX10_shortest_93 rfl (lv_at hl 1 rfl) ?_
          refine gf_10_21 hx hb hown hts hK hP wf_X10_56 dX10_shortest_94 ?_
          refine lv_iload_n hx hb dX10_shortest_97 rfl (lv_at hl 0 rfl) ?_
          refine gIld hx hb hK hP is_190 dX10_shortest_98 h (fun h => ?_)
          exact giret hx hb hr hlk hP hS dX10_shortest_99 h
      · replace h := gneg c8 h
        refine lv_bipush (v := -9) hx hb dX10_shortest_86 (by decide) ?_
        exact giret hx hb hr hlk hP hS dX10_shortest_88 h
    · replace h := gneg c6 h
      refine lv_iload_n hx hb dX10_shortest_56 rfl (lv_at hl 3 rfl) ?_
      refine lv_if_ne (tgt := 64) hx hb dX10_shortest_57 (by decide) (fun c10 => ?_) (fun c10 => ?_)
      · replace h := gneg c10 h
        refine lv_bipush (v := -9) hx hb dX10_shortest_64 (by decide) ?_
        exact giret hx hb hr hlk hP hS dX10_shortest_66 h
      · replace h := gpos c10 h
        refine lv_iconst (v := 0) hx hb dX10_shortest_60 (by decide) ?_
        refine lv_goto (tgt := 66) hx hb dX10_shortest_61 (by decide) ?_
        exact giret hx hb hr hlk hP hS dX10_shortest_66 h
  · replace h := gneg c2 h
    refine lv_iconst (v := 0) hx hb dX10_shortest_34 (by decide) ?_
    exact giret hx hb hr hlk hP hS dX10_shortest_35 h
set_option maxHeartbeats 2000000 in
set_option maxRecDepth 20000 in
theorem m_X10_shortest (l : Launch) (Γ : gE)   (a1 : Int32) (a2 : Int32) (g : gG) (z : Int32 × gG) (h : f_X10_shortest a1 a2 g = some z) : gMi l yX10_shortest cX10_shortest 5 (some .int) 4 91 Γ [.ref (gB Γ + 174), .int a1, .int a2] g z := by
  unfold f_X10_shortest at h
  refine gStart (own := RX10) (by decide +kernel) rfl (Nat.le_of_ble_eq_true rfl) ?_
  intro p e s m below meth c C0 ls hl hP
  have hS : va_S (gA Γ) s.heap s.heap [] := va_S.rf
  have hl : lv_has ls 5 [(0, .ref (gB Γ + 174)), (1, .int a1), (2, .int a2)] := hl
  obtain ⟨hx, hb, hml, hr, hown, hts, hK, hlk, hX⟩ := id C0
  refine lv_aload_n hx hb dX10_shortest_0 rfl (lv_at hl 0 rfl) ?_
  refine lv_aload_n hx hb dX10_shortest_1 rfl (lv_at hl 0 rfl) ?_
  refine lv_iload_n hx hb dX10_shortest_2 rfl (lv_at hl 1 rfl) ?_
  refine gCVi (rest := [.ref (gB Γ + 174)]) C0 cal_X10_isTeam wl_X10_226 wi_X10_isTeam ws_X10_isTeam ⟨Nat.le_of_ble_eq_true rfl, Nat.le_of_ble_eq_true rfl⟩ ⟨Nat.le_of_ble_eq_true rfl, Nat.le_of_ble_eq_true rfl⟩ grv_10 [.int a1] rfl (Nat.le_of_ble_eq_true rfl) hP hS hl.1 dX10_shortest_3 h (fun u hu => m_X10_isTeam l Γ a1 g u hu) (fun u1 H locs h hP hS => ?_) rfl
  refine lv_if_ne (tgt := 13) hx hb dX10_shortest_6 (by decide) (fun c2 => ?_) (fun c2 => ?_)
  · replace h := gneg c2 h
    refine lv_iload_n hx hb dX10_shortest_13 rfl (lv_at hl 2 rfl) ?_
    refine lv_i2l hx hb dX10_shortest_14 rfl ?_
    refine lv_lconst (v := 0) hx hb dX10_shortest_15 (by decide) ?_
    refine lv_lconst (v := 1) hx hb dX10_shortest_16 (by decide) ?_
    refine gCSi (rest := [.ref (gB Γ + 174)]) C0 cal_X10_in wl_X10_139 wt_X10_in ⟨Nat.le_of_ble_eq_true rfl, Nat.le_of_ble_eq_true rfl⟩ ⟨Nat.le_of_ble_eq_true rfl, Nat.le_of_ble_eq_true rfl⟩ [.long a2.toInt64, .long (0 : Int64), .long (1 : Int64)] rfl (Nat.le_of_ble_eq_true rfl) hP hS hl.1 dX10_shortest_17 h (fun u hu => m_X10_in l Γ a2.toInt64 (0 : Int64) (1 : Int64) u1.2 u hu) (fun u3 H locs h hP hS => ?_) rfl
    refine lv_if_eq (tgt := 27) hx hb dX10_shortest_20 (by decide) (fun c4 => ?_) (fun c4 => ?_)
    · replace h := gpos c4 h
      refine lv_iconst (v := 2) hx hb dX10_shortest_27 (by decide) ?_
      exact bs_X10_shortest_28 C0  h hP hS (lv_sub hl [0, 1, 2] rfl)
    · replace h := gneg c4 h
      refine lv_iconst (v := 0) hx hb dX10_shortest_23 (by decide) ?_
      refine lv_goto (tgt := 28) hx hb dX10_shortest_24 (by decide) ?_
      exact bs_X10_shortest_28 C0  h hP hS (lv_sub hl [0, 1, 2] rfl)
  · replace h := gpos c2 h
    refine lv_iconst (v := 1) hx hb dX10_shortest_9 (by decide) ?_
    refine lv_goto (tgt := 28) hx hb dX10_shortest_10 (by decide) ?_
    exact bs_X10_shortest_28 C0  h hP hS (lv_sub hl [0, 1, 2] rfl)
set_option maxHeartbeats 2000000 in
set_option maxRecDepth 20000 in
theorem bs_X10_quickest_109 {p : Program} {l : Launch} {e : Env} {s : State} {m : MethodId} {args : Array Value} {below : List Frame} {meth : Method} {c : Code} {Γ : gE} (C0 : gCx p s m args meth c Γ RX10 cX10_quickest 7 (some .int))   {z : Int32 × gG}  {l5 : Int32} {g : gG} {H : Heap} {locs : List Loc} {ls : Array Slot}  (h : fs_X10_quickest_109 l5 g = some z) (hP : va_P (gD Γ) gcls (lay Γ g) H) (hS : va_S (gA Γ) s.heap H locs) (hl : lv_has ls 7 [(5, .int l5)]) : W p l e (gRm 5 120) s m args below meth c H locs 0 0 (MQ below (gQi Γ z) args s 0 0 (gA Γ)) (F0 m 109 ls []) := by
  unfold fs_X10_quickest_109 at h
  obtain ⟨hx, hb, hml, hr, hown, hts, hK, hlk, hX⟩ := id C0
  refine lv_iload hx hb dX10_quickest_109 (lv_at hl 0 rfl) ?_
  refine lv_ldc (v := 99999999) hx hb hown (hts _ wk_X10_129) dX10_quickest_111 ?_
  refine lv_icmp_lt (tgt := 121) hx hb dX10_quickest_113 (by decide) (fun c1 => ?_) (fun c1 => ?_)
  · replace h := gpos c1 h
    refine lv_iload hx hb dX10_quickest_121 (lv_at hl 0 rfl) ?_
    exact giret hx hb hr hlk hP hS dX10_quickest_123 h
  · replace h := gneg c1 h
    refine lv_bipush (v := -9) hx hb dX10_quickest_116 (by decide) ?_
    refine lv_goto (tgt := 123) hx hb dX10_quickest_118 (by decide) ?_
    exact giret hx hb hr hlk hP hS dX10_quickest_123 h
set_option maxHeartbeats 2000000 in
set_option maxRecDepth 20000 in
theorem bs_X10_quickest_127 {p : Program} {l : Launch} {e : Env} {s : State} {m : MethodId} {args : Array Value} {below : List Frame} {meth : Method} {c : Code} {Γ : gE} (C0 : gCx p s m args meth c Γ RX10 cX10_quickest 7 (some .int))   {z : Int32 × gG} {F127 : Int32 → Int32 → Int32 → Int32 → gG → Option (Int32 × gG)} {l3 : Int32} {l4 : Int32} {l5 : Int32} {l6 : Int32} {g : gG} {H : Heap} {locs : List Loc} {ls : Array Slot} (hF127 : ∀ (l3 : Int32) (l4 : Int32) (l5 : Int32) (l6 : Int32) (g : gG) (H : Heap) (locs : List Loc) (ls : Array Slot), F127 l3 l4 l5 l6 g = some z → va_P (gD Γ) gcls (lay Γ g) H → va_S (gA Γ) s.heap H locs → lv_has ls 7 [(0, .ref (gB Γ + 174)), (3, .int l3), (4, .int l4), (5, .int l5), (6, .int l6)] → W p l e (gRm 5 120) s m args below meth c H locs 0 0 (MQ below (gQi Γ z) args s 0 0 (gA Γ)) (F0 m 127 ls [])) (h : fs_X10_quickest_127 F127 l3 l4 l5 l6 g = some z) (hP : va_P (gD Γ) gcls (lay Γ g) H) (hS : va_S (gA Γ) s.heap H locs) (hl : lv_has ls 7 [(0, .ref (gB Γ + 174)), (3, .int l3), (4, .int l4), (5, .int l5), (6, .int l6)]) : W p l e (gRm 5 120) s m args below meth c H locs 0 0 (MQ below (gQi Γ z) args s 0 0 (gA Γ)) (F0 m 127 ls []) := by
  unfold fs_X10_quickest_127 at h
  obtain ⟨hx, hb, hml, hr, hown, hts, hK, hlk, hX⟩ := id C0
  refine lv_aload_n hx hb dX10_quickest_127 rfl (lv_at hl 0 rfl) ?_
  refine gf_10_13 hx hb hown hts hK hP wf_X10_35 dX10_quickest_128 ?_
  refine lv_iload_n hx hb dX10_quickest_131 rfl (lv_at hl 1 rfl) ?_
  refine lv_iload hx hb dX10_quickest_132 (lv_at hl 4 rfl) ?_
  refine gCSi (rest := []) C0 cal_X10_canVisit wl_X10_98 wt_X10_canVisit ⟨Nat.le_of_ble_eq_true rfl, Nat.le_of_ble_eq_true rfl⟩ ⟨Nat.le_of_ble_eq_true rfl, Nat.le_of_ble_eq_true rfl⟩ [.ref (gB Γ + 183), .int l3, .int l6] rfl (Nat.le_of_ble_eq_true rfl) hP hS hl.1 dX10_quickest_134 h (fun u hu => m_X10_canVisit l Γ is_183 l3 l6 g u hu) (fun u1 H locs h hP hS => ?_) rfl
  refine lv_if_eq (tgt := 158) hx hb dX10_quickest_137 (by decide) (fun c2 => ?_) (fun c2 => ?_)
  · replace h := gpos c2 h
    obtain ⟨x3, ex3⟩ : ∃ y : Int32, y = l6 + (1 : Int32) := ⟨_, rfl⟩
    replace h := gLetI ex3 h
    refine lv_iinc (v := x3) (lv' := [(6, .int x3), (0, .ref (gB Γ + 174)), (3, .int l3), (4, .int l4), (5, .int l5)]) hx hb dX10_quickest_158 hl (k := 4) rfl (by rw [ex3]; rfl) (by decide) rfl (fun ls hl => ?_)
    refine lv_goto (tgt := 127) hx hb dX10_quickest_161 (by decide) ?_
    exact hF127 _ _ _ _ _ _ _ _ h hP hS (lv_sub hl [1, 2, 3, 4, 0] rfl)
  · replace h := gneg c2 h
    refine lv_aload_n hx hb dX10_quickest_140 rfl (lv_at hl 0 rfl) ?_
    refine lv_aload_n hx hb dX10_quickest_141 rfl (lv_at hl 0 rfl) ?_
    refine gf_10_13 hx hb hown hts hK hP wf_X10_35 dX10_quickest_142 ?_
    refine lv_iload_n hx hb dX10_quickest_145 rfl (lv_at hl 1 rfl) ?_
    refine lv_iload hx hb dX10_quickest_146 (lv_at hl 2 rfl) ?_
    refine lv_iload hx hb dX10_quickest_148 (lv_at hl 4 rfl) ?_
    refine gCVi (rest := []) C0 cal_X10_costBy wl_X10_133 wi_X10_costBy ws_X10_costBy ⟨Nat.le_of_ble_eq_true rfl, Nat.le_of_ble_eq_true rfl⟩ ⟨Nat.le_of_ble_eq_true rfl, Nat.le_of_ble_eq_true rfl⟩ grv_10 [.ref (gB Γ + 183), .int l3, .int l4, .int l6] rfl (Nat.le_of_ble_eq_true rfl) hP hS hl.1 dX10_quickest_150 h (fun u hu => m_X10_costBy l Γ is_183 l3 l4 l6 u1.2 u hu) (fun u4 H locs h hP hS => ?_) rfl
    refine lv_iload hx hb dX10_quickest_153 (lv_at hl 3 rfl) ?_
    refine lv_icmp_eq (tgt := 164) hx hb dX10_quickest_155 (by decide) (fun c5 => ?_) (fun c5 => ?_)
    · replace h := gpos c5 h
      refine lv_iload hx hb dX10_quickest_164 (lv_at hl 4 rfl) ?_
      exact giret hx hb hr hlk hP hS dX10_quickest_166 h
    · replace h := gneg c5 h
      obtain ⟨x6, ex6⟩ : ∃ y : Int32, y = l6 + (1 : Int32) := ⟨_, rfl⟩
      replace h := gLetI ex6 h
      refine lv_iinc (v := x6) (lv' := [(6, .int x6), (0, .ref (gB Γ + 174)), (3, .int l3), (4, .int l4), (5, .int l5)]) hx hb dX10_quickest_158 hl (k := 4) rfl (by rw [ex6]; rfl) (by decide) rfl (fun ls hl => ?_)
      refine lv_goto (tgt := 127) hx hb dX10_quickest_161 (by decide) ?_
      exact hF127 _ _ _ _ _ _ _ _ h hP hS (lv_sub hl [1, 2, 3, 4, 0] rfl)
set_option maxHeartbeats 2000000 in
set_option maxRecDepth 20000 in
theorem bk_X10_quickest_127 {p : Program} {l : Launch} {e : Env} {s : State} {m : MethodId} {args : Array Value} {below : List Frame} {meth : Method} {c : Code} {Γ : gE} (C0 : gCx p s m args meth c Γ RX10 cX10_quickest 7 (some .int))   {z : Int32 × gG}   : ∀ (n : Nat) (l3 : Int32) (l4 : Int32) (l5 : Int32) (l6 : Int32) (g : gG) (H : Heap) (locs : List Loc) (ls : Array Slot), fb_X10_quickest_127 n l3 l4 l5 l6 g = some z → va_P (gD Γ) gcls (lay Γ g) H → va_S (gA Γ) s.heap H locs → lv_has ls 7 [(0, .ref (gB Γ + 174)), (3, .int l3), (4, .int l4), (5, .int l5), (6, .int l6)] → W p l e (gRm 5 120) s m args below meth c H locs 0 0 (MQ below (gQi Γ z) args s 0 0 (gA Γ)) (F0 m 127 ls []) := by
  intro n
  induction n with
  | zero => intro l3 l4 l5 l6 g H locs ls h hP hS hl; cases h
  | succ n ih => intro l3 l4 l5 l6 g H locs ls h hP hS hl; exact bs_X10_quickest_127 C0  ih h hP hS hl
set_option maxHeartbeats 2000000 in
set_option maxRecDepth 20000 in
theorem bs_X10_quickest_28 {p : Program} {l : Launch} {e : Env} {s : State} {m : MethodId} {args : Array Value} {below : List Frame} {meth : Method} {c : Code} {Γ : gE} (C0 : gCx p s m args meth c Γ RX10 cX10_quickest 7 (some .int))   {z : Int32 × gG}  {l1 : Int32} {l2 : Int32} {s1 : Int32} {g : gG} {H : Heap} {locs : List Loc} {ls : Array Slot}  (h : fs_X10_quickest_28 l1 l2 s1 g = some z) (hP : va_P (gD Γ) gcls (lay Γ g) H) (hS : va_S (gA Γ) s.heap H locs) (hl : lv_has ls 7 [(0, .ref (gB Γ + 174)), (1, .int l1), (2, .int l2)]) : W p l e (gRm 5 120) s m args below meth c H locs 0 0 (MQ below (gQi Γ z) args s 0 0 (gA Γ)) (F0 m 28 ls [.int s1, .ref (gB Γ + 174)]) := by
  unfold fs_X10_quickest_28 at h
  obtain ⟨hx, hb, hml, hr, hown, hts, hK, hlk, hX⟩ := id C0
  refine gCVi (rest := []) C0 cal_X10_refused wl_X10_146 wi_X10_refused ws_X10_refused ⟨Nat.le_of_ble_eq_true rfl, Nat.le_of_ble_eq_true rfl⟩ ⟨Nat.le_of_ble_eq_true rfl, Nat.le_of_ble_eq_true rfl⟩ grv_10 [.int s1] rfl (Nat.le_of_ble_eq_true rfl) hP hS hl.1 dX10_quickest_28 h (fun u hu => m_X10_refused l Γ s1 g u hu) (fun u1 H locs h hP hS => ?_) rfl
  refine lv_if_eq (tgt := 36) hx hb dX10_quickest_31 (by decide) (fun c2 => ?_) (fun c2 => ?_)
  · replace h := gpos c2 h
    refine lv_aload_n hx hb dX10_quickest_36 rfl (lv_at hl 0 rfl) ?_
    refine gf_10_13 hx hb hown hts hK hP wf_X10_35 dX10_quickest_37 ?_
    refine lv_iload_n hx hb dX10_quickest_40 rfl (lv_at hl 1 rfl) ?_
    refine gCSi (rest := []) C0 cal_X10_visited wl_X10_104 wt_X10_visited ⟨Nat.le_of_ble_eq_true rfl, Nat.le_of_ble_eq_true rfl⟩ ⟨Nat.le_of_ble_eq_true rfl, Nat.le_of_ble_eq_true rfl⟩ [.ref (gB Γ + 183), .int l1] rfl (Nat.le_of_ble_eq_true rfl) hP hS hl.1 dX10_quickest_41 h (fun u hu => m_X10_visited l Γ is_183 l1 u1.2 u hu) (fun u3 H locs h hP hS => ?_) rfl
    refine lv_topi (fun x4 ex4 => ?_)
    replace h := gLetI ex4 h
    refine lv_istore_n (lv' := [(3, .int x4), (0, .ref (gB Γ + 174)), (1, .int l1), (2, .int l2)]) hx hb dX10_quickest_44 rfl hl (by decide) rfl (fun ls hl => ?_)
    refine lv_aload_n hx hb dX10_quickest_45 rfl (lv_at hl 1 rfl) ?_
    refine gf_10_13 hx hb hown hts hK hP wf_X10_35 dX10_quickest_46 ?_
    refine lv_iload_n hx hb dX10_quickest_49 rfl (lv_at hl 2 rfl) ?_
    refine gCSi (rest := []) C0 cal_X10_last wl_X10_112 wt_X10_last ⟨Nat.le_of_ble_eq_true rfl, Nat.le_of_ble_eq_true rfl⟩ ⟨Nat.le_of_ble_eq_true rfl, Nat.le_of_ble_eq_true rfl⟩ [.ref (gB Γ + 183), .int l1] rfl (Nat.le_of_ble_eq_true rfl) hP hS hl.1 dX10_quickest_50 h (fun u hu => m_X10_last l Γ is_183 l1 u3.2 u hu) (fun u5 H locs h hP hS => ?_) rfl
    refine lv_topi (fun x6 ex6 => ?_)
    replace h := gLetI ex6 h
    refine lv_istore (lv' := [(4, .int x6), (3, .int x4), (0, .ref (gB Γ + 174)), (1, .int l1), (2, .int l2)]) hx hb dX10_quickest_53 hl (by decide) rfl (fun ls hl => ?_)
    refine lv_aload_n hx hb dX10_quickest_55 rfl (lv_at hl 2 rfl) ?_
    refine gf_10_13 hx hb hown hts hK hP wf_X10_35 dX10_quickest_56 ?_
    refine lv_iload_n hx hb dX10_quickest_59 rfl (lv_at hl 3 rfl) ?_
    refine gCSi (rest := []) C0 cal_X10_isThere wl_X10_108 wt_X10_isThere ⟨Nat.le_of_ble_eq_true rfl, Nat.le_of_ble_eq_true rfl⟩ ⟨Nat.le_of_ble_eq_true rfl, Nat.le_of_ble_eq_true rfl⟩ [.ref (gB Γ + 183), .int l1] rfl (Nat.le_of_ble_eq_true rfl) hP hS hl.1 dX10_quickest_60 h (fun u hu => m_X10_isThere l Γ is_183 l1 u5.2 u hu) (fun u7 H locs h hP hS => ?_) rfl
    refine lv_if_eq (tgt := 77) hx hb dX10_quickest_63 (by decide) (fun c8 => ?_) (fun c8 => ?_)
    · replace h := gpos c8 h
      refine lv_aload_n hx hb dX10_quickest_77 rfl (lv_at hl 2 rfl) ?_
      refine lv_aload_n hx hb dX10_quickest_78 rfl (lv_at hl 2 rfl) ?_
      refine gf_10_13 hx hb hown hts hK hP wf_X10_35 dX10_quickest_79 ?_
      refine gCVv (rest := []) C0 cal_X10_layCost wl_X10_259 wi_X10_layCost ws_X10_layCost ⟨Nat.le_of_ble_eq_true rfl, Nat.le_of_ble_eq_true rfl⟩ ⟨Nat.le_of_ble_eq_true rfl, Nat.le_of_ble_eq_true rfl⟩ grv_10 [.ref (gB Γ + 183)] rfl (Nat.le_of_ble_eq_true rfl) hP hS hl.1 dX10_quickest_82 h (fun u hu => m_X10_layCost l Γ is_183 u7.2 u hu) (fun u9 H locs h hP hS => ?_) rfl
      refine lv_aload_n hx hb dX10_quickest_85 rfl (lv_at hl 2 rfl) ?_
      refine lv_aload_n hx hb dX10_quickest_86 rfl (lv_at hl 2 rfl) ?_
      refine gf_10_13 hx hb hown hts hK hP wf_X10_35 dX10_quickest_87 ?_
      refine lv_iload_n hx hb dX10_quickest_90 rfl (lv_at hl 1 rfl) ?_
      refine lv_iload hx hb dX10_quickest_91 (lv_at hl 0 rfl) ?_
      refine gCVi (rest := []) C0 cal_X10_costFrom wl_X10_130 wi_X10_costFrom ws_X10_costFrom ⟨Nat.le_of_ble_eq_true rfl, Nat.le_of_ble_eq_true rfl⟩ ⟨Nat.le_of_ble_eq_true rfl, Nat.le_of_ble_eq_true rfl⟩ grv_10 [.ref (gB Γ + 183), .int x4, .int x6] rfl (Nat.le_of_ble_eq_true rfl) hP hS hl.1 dX10_quickest_93 h (fun u hu => m_X10_costFrom l Γ is_183 x4 x6 u9.2 u hu) (fun u10 H locs h hP hS => ?_) rfl
      refine lv_topi (fun x11 ex11 => ?_)
      replace h := gLetI ex11 h
      refine lv_istore (lv' := [(5, .int x11), (4, .int x6), (3, .int x4), (0, .ref (gB Γ + 174)), (1, .int l1), (2, .int l2)]) hx hb dX10_quickest_96 hl (by decide) rfl (fun ls hl => ?_)
      refine lv_iload hx hb dX10_quickest_98 (lv_at hl 0 rfl) ?_
      refine lv_ldc (v := 99999999) hx hb hown (hts _ wk_X10_129) dX10_quickest_100 ?_
      refine lv_icmp_ge (tgt := 109) hx hb dX10_quickest_102 (by decide) (fun c12 => ?_) (fun c12 => ?_)
      · replace h := gpos c12 h
        exact bs_X10_quickest_109 C0  h hP hS (lv_sub hl [0] rfl)
      · replace h := gneg c12 h
        refine lv_iload_n hx hb dX10_quickest_105 rfl (lv_at hl 5 rfl) ?_
        refine lv_if_ne (tgt := 124) hx hb dX10_quickest_106 (by decide) (fun c13 => ?_) (fun c13 => ?_)
        · replace h := gneg c13 h
          refine lv_iconst (v := 0) hx hb dX10_quickest_124 (by decide) ?_
          refine lv_istore (lv' := [(6, .int (0 : Int32)), (5, .int x11), (4, .int x6), (3, .int x4), (0, .ref (gB Γ + 174)), (1, .int l1), (2, .int l2)]) hx hb dX10_quickest_125 hl (by decide) rfl (fun ls hl => ?_)
          exact bk_X10_quickest_127 C0  gFuel _ _ _ _ _ _ _ _ h hP hS (lv_sub hl [4, 3, 2, 1, 0] rfl)
        · replace h := gpos c13 h
          exact bs_X10_quickest_109 C0  h hP hS (lv_sub hl [0] rfl)
    · replace h := gneg c8 h
      refine lv_iload_n hx hb dX10_quickest_66 rfl (lv_at hl 4 rfl) ?_
      refine lv_if_ne (tgt := 74) hx hb dX10_quickest_67 (by decide) (fun c14 => ?_) (fun c14 => ?_)
      · replace h := gneg c14 h
        refine lv_bipush (v := -9) hx hb dX10_quickest_74 (by decide) ?_
        exact giret hx hb hr hlk hP hS dX10_quickest_76 h
      · replace h := gpos c14 h
        refine lv_iconst (v := 0) hx hb dX10_quickest_70 (by decide) ?_
        refine lv_goto (tgt := 76) hx hb dX10_quickest_71 (by decide) ?_
        exact giret hx hb hr hlk hP hS dX10_quickest_76 h
  · replace h := gneg c2 h
    refine lv_iconst (v := 0) hx hb dX10_quickest_34 (by decide) ?_
    exact giret hx hb hr hlk hP hS dX10_quickest_35 h
set_option maxHeartbeats 2000000 in
set_option maxRecDepth 20000 in
theorem m_X10_quickest (l : Launch) (Γ : gE)   (a1 : Int32) (a2 : Int32) (g : gG) (z : Int32 × gG) (h : f_X10_quickest a1 a2 g = some z) : gMi l yX10_quickest cX10_quickest 7 (some .int) 5 120 Γ [.ref (gB Γ + 174), .int a1, .int a2] g z := by
  unfold f_X10_quickest at h
  refine gStart (own := RX10) (by decide +kernel) rfl (Nat.le_of_ble_eq_true rfl) ?_
  intro p e s m below meth c C0 ls hl hP
  have hS : va_S (gA Γ) s.heap s.heap [] := va_S.rf
  have hl : lv_has ls 7 [(0, .ref (gB Γ + 174)), (1, .int a1), (2, .int a2)] := hl
  obtain ⟨hx, hb, hml, hr, hown, hts, hK, hlk, hX⟩ := id C0
  refine lv_aload_n hx hb dX10_quickest_0 rfl (lv_at hl 0 rfl) ?_
  refine lv_aload_n hx hb dX10_quickest_1 rfl (lv_at hl 0 rfl) ?_
  refine lv_iload_n hx hb dX10_quickest_2 rfl (lv_at hl 1 rfl) ?_
  refine gCVi (rest := [.ref (gB Γ + 174)]) C0 cal_X10_isTeam wl_X10_226 wi_X10_isTeam ws_X10_isTeam ⟨Nat.le_of_ble_eq_true rfl, Nat.le_of_ble_eq_true rfl⟩ ⟨Nat.le_of_ble_eq_true rfl, Nat.le_of_ble_eq_true rfl⟩ grv_10 [.int a1] rfl (Nat.le_of_ble_eq_true rfl) hP hS hl.1 dX10_quickest_3 h (fun u hu => m_X10_isTeam l Γ a1 g u hu) (fun u1 H locs h hP hS => ?_) rfl
  refine lv_if_ne (tgt := 13) hx hb dX10_quickest_6 (by decide) (fun c2 => ?_) (fun c2 => ?_)
  · replace h := gneg c2 h
    refine lv_iload_n hx hb dX10_quickest_13 rfl (lv_at hl 2 rfl) ?_
    refine lv_i2l hx hb dX10_quickest_14 rfl ?_
    refine lv_lconst (v := 0) hx hb dX10_quickest_15 (by decide) ?_
    refine lv_lconst (v := 1) hx hb dX10_quickest_16 (by decide) ?_
    refine gCSi (rest := [.ref (gB Γ + 174)]) C0 cal_X10_in wl_X10_139 wt_X10_in ⟨Nat.le_of_ble_eq_true rfl, Nat.le_of_ble_eq_true rfl⟩ ⟨Nat.le_of_ble_eq_true rfl, Nat.le_of_ble_eq_true rfl⟩ [.long a2.toInt64, .long (0 : Int64), .long (1 : Int64)] rfl (Nat.le_of_ble_eq_true rfl) hP hS hl.1 dX10_quickest_17 h (fun u hu => m_X10_in l Γ a2.toInt64 (0 : Int64) (1 : Int64) u1.2 u hu) (fun u3 H locs h hP hS => ?_) rfl
    refine lv_if_eq (tgt := 27) hx hb dX10_quickest_20 (by decide) (fun c4 => ?_) (fun c4 => ?_)
    · replace h := gpos c4 h
      refine lv_iconst (v := 2) hx hb dX10_quickest_27 (by decide) ?_
      exact bs_X10_quickest_28 C0  h hP hS (lv_sub hl [0, 1, 2] rfl)
    · replace h := gneg c4 h
      refine lv_iconst (v := 0) hx hb dX10_quickest_23 (by decide) ?_
      refine lv_goto (tgt := 28) hx hb dX10_quickest_24 (by decide) ?_
      exact bs_X10_quickest_28 C0  h hP hS (lv_sub hl [0, 1, 2] rfl)
  · replace h := gpos c2 h
    refine lv_iconst (v := 1) hx hb dX10_quickest_9 (by decide) ?_
    refine lv_goto (tgt := 28) hx hb dX10_quickest_10 (by decide) ?_
    exact bs_X10_quickest_28 C0  h hP hS (lv_sub hl [0, 1, 2] rfl)
set_option maxHeartbeats 2000000 in
set_option maxRecDepth 20000 in
theorem bs_X10_orders_14 {p : Program} {l : Launch} {e : Env} {s : State} {m : MethodId} {args : Array Value} {below : List Frame} {meth : Method} {c : Code} {Γ : gE} (C0 : gCx p s m args meth c Γ RX10 cX10_orders 2 (some .int))   {z : Int32 × gG}  {l1 : Int32} {s1 : Int32} {g : gG} {H : Heap} {locs : List Loc} {ls : Array Slot}  (h : fs_X10_orders_14 l1 s1 g = some z) (hP : va_P (gD Γ) gcls (lay Γ g) H) (hS : va_S (gA Γ) s.heap H locs) (hl : lv_has ls 2 [(0, .ref (gB Γ + 174)), (1, .int l1)]) : W p l e (gRm 4 91) s m args below meth c H locs 0 0 (MQ below (gQi Γ z) args s 0 0 (gA Γ)) (F0 m 14 ls [.int s1, .ref (gB Γ + 174)]) := by
  unfold fs_X10_orders_14 at h
  obtain ⟨hx, hb, hml, hr, hown, hts, hK, hlk, hX⟩ := id C0
  refine gCVi (rest := []) C0 cal_X10_refused wl_X10_146 wi_X10_refused ws_X10_refused ⟨Nat.le_of_ble_eq_true rfl, Nat.le_of_ble_eq_true rfl⟩ ⟨Nat.le_of_ble_eq_true rfl, Nat.le_of_ble_eq_true rfl⟩ grv_10 [.int s1] rfl (Nat.le_of_ble_eq_true rfl) hP hS hl.1 dX10_orders_14 h (fun u hu => m_X10_refused l Γ s1 g u hu) (fun u1 H locs h hP hS => ?_) rfl
  refine lv_if_eq (tgt := 22) hx hb dX10_orders_17 (by decide) (fun c2 => ?_) (fun c2 => ?_)
  · replace h := gpos c2 h
    refine lv_aload_n hx hb dX10_orders_22 rfl (lv_at hl 0 rfl) ?_
    refine gf_10_13 hx hb hown hts hK hP wf_X10_35 dX10_orders_23 ?_
    refine lv_iload_n hx hb dX10_orders_26 rfl (lv_at hl 1 rfl) ?_
    refine gCSi (rest := []) C0 cal_X10_isThere wl_X10_108 wt_X10_isThere ⟨Nat.le_of_ble_eq_true rfl, Nat.le_of_ble_eq_true rfl⟩ ⟨Nat.le_of_ble_eq_true rfl, Nat.le_of_ble_eq_true rfl⟩ [.ref (gB Γ + 183), .int l1] rfl (Nat.le_of_ble_eq_true rfl) hP hS hl.1 dX10_orders_27 h (fun u hu => m_X10_isThere l Γ is_183 l1 u1.2 u hu) (fun u3 H locs h hP hS => ?_) rfl
    refine lv_if_eq (tgt := 35) hx hb dX10_orders_30 (by decide) (fun c4 => ?_) (fun c4 => ?_)
    · replace h := gpos c4 h
      refine lv_aload_n hx hb dX10_orders_35 rfl (lv_at hl 0 rfl) ?_
      refine lv_aload_n hx hb dX10_orders_36 rfl (lv_at hl 0 rfl) ?_
      refine gf_10_13 hx hb hown hts hK hP wf_X10_35 dX10_orders_37 ?_
      refine gCVv (rest := []) C0 cal_X10_layFewest wl_X10_255 wi_X10_layFewest ws_X10_layFewest ⟨Nat.le_of_ble_eq_true rfl, Nat.le_of_ble_eq_true rfl⟩ ⟨Nat.le_of_ble_eq_true rfl, Nat.le_of_ble_eq_true rfl⟩ grv_10 [.ref (gB Γ + 183)] rfl (Nat.le_of_ble_eq_true rfl) hP hS hl.1 dX10_orders_40 h (fun u hu => m_X10_layFewest l Γ is_183 u3.2 u hu) (fun u5 H locs h hP hS => ?_) rfl
      refine lv_aload_n hx hb dX10_orders_43 rfl (lv_at hl 0 rfl) ?_
      refine gf_10_22 hx hb hown hts hK hP wf_X10_59 dX10_orders_44 ?_
      refine lv_aload_n hx hb dX10_orders_47 rfl (lv_at hl 0 rfl) ?_
      refine gf_10_13 hx hb hown hts hK hP wf_X10_35 dX10_orders_48 ?_
      refine lv_iload_n hx hb dX10_orders_51 rfl (lv_at hl 1 rfl) ?_
      refine gCSi (rest := [.ref (gB Γ + 191)]) C0 cal_X10_visited wl_X10_104 wt_X10_visited ⟨Nat.le_of_ble_eq_true rfl, Nat.le_of_ble_eq_true rfl⟩ ⟨Nat.le_of_ble_eq_true rfl, Nat.le_of_ble_eq_true rfl⟩ [.ref (gB Γ + 183), .int l1] rfl (Nat.le_of_ble_eq_true rfl) hP hS hl.1 dX10_orders_52 h (fun u hu => m_X10_visited l Γ is_183 l1 u5.2 u hu) (fun u6 H locs h hP hS => ?_) rfl
      refine gIld hx hb hK hP is_191 dX10_orders_55 h (fun h => ?_)
      exact giret hx hb hr hlk hP hS dX10_orders_56 h
    · replace h := gneg c4 h
      refine lv_iconst (v := 1) hx hb dX10_orders_33 (by decide) ?_
      exact giret hx hb hr hlk hP hS dX10_orders_34 h
  · replace h := gneg c2 h
    refine lv_iconst (v := 0) hx hb dX10_orders_20 (by decide) ?_
    exact giret hx hb hr hlk hP hS dX10_orders_21 h
set_option maxHeartbeats 2000000 in
set_option maxRecDepth 20000 in
theorem m_X10_orders (l : Launch) (Γ : gE)   (a1 : Int32) (g : gG) (z : Int32 × gG) (h : f_X10_orders a1 g = some z) : gMi l yX10_orders cX10_orders 2 (some .int) 4 91 Γ [.ref (gB Γ + 174), .int a1] g z := by
  unfold f_X10_orders at h
  refine gStart (own := RX10) (by decide +kernel) rfl (Nat.le_of_ble_eq_true rfl) ?_
  intro p e s m below meth c C0 ls hl hP
  have hS : va_S (gA Γ) s.heap s.heap [] := va_S.rf
  have hl : lv_has ls 2 [(0, .ref (gB Γ + 174)), (1, .int a1)] := hl
  obtain ⟨hx, hb, hml, hr, hown, hts, hK, hlk, hX⟩ := id C0
  refine lv_aload_n hx hb dX10_orders_0 rfl (lv_at hl 0 rfl) ?_
  refine lv_aload_n hx hb dX10_orders_1 rfl (lv_at hl 0 rfl) ?_
  refine lv_iload_n hx hb dX10_orders_2 rfl (lv_at hl 1 rfl) ?_
  refine gCVi (rest := [.ref (gB Γ + 174)]) C0 cal_X10_isTeam wl_X10_226 wi_X10_isTeam ws_X10_isTeam ⟨Nat.le_of_ble_eq_true rfl, Nat.le_of_ble_eq_true rfl⟩ ⟨Nat.le_of_ble_eq_true rfl, Nat.le_of_ble_eq_true rfl⟩ grv_10 [.int a1] rfl (Nat.le_of_ble_eq_true rfl) hP hS hl.1 dX10_orders_3 h (fun u hu => m_X10_isTeam l Γ a1 g u hu) (fun u1 H locs h hP hS => ?_) rfl
  refine lv_if_eq (tgt := 13) hx hb dX10_orders_6 (by decide) (fun c2 => ?_) (fun c2 => ?_)
  · replace h := gpos c2 h
    refine lv_iconst (v := 1) hx hb dX10_orders_13 (by decide) ?_
    exact bs_X10_orders_14 C0  h hP hS (lv_sub hl [0, 1] rfl)
  · replace h := gneg c2 h
    refine lv_iconst (v := 0) hx hb dX10_orders_9 (by decide) ?_
    refine lv_goto (tgt := 14) hx hb dX10_orders_10 (by decide) ?_
    exact bs_X10_orders_14 C0  h hP hS (lv_sub hl [0, 1] rfl)
set_option maxHeartbeats 2000000 in
set_option maxRecDepth 20000 in
theorem bs_X10_safe_14 {p : Program} {l : Launch} {e : Env} {s : State} {m : MethodId} {args : Array Value} {below : List Frame} {meth : Method} {c : Code} {Γ : gE} (C0 : gCx p s m args meth c Γ RX10 cX10_safe 2 (some .int))   {z : Int32 × gG}  {l1 : Int32} {s1 : Int32} {g : gG} {H : Heap} {locs : List Loc} {ls : Array Slot}  (h : fs_X10_safe_14 l1 s1 g = some z) (hP : va_P (gD Γ) gcls (lay Γ g) H) (hS : va_S (gA Γ) s.heap H locs) (hl : lv_has ls 2 [(0, .ref (gB Γ + 174)), (1, .int l1)]) : W p l e (gRm 5 117) s m args below meth c H locs 0 0 (MQ below (gQi Γ z) args s 0 0 (gA Γ)) (F0 m 14 ls [.int s1, .ref (gB Γ + 174)]) := by
  unfold fs_X10_safe_14 at h
  obtain ⟨hx, hb, hml, hr, hown, hts, hK, hlk, hX⟩ := id C0
  refine gCVi (rest := []) C0 cal_X10_refused wl_X10_146 wi_X10_refused ws_X10_refused ⟨Nat.le_of_ble_eq_true rfl, Nat.le_of_ble_eq_true rfl⟩ ⟨Nat.le_of_ble_eq_true rfl, Nat.le_of_ble_eq_true rfl⟩ grv_10 [.int s1] rfl (Nat.le_of_ble_eq_true rfl) hP hS hl.1 dX10_safe_14 h (fun u hu => m_X10_refused l Γ s1 g u hu) (fun u1 H locs h hP hS => ?_) rfl
  refine lv_if_eq (tgt := 24) hx hb dX10_safe_17 (by decide) (fun c2 => ?_) (fun c2 => ?_)
  · replace h := gpos c2 h
    refine lv_aload_n hx hb dX10_safe_24 rfl (lv_at hl 0 rfl) ?_
    refine lv_aload_n hx hb dX10_safe_25 rfl (lv_at hl 0 rfl) ?_
    refine gf_10_13 hx hb hown hts hK hP wf_X10_35 dX10_safe_26 ?_
    refine lv_iload_n hx hb dX10_safe_29 rfl (lv_at hl 1 rfl) ?_
    refine gCVi (rest := []) C0 cal_X10_safeOf wl_X10_243 wi_X10_safeOf ws_X10_safeOf ⟨Nat.le_of_ble_eq_true rfl, Nat.le_of_ble_eq_true rfl⟩ ⟨Nat.le_of_ble_eq_true rfl, Nat.le_of_ble_eq_true rfl⟩ grv_10 [.ref (gB Γ + 183), .int l1] rfl (Nat.le_of_ble_eq_true rfl) hP hS hl.1 dX10_safe_30 h (fun u hu => m_X10_safeOf l Γ is_183 l1 u1.2 u hu) (fun u3 H locs h hP hS => ?_) rfl
    exact giret hx hb hr hlk hP hS dX10_safe_33 h
  · replace h := gneg c2 h
    refine lv_iconst (v := 0) hx hb dX10_safe_20 (by decide) ?_
    refine lv_goto (tgt := 33) hx hb dX10_safe_21 (by decide) ?_
    exact giret hx hb hr hlk hP hS dX10_safe_33 h
set_option maxHeartbeats 2000000 in
set_option maxRecDepth 20000 in
theorem m_X10_safe (l : Launch) (Γ : gE)   (a1 : Int32) (g : gG) (z : Int32 × gG) (h : f_X10_safe a1 g = some z) : gMi l yX10_safe cX10_safe 2 (some .int) 5 117 Γ [.ref (gB Γ + 174), .int a1] g z := by
  unfold f_X10_safe at h
  refine gStart (own := RX10) (by decide +kernel) rfl (Nat.le_of_ble_eq_true rfl) ?_
  intro p e s m below meth c C0 ls hl hP
  have hS : va_S (gA Γ) s.heap s.heap [] := va_S.rf
  have hl : lv_has ls 2 [(0, .ref (gB Γ + 174)), (1, .int a1)] := hl
  obtain ⟨hx, hb, hml, hr, hown, hts, hK, hlk, hX⟩ := id C0
  refine lv_aload_n hx hb dX10_safe_0 rfl (lv_at hl 0 rfl) ?_
  refine lv_aload_n hx hb dX10_safe_1 rfl (lv_at hl 0 rfl) ?_
  refine lv_iload_n hx hb dX10_safe_2 rfl (lv_at hl 1 rfl) ?_
  refine gCVi (rest := [.ref (gB Γ + 174)]) C0 cal_X10_isTeam wl_X10_226 wi_X10_isTeam ws_X10_isTeam ⟨Nat.le_of_ble_eq_true rfl, Nat.le_of_ble_eq_true rfl⟩ ⟨Nat.le_of_ble_eq_true rfl, Nat.le_of_ble_eq_true rfl⟩ grv_10 [.int a1] rfl (Nat.le_of_ble_eq_true rfl) hP hS hl.1 dX10_safe_3 h (fun u hu => m_X10_isTeam l Γ a1 g u hu) (fun u1 H locs h hP hS => ?_) rfl
  refine lv_if_eq (tgt := 13) hx hb dX10_safe_6 (by decide) (fun c2 => ?_) (fun c2 => ?_)
  · replace h := gpos c2 h
    refine lv_iconst (v := 1) hx hb dX10_safe_13 (by decide) ?_
    exact bs_X10_safe_14 C0  h hP hS (lv_sub hl [0, 1] rfl)
  · replace h := gneg c2 h
    refine lv_iconst (v := 0) hx hb dX10_safe_9 (by decide) ?_
    refine lv_goto (tgt := 14) hx hb dX10_safe_10 (by decide) ?_
    exact bs_X10_safe_14 C0  h hP hS (lv_sub hl [0, 1] rfl)
set_option maxHeartbeats 2000000 in
set_option maxRecDepth 20000 in
theorem bs_X10_needed_119 {p : Program} {l : Launch} {e : Env} {s : State} {m : MethodId} {args : Array Value} {below : List Frame} {meth : Method} {c : Code} {Γ : gE} (C0 : gCx p s m args meth c Γ RX10 cX10_needed 5 (some .int))   {z : Int32 × gG} {F71 : Int32 → Int32 → Int32 → gG → Option (Int32 × gG)} {l2 : Int32} {l4 : Int32} {s0 : Int32} {s1 : Int32} {g : gG} {H : Heap} {locs : List Loc} {ls : Array Slot} (hF71 : ∀ (l2 : Int32) (l3 : Int32) (l4 : Int32) (g : gG) (H : Heap) (locs : List Loc) (ls : Array Slot), F71 l2 l3 l4 g = some z → va_P (gD Γ) gcls (lay Γ g) H → va_S (gA Γ) s.heap H locs → lv_has ls 5 [(0, .ref (gB Γ + 174)), (2, .int l2), (3, .int l3), (4, .int l4)] → W p l e (gRm 4 91) s m args below meth c H locs 0 0 (MQ below (gQi Γ z) args s 0 0 (gA Γ)) (F0 m 71 ls [])) (h : fs_X10_needed_119 F71 l2 l4 s0 s1 g = some z) (hP : va_P (gD Γ) gcls (lay Γ g) H) (hS : va_S (gA Γ) s.heap H locs) (hl : lv_has ls 5 [(0, .ref (gB Γ + 174)), (2, .int l2), (4, .int l4)]) : W p l e (gRm 4 91) s m args below meth c H locs 0 0 (MQ below (gQi Γ z) args s 0 0 (gA Γ)) (F0 m 119 ls [.int s1, .int s0]) := by
  unfold fs_X10_needed_119 at h
  obtain ⟨hx, hb, hml, hr, hown, hts, hK, hlk, hX⟩ := id C0
  refine lv_ior hx hb dX10_needed_119 ?_
  refine lv_topi (fun x1 ex1 => ?_)
  replace h := gLetI ex1 h
  refine lv_istore_n (lv' := [(3, .int x1), (0, .ref (gB Γ + 174)), (2, .int l2), (4, .int l4)]) hx hb dX10_needed_120 rfl hl (by decide) rfl (fun ls hl => ?_)
  obtain ⟨x2, ex2⟩ : ∃ y : Int32, y = l4 + (1 : Int32) := ⟨_, rfl⟩
  replace h := gLetI ex2 h
  refine lv_iinc (v := x2) (lv' := [(4, .int x2), (3, .int x1), (0, .ref (gB Γ + 174)), (2, .int l2)]) hx hb dX10_needed_121 hl (k := 3) rfl (by rw [ex2]; rfl) (by decide) rfl (fun ls hl => ?_)
  refine lv_goto (tgt := 71) hx hb dX10_needed_124 (by decide) ?_
  exact hF71 _ _ _ _ _ _ _ h hP hS (lv_sub hl [2, 3, 1, 0] rfl)
set_option maxHeartbeats 2000000 in
set_option maxRecDepth 20000 in
theorem bs_X10_needed_118 {p : Program} {l : Launch} {e : Env} {s : State} {m : MethodId} {args : Array Value} {below : List Frame} {meth : Method} {c : Code} {Γ : gE} (C0 : gCx p s m args meth c Γ RX10 cX10_needed 5 (some .int))   {z : Int32 × gG} {F71 : Int32 → Int32 → Int32 → gG → Option (Int32 × gG)} {l2 : Int32} {l4 : Int32} {s0 : Int32} {g : gG} {H : Heap} {locs : List Loc} {ls : Array Slot} (hF71 : ∀ (l2 : Int32) (l3 : Int32) (l4 : Int32) (g : gG) (H : Heap) (locs : List Loc) (ls : Array Slot), F71 l2 l3 l4 g = some z → va_P (gD Γ) gcls (lay Γ g) H → va_S (gA Γ) s.heap H locs → lv_has ls 5 [(0, .ref (gB Γ + 174)), (2, .int l2), (3, .int l3), (4, .int l4)] → W p l e (gRm 4 91) s m args below meth c H locs 0 0 (MQ below (gQi Γ z) args s 0 0 (gA Γ)) (F0 m 71 ls [])) (h : fs_X10_needed_118 F71 l2 l4 s0 g = some z) (hP : va_P (gD Γ) gcls (lay Γ g) H) (hS : va_S (gA Γ) s.heap H locs) (hl : lv_has ls 5 [(0, .ref (gB Γ + 174)), (2, .int l2), (4, .int l4)]) : W p l e (gRm 4 91) s m args below meth c H locs 0 0 (MQ below (gQi Γ z) args s 0 0 (gA Γ)) (F0 m 118 ls [.int s0]) := by
  unfold fs_X10_needed_118 at h
  obtain ⟨hx, hb, hml, hr, hown, hts, hK, hlk, hX⟩ := id C0
  refine lv_iconst (v := 0) hx hb dX10_needed_118 (by decide) ?_
  exact bs_X10_needed_119 C0 hF71 h hP hS (lv_sub hl [0, 1, 2] rfl)
set_option maxHeartbeats 2000000 in
set_option maxRecDepth 20000 in
theorem bs_X10_needed_71 {p : Program} {l : Launch} {e : Env} {s : State} {m : MethodId} {args : Array Value} {below : List Frame} {meth : Method} {c : Code} {Γ : gE} (C0 : gCx p s m args meth c Γ RX10 cX10_needed 5 (some .int))   {z : Int32 × gG} {F71 : Int32 → Int32 → Int32 → gG → Option (Int32 × gG)} {l2 : Int32} {l3 : Int32} {l4 : Int32} {g : gG} {H : Heap} {locs : List Loc} {ls : Array Slot} (hF71 : ∀ (l2 : Int32) (l3 : Int32) (l4 : Int32) (g : gG) (H : Heap) (locs : List Loc) (ls : Array Slot), F71 l2 l3 l4 g = some z → va_P (gD Γ) gcls (lay Γ g) H → va_S (gA Γ) s.heap H locs → lv_has ls 5 [(0, .ref (gB Γ + 174)), (2, .int l2), (3, .int l3), (4, .int l4)] → W p l e (gRm 4 91) s m args below meth c H locs 0 0 (MQ below (gQi Γ z) args s 0 0 (gA Γ)) (F0 m 71 ls [])) (h : fs_X10_needed_71 F71 l2 l3 l4 g = some z) (hP : va_P (gD Γ) gcls (lay Γ g) H) (hS : va_S (gA Γ) s.heap H locs) (hl : lv_has ls 5 [(0, .ref (gB Γ + 174)), (2, .int l2), (3, .int l3), (4, .int l4)]) : W p l e (gRm 4 91) s m args below meth c H locs 0 0 (MQ below (gQi Γ z) args s 0 0 (gA Γ)) (F0 m 71 ls []) := by
  unfold fs_X10_needed_71 at h
  obtain ⟨hx, hb, hml, hr, hown, hts, hK, hlk, hX⟩ := id C0
  refine lv_iload hx hb dX10_needed_71 (lv_at hl 3 rfl) ?_
  refine lv_aload_n hx hb dX10_needed_73 rfl (lv_at hl 0 rfl) ?_
  refine gf_10_13 hx hb hown hts hK hP wf_X10_35 dX10_needed_74 ?_
  refine lv_iconst (v := 0) hx hb dX10_needed_77 (by decide) ?_
  refine gIld hx hb hK hP is_183 dX10_needed_78 h (fun h => ?_)
  refine lv_icmp_ge (tgt := 127) hx hb dX10_needed_79 (by decide) (fun c1 => ?_) (fun c1 => ?_)
  · replace h := gpos c1 h
    refine lv_iload_n hx hb dX10_needed_127 rfl (lv_at hl 2 rfl) ?_
    exact giret hx hb hr hlk hP hS dX10_needed_128 h
  · replace h := gneg c1 h
    refine lv_aload_n hx hb dX10_needed_82 rfl (lv_at hl 0 rfl) ?_
    refine lv_aload_n hx hb dX10_needed_83 rfl (lv_at hl 0 rfl) ?_
    refine gf_10_13 hx hb hown hts hK hP wf_X10_35 dX10_needed_84 ?_
    refine lv_iload hx hb dX10_needed_87 (lv_at hl 3 rfl) ?_
    refine gCVv (rest := []) C0 cal_X10_layGood wl_X10_122 wi_X10_layGood ws_X10_layGood ⟨Nat.le_of_ble_eq_true rfl, Nat.le_of_ble_eq_true rfl⟩ ⟨Nat.le_of_ble_eq_true rfl, Nat.le_of_ble_eq_true rfl⟩ grv_10 [.ref (gB Γ + 183), .int l4] rfl (Nat.le_of_ble_eq_true rfl) hP hS hl.1 dX10_needed_89 h (fun u hu => m_X10_layGood l Γ is_183 l4 g u hu) (fun u2 H locs h hP hS => ?_) rfl
    refine lv_iload_n hx hb dX10_needed_92 rfl (lv_at hl 2 rfl) ?_
    refine lv_iload_n hx hb dX10_needed_93 rfl (lv_at hl 1 rfl) ?_
    refine lv_iload hx hb dX10_needed_94 (lv_at hl 3 rfl) ?_
    refine gCSi (rest := [.int l3]) C0 cal_X10_has wl_X10_65 wt_X10_has ⟨Nat.le_of_ble_eq_true rfl, Nat.le_of_ble_eq_true rfl⟩ ⟨Nat.le_of_ble_eq_true rfl, Nat.le_of_ble_eq_true rfl⟩ [.int l2, .int l4] rfl (Nat.le_of_ble_eq_true rfl) hP hS hl.1 dX10_needed_96 h (fun u hu => m_X10_has l Γ l2 l4 u2.2 u hu) (fun u3 H locs h hP hS => ?_) rfl
    refine lv_if_ne (tgt := 118) hx hb dX10_needed_99 (by decide) (fun c4 => ?_) (fun c4 => ?_)
    · replace h := gneg c4 h
      exact bs_X10_needed_118 C0 hF71 h hP hS (lv_sub hl [0, 1, 3] rfl)
    · replace h := gpos c4 h
      refine lv_aload_n hx hb dX10_needed_102 rfl (lv_at hl 0 rfl) ?_
      refine gf_10_19 hx hb hown hts hK hP wf_X10_50 dX10_needed_103 ?_
      refine lv_iload_n hx hb dX10_needed_106 rfl (lv_at hl 1 rfl) ?_
      refine gZld hx hb hK hP is_188 dX10_needed_107 h (fun h => ?_)
      refine lv_if_ne (tgt := 118) hx hb dX10_needed_108 (by decide) (fun c5 => ?_) (fun c5 => ?_)
      · replace h := gneg c5 h
        exact bs_X10_needed_118 C0 hF71 h hP hS (lv_sub hl [0, 1, 3] rfl)
      · replace h := gpos c5 h
        refine lv_iconst (v := 1) hx hb dX10_needed_111 (by decide) ?_
        refine lv_iload hx hb dX10_needed_112 (lv_at hl 3 rfl) ?_
        refine lv_ishl hx hb dX10_needed_114 ?_
        refine lv_goto (tgt := 119) hx hb dX10_needed_115 (by decide) ?_
        exact bs_X10_needed_119 C0 hF71 h hP hS (lv_sub hl [0, 1, 3] rfl)
set_option maxHeartbeats 2000000 in
set_option maxRecDepth 20000 in
theorem bk_X10_needed_71 {p : Program} {l : Launch} {e : Env} {s : State} {m : MethodId} {args : Array Value} {below : List Frame} {meth : Method} {c : Code} {Γ : gE} (C0 : gCx p s m args meth c Γ RX10 cX10_needed 5 (some .int))   {z : Int32 × gG}   : ∀ (n : Nat) (l2 : Int32) (l3 : Int32) (l4 : Int32) (g : gG) (H : Heap) (locs : List Loc) (ls : Array Slot), fb_X10_needed_71 n l2 l3 l4 g = some z → va_P (gD Γ) gcls (lay Γ g) H → va_S (gA Γ) s.heap H locs → lv_has ls 5 [(0, .ref (gB Γ + 174)), (2, .int l2), (3, .int l3), (4, .int l4)] → W p l e (gRm 4 91) s m args below meth c H locs 0 0 (MQ below (gQi Γ z) args s 0 0 (gA Γ)) (F0 m 71 ls []) := by
  intro n
  induction n with
  | zero => intro l2 l3 l4 g H locs ls h hP hS hl; cases h
  | succ n ih => intro l2 l3 l4 g H locs ls h hP hS hl; exact bs_X10_needed_71 C0  ih h hP hS hl
set_option maxHeartbeats 2000000 in
set_option maxRecDepth 20000 in
theorem bs_X10_needed_14 {p : Program} {l : Launch} {e : Env} {s : State} {m : MethodId} {args : Array Value} {below : List Frame} {meth : Method} {c : Code} {Γ : gE} (C0 : gCx p s m args meth c Γ RX10 cX10_needed 5 (some .int))   {z : Int32 × gG}  {l1 : Int32} {s1 : Int32} {g : gG} {H : Heap} {locs : List Loc} {ls : Array Slot}  (h : fs_X10_needed_14 l1 s1 g = some z) (hP : va_P (gD Γ) gcls (lay Γ g) H) (hS : va_S (gA Γ) s.heap H locs) (hl : lv_has ls 5 [(0, .ref (gB Γ + 174)), (1, .int l1)]) : W p l e (gRm 4 91) s m args below meth c H locs 0 0 (MQ below (gQi Γ z) args s 0 0 (gA Γ)) (F0 m 14 ls [.int s1, .ref (gB Γ + 174)]) := by
  unfold fs_X10_needed_14 at h
  obtain ⟨hx, hb, hml, hr, hown, hts, hK, hlk, hX⟩ := id C0
  refine gCVi (rest := []) C0 cal_X10_refused wl_X10_146 wi_X10_refused ws_X10_refused ⟨Nat.le_of_ble_eq_true rfl, Nat.le_of_ble_eq_true rfl⟩ ⟨Nat.le_of_ble_eq_true rfl, Nat.le_of_ble_eq_true rfl⟩ grv_10 [.int s1] rfl (Nat.le_of_ble_eq_true rfl) hP hS hl.1 dX10_needed_14 h (fun u hu => m_X10_refused l Γ s1 g u hu) (fun u1 H locs h hP hS => ?_) rfl
  refine lv_if_eq (tgt := 22) hx hb dX10_needed_17 (by decide) (fun c2 => ?_) (fun c2 => ?_)
  · replace h := gpos c2 h
    refine lv_aload_n hx hb dX10_needed_22 rfl (lv_at hl 0 rfl) ?_
    refine gf_10_13 hx hb hown hts hK hP wf_X10_35 dX10_needed_23 ?_
    refine lv_iload_n hx hb dX10_needed_26 rfl (lv_at hl 1 rfl) ?_
    refine gCSi (rest := []) C0 cal_X10_visited wl_X10_104 wt_X10_visited ⟨Nat.le_of_ble_eq_true rfl, Nat.le_of_ble_eq_true rfl⟩ ⟨Nat.le_of_ble_eq_true rfl, Nat.le_of_ble_eq_true rfl⟩ [.ref (gB Γ + 183), .int l1] rfl (Nat.le_of_ble_eq_true rfl) hP hS hl.1 dX10_needed_27 h (fun u hu => m_X10_visited l Γ is_183 l1 u1.2 u hu) (fun u3 H locs h hP hS => ?_) rfl
    refine lv_topi (fun x4 ex4 => ?_)
    replace h := gLetI ex4 h
    refine lv_istore_n (lv' := [(2, .int x4), (0, .ref (gB Γ + 174)), (1, .int l1)]) hx hb dX10_needed_30 rfl hl (by decide) rfl (fun ls hl => ?_)
    refine lv_aload_n hx hb dX10_needed_31 rfl (lv_at hl 1 rfl) ?_
    refine gf_10_13 hx hb hown hts hK hP wf_X10_35 dX10_needed_32 ?_
    refine lv_iload_n hx hb dX10_needed_35 rfl (lv_at hl 2 rfl) ?_
    refine gCSi (rest := []) C0 cal_X10_isThere wl_X10_108 wt_X10_isThere ⟨Nat.le_of_ble_eq_true rfl, Nat.le_of_ble_eq_true rfl⟩ ⟨Nat.le_of_ble_eq_true rfl, Nat.le_of_ble_eq_true rfl⟩ [.ref (gB Γ + 183), .int l1] rfl (Nat.le_of_ble_eq_true rfl) hP hS hl.1 dX10_needed_36 h (fun u hu => m_X10_isThere l Γ is_183 l1 u3.2 u hu) (fun u5 H locs h hP hS => ?_) rfl
    refine lv_if_eq (tgt := 44) hx hb dX10_needed_39 (by decide) (fun c6 => ?_) (fun c6 => ?_)
    · replace h := gpos c6 h
      refine lv_aload_n hx hb dX10_needed_44 rfl (lv_at hl 1 rfl) ?_
      refine lv_aload_n hx hb dX10_needed_45 rfl (lv_at hl 1 rfl) ?_
      refine gf_10_13 hx hb hown hts hK hP wf_X10_35 dX10_needed_46 ?_
      refine lv_bipush (v := -9) hx hb dX10_needed_49 (by decide) ?_
      refine gCVv (rest := []) C0 cal_X10_layGood wl_X10_122 wi_X10_layGood ws_X10_layGood ⟨Nat.le_of_ble_eq_true rfl, Nat.le_of_ble_eq_true rfl⟩ ⟨Nat.le_of_ble_eq_true rfl, Nat.le_of_ble_eq_true rfl⟩ grv_10 [.ref (gB Γ + 183), .int (-9 : Int32)] rfl (Nat.le_of_ble_eq_true rfl) hP hS hl.1 dX10_needed_51 h (fun u hu => m_X10_layGood l Γ is_183 (-9 : Int32) u5.2 u hu) (fun u7 H locs h hP hS => ?_) rfl
      refine lv_aload_n hx hb dX10_needed_54 rfl (lv_at hl 1 rfl) ?_
      refine gf_10_19 hx hb hown hts hK hP wf_X10_50 dX10_needed_55 ?_
      refine lv_iload_n hx hb dX10_needed_58 rfl (lv_at hl 0 rfl) ?_
      refine gZld hx hb hK hP is_188 dX10_needed_59 h (fun h => ?_)
      refine lv_if_ne (tgt := 66) hx hb dX10_needed_60 (by decide) (fun c8 => ?_) (fun c8 => ?_)
      · replace h := gneg c8 h
        refine lv_iconst (v := 0) hx hb dX10_needed_66 (by decide) ?_
        refine lv_istore_n (lv' := [(3, .int (0 : Int32)), (2, .int x4), (0, .ref (gB Γ + 174)), (1, .int l1)]) hx hb dX10_needed_67 rfl hl (by decide) rfl (fun ls hl => ?_)
        refine lv_iconst (v := 0) hx hb dX10_needed_68 (by decide) ?_
        refine lv_istore (lv' := [(4, .int (0 : Int32)), (3, .int (0 : Int32)), (2, .int x4), (0, .ref (gB Γ + 174)), (1, .int l1)]) hx hb dX10_needed_69 hl (by decide) rfl (fun ls hl => ?_)
        exact bk_X10_needed_71 C0  gFuel _ _ _ _ _ _ _ h hP hS (lv_sub hl [3, 2, 1, 0] rfl)
      · replace h := gpos c8 h
        refine lv_bipush (v := -9) hx hb dX10_needed_63 (by decide) ?_
        exact giret hx hb hr hlk hP hS dX10_needed_65 h
    · replace h := gneg c6 h
      refine lv_iconst (v := 0) hx hb dX10_needed_42 (by decide) ?_
      exact giret hx hb hr hlk hP hS dX10_needed_43 h
  · replace h := gneg c2 h
    refine lv_iconst (v := 0) hx hb dX10_needed_20 (by decide) ?_
    exact giret hx hb hr hlk hP hS dX10_needed_21 h
set_option maxHeartbeats 2000000 in
set_option maxRecDepth 20000 in
theorem m_X10_needed (l : Launch) (Γ : gE)   (a1 : Int32) (g : gG) (z : Int32 × gG) (h : f_X10_needed a1 g = some z) : gMi l yX10_needed cX10_needed 5 (some .int) 4 91 Γ [.ref (gB Γ + 174), .int a1] g z := by
  unfold f_X10_needed at h
  refine gStart (own := RX10) (by decide +kernel) rfl (Nat.le_of_ble_eq_true rfl) ?_
  intro p e s m below meth c C0 ls hl hP
  have hS : va_S (gA Γ) s.heap s.heap [] := va_S.rf
  have hl : lv_has ls 5 [(0, .ref (gB Γ + 174)), (1, .int a1)] := hl
  obtain ⟨hx, hb, hml, hr, hown, hts, hK, hlk, hX⟩ := id C0
  refine lv_aload_n hx hb dX10_needed_0 rfl (lv_at hl 0 rfl) ?_
  refine lv_aload_n hx hb dX10_needed_1 rfl (lv_at hl 0 rfl) ?_
  refine lv_iload_n hx hb dX10_needed_2 rfl (lv_at hl 1 rfl) ?_
  refine gCVi (rest := [.ref (gB Γ + 174)]) C0 cal_X10_isTeam wl_X10_226 wi_X10_isTeam ws_X10_isTeam ⟨Nat.le_of_ble_eq_true rfl, Nat.le_of_ble_eq_true rfl⟩ ⟨Nat.le_of_ble_eq_true rfl, Nat.le_of_ble_eq_true rfl⟩ grv_10 [.int a1] rfl (Nat.le_of_ble_eq_true rfl) hP hS hl.1 dX10_needed_3 h (fun u hu => m_X10_isTeam l Γ a1 g u hu) (fun u1 H locs h hP hS => ?_) rfl
  refine lv_if_eq (tgt := 13) hx hb dX10_needed_6 (by decide) (fun c2 => ?_) (fun c2 => ?_)
  · replace h := gpos c2 h
    refine lv_iconst (v := 1) hx hb dX10_needed_13 (by decide) ?_
    exact bs_X10_needed_14 C0  h hP hS (lv_sub hl [0, 1] rfl)
  · replace h := gneg c2 h
    refine lv_iconst (v := 0) hx hb dX10_needed_9 (by decide) ?_
    refine lv_goto (tgt := 14) hx hb dX10_needed_10 (by decide) ?_
    exact bs_X10_needed_14 C0  h hP hS (lv_sub hl [0, 1] rfl)
set_option maxHeartbeats 2000000 in
set_option maxRecDepth 20000 in
theorem m_X10_deadEnds (l : Launch) (Γ : gE)    (g : gG) (z : Int32 × gG) (h : f_X10_deadEnds g = some z) : gMi l yX10_deadEnds cX10_deadEnds 1 (some .int) 5 117 Γ [.ref (gB Γ + 174)] g z := by
  unfold f_X10_deadEnds at h
  refine gStart (own := RX10) (by decide +kernel) rfl (Nat.le_of_ble_eq_true rfl) ?_
  intro p e s m below meth c C0 ls hl hP
  have hS : va_S (gA Γ) s.heap s.heap [] := va_S.rf
  have hl : lv_has ls 1 [(0, .ref (gB Γ + 174))] := hl
  obtain ⟨hx, hb, hml, hr, hown, hts, hK, hlk, hX⟩ := id C0
  refine lv_aload_n hx hb dX10_deadEnds_0 rfl (lv_at hl 0 rfl) ?_
  refine lv_iconst (v := 0) hx hb dX10_deadEnds_1 (by decide) ?_
  refine gp_10_0 hx hb hown hts hK hP hS wf_X10_73 dX10_deadEnds_2 h (fun H locs g1 h hP hS => ?_)
  refine lv_aload_n hx hb dX10_deadEnds_5 rfl (lv_at hl 0 rfl) ?_
  refine lv_aload_n hx hb dX10_deadEnds_6 rfl (lv_at hl 0 rfl) ?_
  refine gf_10_13 hx hb hown hts hK hP wf_X10_35 dX10_deadEnds_7 ?_
  refine gCVi (rest := []) C0 cal_X10_deadOf wl_X10_262 wi_X10_deadOf ws_X10_deadOf ⟨Nat.le_of_ble_eq_true rfl, Nat.le_of_ble_eq_true rfl⟩ ⟨Nat.le_of_ble_eq_true rfl, Nat.le_of_ble_eq_true rfl⟩ grv_10 [.ref (gB Γ + 183)] rfl (Nat.le_of_ble_eq_true rfl) hP hS hl.1 dX10_deadEnds_10 h (fun u hu => m_X10_deadOf l Γ is_183 g1 u hu) (fun u2 H locs h hP hS => ?_) rfl
  exact giret hx hb hr hlk hP hS dX10_deadEnds_13 h
set_option maxHeartbeats 2000000 in
set_option maxRecDepth 20000 in
theorem bs_X10_easeBy_21 {p : Program} {l : Launch} {e : Env} {s : State} {m : MethodId} {args : Array Value} {below : List Frame} {meth : Method} {c : Code} {Γ : gE} (C0 : gCx p s m args meth c Γ RX10 cX10_easeBy 2 (some .int))   {z : Int32 × gG} {F21 : Int32 → gG → Option (Int32 × gG)} {l1 : Int32} {g : gG} {H : Heap} {locs : List Loc} {ls : Array Slot} (hF21 : ∀ (l1 : Int32) (g : gG) (H : Heap) (locs : List Loc) (ls : Array Slot), F21 l1 g = some z → va_P (gD Γ) gcls (lay Γ g) H → va_S (gA Γ) s.heap H locs → lv_has ls 2 [(0, .ref (gB Γ + 174)), (1, .int l1)] → W p l e (gRm 5 117) s m args below meth c H locs 0 0 (MQ below (gQi Γ z) args s 0 0 (gA Γ)) (F0 m 21 ls [])) (h : fs_X10_easeBy_21 F21 l1 g = some z) (hP : va_P (gD Γ) gcls (lay Γ g) H) (hS : va_S (gA Γ) s.heap H locs) (hl : lv_has ls 2 [(0, .ref (gB Γ + 174)), (1, .int l1)]) : W p l e (gRm 5 117) s m args below meth c H locs 0 0 (MQ below (gQi Γ z) args s 0 0 (gA Γ)) (F0 m 21 ls []) := by
  unfold fs_X10_easeBy_21 at h
  obtain ⟨hx, hb, hml, hr, hown, hts, hK, hlk, hX⟩ := id C0
  refine lv_iload_n hx hb dX10_easeBy_21 rfl (lv_at hl 1 rfl) ?_
  refine lv_aload_n hx hb dX10_easeBy_22 rfl (lv_at hl 0 rfl) ?_
  refine gf_10_13 hx hb hown hts hK hP wf_X10_35 dX10_easeBy_23 ?_
  refine lv_iconst (v := 0) hx hb dX10_easeBy_26 (by decide) ?_
  refine gIld hx hb hK hP is_183 dX10_easeBy_27 h (fun h => ?_)
  refine lv_icmp_ge (tgt := 62) hx hb dX10_easeBy_28 (by decide) (fun c1 => ?_) (fun c1 => ?_)
  · replace h := gpos c1 h
    refine lv_bipush (v := -9) hx hb dX10_easeBy_62 (by decide) ?_
    exact giret hx hb hr hlk hP hS dX10_easeBy_64 h
  · replace h := gneg c1 h
    refine lv_aload_n hx hb dX10_easeBy_31 rfl (lv_at hl 0 rfl) ?_
    refine gCVv (rest := []) C0 cal_X10_begin wl_X10_265 wi_X10_begin ws_X10_begin ⟨Nat.le_of_ble_eq_true rfl, Nat.le_of_ble_eq_true rfl⟩ ⟨Nat.le_of_ble_eq_true rfl, Nat.le_of_ble_eq_true rfl⟩ grv_10 [] rfl (Nat.le_of_ble_eq_true rfl) hP hS hl.1 dX10_easeBy_32 h (fun u hu => m_X10_begin l Γ g u hu) (fun u2 H locs h hP hS => ?_) rfl
    refine lv_aload_n hx hb dX10_easeBy_35 rfl (lv_at hl 0 rfl) ?_
    refine gf_10_14 hx hb hown hts hK hP wf_X10_38 dX10_easeBy_36 ?_
    refine lv_iload_n hx hb dX10_easeBy_39 rfl (lv_at hl 1 rfl) ?_
    refine gCSv (rest := []) C0 cal_X10_makeEasy wl_X10_252 wt_X10_makeEasy ⟨Nat.le_of_ble_eq_true rfl, Nat.le_of_ble_eq_true rfl⟩ ⟨Nat.le_of_ble_eq_true rfl, Nat.le_of_ble_eq_true rfl⟩ [.ref (gB Γ + 184), .int l1] rfl (Nat.le_of_ble_eq_true rfl) hP hS hl.1 dX10_easeBy_40 h (fun u hu => m_X10_makeEasy l Γ is_184 l1 u2.2 u hu) (fun u3 H locs h hP hS => ?_) rfl
    refine lv_aload_n hx hb dX10_easeBy_43 rfl (lv_at hl 0 rfl) ?_
    refine lv_aload_n hx hb dX10_easeBy_44 rfl (lv_at hl 0 rfl) ?_
    refine gf_10_14 hx hb hown hts hK hP wf_X10_38 dX10_easeBy_45 ?_
    refine gCVi (rest := []) C0 cal_X10_deadOf wl_X10_262 wi_X10_deadOf ws_X10_deadOf ⟨Nat.le_of_ble_eq_true rfl, Nat.le_of_ble_eq_true rfl⟩ ⟨Nat.le_of_ble_eq_true rfl, Nat.le_of_ble_eq_true rfl⟩ grv_10 [.ref (gB Γ + 184)] rfl (Nat.le_of_ble_eq_true rfl) hP hS hl.1 dX10_easeBy_48 h (fun u hu => m_X10_deadOf l Γ is_184 u3.2 u hu) (fun u4 H locs h hP hS => ?_) rfl
    refine lv_if_ne (tgt := 56) hx hb dX10_easeBy_51 (by decide) (fun c5 => ?_) (fun c5 => ?_)
    · replace h := gneg c5 h
      obtain ⟨x6, ex6⟩ : ∃ y : Int32, y = l1 + (1 : Int32) := ⟨_, rfl⟩
      replace h := gLetI ex6 h
      refine lv_iinc (v := x6) (lv' := [(1, .int x6), (0, .ref (gB Γ + 174))]) hx hb dX10_easeBy_56 hl (k := 1) rfl (by rw [ex6]; rfl) (by decide) rfl (fun ls hl => ?_)
      refine lv_goto (tgt := 21) hx hb dX10_easeBy_59 (by decide) ?_
      exact hF21 _ _ _ _ _ h hP hS (lv_sub hl [1, 0] rfl)
    · replace h := gpos c5 h
      refine lv_iload_n hx hb dX10_easeBy_54 rfl (lv_at hl 1 rfl) ?_
      exact giret hx hb hr hlk hP hS dX10_easeBy_55 h
set_option maxHeartbeats 2000000 in
set_option maxRecDepth 20000 in
theorem bk_X10_easeBy_21 {p : Program} {l : Launch} {e : Env} {s : State} {m : MethodId} {args : Array Value} {below : List Frame} {meth : Method} {c : Code} {Γ : gE} (C0 : gCx p s m args meth c Γ RX10 cX10_easeBy 2 (some .int))   {z : Int32 × gG}   : ∀ (n : Nat) (l1 : Int32) (g : gG) (H : Heap) (locs : List Loc) (ls : Array Slot), fb_X10_easeBy_21 n l1 g = some z → va_P (gD Γ) gcls (lay Γ g) H → va_S (gA Γ) s.heap H locs → lv_has ls 2 [(0, .ref (gB Γ + 174)), (1, .int l1)] → W p l e (gRm 5 117) s m args below meth c H locs 0 0 (MQ below (gQi Γ z) args s 0 0 (gA Γ)) (F0 m 21 ls []) := by
  intro n
  induction n with
  | zero => intro l1 g H locs ls h hP hS hl; cases h
  | succ n ih => intro l1 g H locs ls h hP hS hl; exact bs_X10_easeBy_21 C0  ih h hP hS hl
set_option maxHeartbeats 2000000 in
set_option maxRecDepth 20000 in
theorem m_X10_easeBy (l : Launch) (Γ : gE)    (g : gG) (z : Int32 × gG) (h : f_X10_easeBy g = some z) : gMi l yX10_easeBy cX10_easeBy 2 (some .int) 5 117 Γ [.ref (gB Γ + 174)] g z := by
  unfold f_X10_easeBy at h
  refine gStart (own := RX10) (by decide +kernel) rfl (Nat.le_of_ble_eq_true rfl) ?_
  intro p e s m below meth c C0 ls hl hP
  have hS : va_S (gA Γ) s.heap s.heap [] := va_S.rf
  have hl : lv_has ls 2 [(0, .ref (gB Γ + 174))] := hl
  obtain ⟨hx, hb, hml, hr, hown, hts, hK, hlk, hX⟩ := id C0
  refine lv_aload_n hx hb dX10_easeBy_0 rfl (lv_at hl 0 rfl) ?_
  refine lv_iconst (v := 0) hx hb dX10_easeBy_1 (by decide) ?_
  refine gp_10_0 hx hb hown hts hK hP hS wf_X10_73 dX10_easeBy_2 h (fun H locs g1 h hP hS => ?_)
  refine lv_aload_n hx hb dX10_easeBy_5 rfl (lv_at hl 0 rfl) ?_
  refine lv_aload_n hx hb dX10_easeBy_6 rfl (lv_at hl 0 rfl) ?_
  refine gf_10_13 hx hb hown hts hK hP wf_X10_35 dX10_easeBy_7 ?_
  refine gCVi (rest := []) C0 cal_X10_deadOf wl_X10_262 wi_X10_deadOf ws_X10_deadOf ⟨Nat.le_of_ble_eq_true rfl, Nat.le_of_ble_eq_true rfl⟩ ⟨Nat.le_of_ble_eq_true rfl, Nat.le_of_ble_eq_true rfl⟩ grv_10 [.ref (gB Γ + 183)] rfl (Nat.le_of_ble_eq_true rfl) hP hS hl.1 dX10_easeBy_10 h (fun u hu => m_X10_deadOf l Γ is_183 g1 u hu) (fun u2 H locs h hP hS => ?_) rfl
  refine lv_if_ne (tgt := 19) hx hb dX10_easeBy_13 (by decide) (fun c3 => ?_) (fun c3 => ?_)
  · replace h := gneg c3 h
    refine lv_iconst (v := 0) hx hb dX10_easeBy_19 (by decide) ?_
    refine lv_istore_n (lv' := [(1, .int (0 : Int32)), (0, .ref (gB Γ + 174))]) hx hb dX10_easeBy_20 rfl hl (by decide) rfl (fun ls hl => ?_)
    exact bk_X10_easeBy_21 C0  gFuel _ _ _ _ _ h hP hS (lv_sub hl [1, 0] rfl)
  · replace h := gpos c3 h
    refine lv_bipush (v := -9) hx hb dX10_easeBy_16 (by decide) ?_
    exact giret hx hb hr hlk hP hS dX10_easeBy_18 h
set_option maxHeartbeats 2000000 in
set_option maxRecDepth 20000 in
theorem bs_X10_does_106 {p : Program} {l : Launch} {e : Env} {s : State} {m : MethodId} {args : Array Value} {below : List Frame} {meth : Method} {c : Code} {Γ : gE} (C0 : gCx p s m args meth c Γ RX10 cX10_does 10 (some .boolean))   {z : Int32 × gG}  {l1 : Int32} {l2 : Int32} {l3 : Int32} {l4 : Int32} {l5 : Int32} {l6 : Int32} {l7 : Int32} {l8 : Int32} {s0 : Int32} {g : gG} {H : Heap} {locs : List Loc} {ls : Array Slot}  (h : fs_X10_does_106 l1 l2 l3 l4 l5 l6 l7 l8 s0 g = some z) (hP : va_P (gD Γ) gcls (lay Γ g) H) (hS : va_S (gA Γ) s.heap H locs) (hl : lv_has ls 10 [(0, .ref (gB Γ + 174)), (1, .int l1), (2, .int l2), (3, .int l3), (4, .int l4), (5, .int l5), (6, .int l6), (7, .int l7), (8, .int l8)]) : W p l e (gRm 5 117) s m args below meth c H locs 0 0 (MQ below (gQi Γ z) args s 0 0 (gA Γ)) (F0 m 106 ls [.int s0]) := by
  unfold fs_X10_does_106 at h
  obtain ⟨hx, hb, hml, hr, hown, hts, hK, hlk, hX⟩ := id C0
  refine lv_istore (lv' := [(9, .int s0), (0, .ref (gB Γ + 174)), (1, .int l1), (2, .int l2), (3, .int l3), (4, .int l4), (5, .int l5), (6, .int l6), (7, .int l7), (8, .int l8)]) hx hb dX10_does_106 hl (by decide) rfl (fun ls hl => ?_)
  refine lv_iload_n hx hb dX10_does_108 rfl (lv_at hl 3 rfl) ?_
  by_cases c1 : l2 = (1 : Int32)
  · replace h := gpos c1 h
    refine lv_tableIn (tgt := 160) hx hb dX10_does_109 (by rw [c1]; decide) (by rw [c1]; decide) (by rw [c1]; rfl) (by decide) ?_
    refine lv_iload hx hb dX10_does_160 (lv_at hl 9 rfl) ?_
    refine lv_if_eq (tgt := 185) hx hb dX10_does_162 (by decide) (fun c2 => ?_) (fun c2 => ?_)
    · replace h := gpos c2 h
      refine lv_iconst (v := 0) hx hb dX10_does_185 (by decide) ?_
      exact gzret0 hx hb hr hlk hP hS rfl dX10_does_186 h
    · replace h := gneg c2 h
      refine lv_aload_n hx hb dX10_does_165 rfl (lv_at hl 1 rfl) ?_
      refine gf_10_14 hx hb hown hts hK hP wf_X10_38 dX10_does_166 ?_
      refine lv_aload_n hx hb dX10_does_169 rfl (lv_at hl 1 rfl) ?_
      refine gf_10_14 hx hb hown hts hK hP wf_X10_38 dX10_does_170 ?_
      refine lv_iload_n hx hb dX10_does_173 rfl (lv_at hl 4 rfl) ?_
      refine gCSi (rest := [.ref (gB Γ + 184)]) C0 cal_X10_visited wl_X10_104 wt_X10_visited ⟨Nat.le_of_ble_eq_true rfl, Nat.le_of_ble_eq_true rfl⟩ ⟨Nat.le_of_ble_eq_true rfl, Nat.le_of_ble_eq_true rfl⟩ [.ref (gB Γ + 184), .int l3] rfl (Nat.le_of_ble_eq_true rfl) hP hS hl.1 dX10_does_174 h (fun u hu => m_X10_visited l Γ is_184 l3 g u hu) (fun u3 H locs h hP hS => ?_) rfl
      refine lv_iload hx hb dX10_does_177 (lv_at hl 5 rfl) ?_
      refine gCSi (rest := []) C0 cal_X10_canVisit wl_X10_98 wt_X10_canVisit ⟨Nat.le_of_ble_eq_true rfl, Nat.le_of_ble_eq_true rfl⟩ ⟨Nat.le_of_ble_eq_true rfl, Nat.le_of_ble_eq_true rfl⟩ [.ref (gB Γ + 184), .int u3.1, .int l4] rfl (Nat.le_of_ble_eq_true rfl) hP hS hl.1 dX10_does_179 h (fun u hu => m_X10_canVisit l Γ is_184 u3.1 l4 u3.2 u hu) (fun u4 H locs h hP hS => ?_) rfl
      refine lv_if_ne (tgt := 187) hx hb dX10_does_182 (by decide) (fun c5 => ?_) (fun c5 => ?_)
      · replace h := gneg c5 h
        refine lv_aload_n hx hb dX10_does_187 rfl (lv_at hl 1 rfl) ?_
        refine gf_10_14 hx hb hown hts hK hP wf_X10_38 dX10_does_188 ?_
        refine lv_iload_n hx hb dX10_does_191 rfl (lv_at hl 4 rfl) ?_
        refine lv_iload hx hb dX10_does_192 (lv_at hl 5 rfl) ?_
        refine gCSv (rest := []) C0 cal_X10_visit wl_X10_239 wt_X10_visit ⟨Nat.le_of_ble_eq_true rfl, Nat.le_of_ble_eq_true rfl⟩ ⟨Nat.le_of_ble_eq_true rfl, Nat.le_of_ble_eq_true rfl⟩ [.ref (gB Γ + 184), .int l3, .int l4] rfl (Nat.le_of_ble_eq_true rfl) hP hS hl.1 dX10_does_194 h (fun u hu => m_X10_visit l Γ is_184 l3 l4 u4.2 u hu) (fun u6 H locs h hP hS => ?_) rfl
        refine lv_iconst (v := 1) hx hb dX10_does_197 (by decide) ?_
        exact gzret0 hx hb hr hlk hP hS rfl dX10_does_198 h
      · replace h := gpos c5 h
        refine lv_iconst (v := 0) hx hb dX10_does_185 (by decide) ?_
        exact gzret0 hx hb hr hlk hP hS rfl dX10_does_186 h
  replace h := gneg c1 h
  by_cases c7 : l2 = (2 : Int32)
  · replace h := gpos c7 h
    refine lv_tableIn (tgt := 199) hx hb dX10_does_109 (by rw [c7]; decide) (by rw [c7]; decide) (by rw [c7]; rfl) (by decide) ?_
    refine lv_iload hx hb dX10_does_199 (lv_at hl 7 rfl) ?_
    refine lv_if_eq (tgt := 221) hx hb dX10_does_201 (by decide) (fun c8 => ?_) (fun c8 => ?_)
    · replace h := gpos c8 h
      refine lv_iconst (v := 0) hx hb dX10_does_221 (by decide) ?_
      exact gzret0 hx hb hr hlk hP hS rfl dX10_does_222 h
    · replace h := gneg c8 h
      refine lv_iload hx hb dX10_does_204 (lv_at hl 0 rfl) ?_
      refine lv_if_eq (tgt := 221) hx hb dX10_does_206 (by decide) (fun c9 => ?_) (fun c9 => ?_)
      · replace h := gpos c9 h
        refine lv_iconst (v := 0) hx hb dX10_does_221 (by decide) ?_
        exact gzret0 hx hb hr hlk hP hS rfl dX10_does_222 h
      · replace h := gneg c9 h
        refine lv_aload_n hx hb dX10_does_209 rfl (lv_at hl 1 rfl) ?_
        refine lv_aload_n hx hb dX10_does_210 rfl (lv_at hl 1 rfl) ?_
        refine gf_10_14 hx hb hown hts hK hP wf_X10_38 dX10_does_211 ?_
        refine lv_iload_n hx hb dX10_does_214 rfl (lv_at hl 4 rfl) ?_
        refine gCVi (rest := []) C0 cal_X10_safeOf wl_X10_243 wi_X10_safeOf ws_X10_safeOf ⟨Nat.le_of_ble_eq_true rfl, Nat.le_of_ble_eq_true rfl⟩ ⟨Nat.le_of_ble_eq_true rfl, Nat.le_of_ble_eq_true rfl⟩ grv_10 [.ref (gB Γ + 184), .int l3] rfl (Nat.le_of_ble_eq_true rfl) hP hS hl.1 dX10_does_215 h (fun u hu => m_X10_safeOf l Γ is_184 l3 g u hu) (fun u10 H locs h hP hS => ?_) rfl
        refine lv_if_ne (tgt := 223) hx hb dX10_does_218 (by decide) (fun c11 => ?_) (fun c11 => ?_)
        · replace h := gneg c11 h
          refine lv_aload_n hx hb dX10_does_223 rfl (lv_at hl 1 rfl) ?_
          refine gf_10_14 hx hb hown hts hK hP wf_X10_38 dX10_does_224 ?_
          refine lv_iload_n hx hb dX10_does_227 rfl (lv_at hl 4 rfl) ?_
          refine lv_iconst (v := 2) hx hb dX10_does_228 (by decide) ?_
          refine gCSi (rest := [.ref (gB Γ + 184)]) C0 cal_X10_cell wl_X10_101 wt_X10_cell ⟨Nat.le_of_ble_eq_true rfl, Nat.le_of_ble_eq_true rfl⟩ ⟨Nat.le_of_ble_eq_true rfl, Nat.le_of_ble_eq_true rfl⟩ [.int l3, .int (2 : Int32)] rfl (Nat.le_of_ble_eq_true rfl) hP hS hl.1 dX10_does_229 h (fun u hu => m_X10_cell l Γ l3 (2 : Int32) u10.2 u hu) (fun u12 H locs h hP hS => ?_) rfl
          refine lv_dup2_11 hx hb dX10_does_232 rfl rfl ?_
          refine gIld hx hb hK hP is_184 dX10_does_233 h (fun h => ?_)
          refine lv_iconst (v := 1) hx hb dX10_does_234 (by decide) ?_
          refine lv_iadd hx hb dX10_does_235 ?_
          refine gIst hx hb hK hP hS is_184 dX10_does_236 h (fun H locs g13 h hP hS => ?_)
          refine lv_iconst (v := 1) hx hb dX10_does_237 (by decide) ?_
          exact gzret0 hx hb hr hlk hP hS rfl dX10_does_238 h
        · replace h := gpos c11 h
          refine lv_iconst (v := 0) hx hb dX10_does_221 (by decide) ?_
          exact gzret0 hx hb hr hlk hP hS rfl dX10_does_222 h
  replace h := gneg c7 h
  by_cases c14 : l2 = (3 : Int32)
  · replace h := gpos c14 h
    refine lv_tableIn (tgt := 239) hx hb dX10_does_109 (by rw [c14]; decide) (by rw [c14]; decide) (by rw [c14]; rfl) (by decide) ?_
    refine lv_iload_n hx hb dX10_does_239 rfl (lv_at hl 2 rfl) ?_
    refine lv_sipush (v := 3000) hx hb dX10_does_240 (by decide) ?_
    refine lv_icmp_ne (tgt := 260) hx hb dX10_does_243 (by decide) (fun c15 => ?_) (fun c15 => ?_)
    · replace h := gneg c15 h
      refine lv_iconst (v := 0) hx hb dX10_does_260 (by decide) ?_
      exact gzret0 hx hb hr hlk hP hS rfl dX10_does_261 h
    · replace h := gpos c15 h
      refine lv_aload_n hx hb dX10_does_246 rfl (lv_at hl 1 rfl) ?_
      refine gf_10_14 hx hb hown hts hK hP wf_X10_38 dX10_does_247 ?_
      refine gCSi (rest := []) C0 cal_X10_adds wl_X10_235 wt_X10_adds ⟨Nat.le_of_ble_eq_true rfl, Nat.le_of_ble_eq_true rfl⟩ ⟨Nat.le_of_ble_eq_true rfl, Nat.le_of_ble_eq_true rfl⟩ [.ref (gB Γ + 184)] rfl (Nat.le_of_ble_eq_true rfl) hP hS hl.1 dX10_does_250 h (fun u hu => m_X10_adds l Γ is_184 g u hu) (fun u16 H locs h hP hS => ?_) rfl
      refine lv_if_eq (tgt := 260) hx hb dX10_does_253 (by decide) (fun c17 => ?_) (fun c17 => ?_)
      · replace h := gpos c17 h
        refine lv_iconst (v := 0) hx hb dX10_does_260 (by decide) ?_
        exact gzret0 hx hb hr hlk hP hS rfl dX10_does_261 h
      · replace h := gneg c17 h
        refine lv_iconst (v := 1) hx hb dX10_does_256 (by decide) ?_
        refine lv_goto (tgt := 261) hx hb dX10_does_257 (by decide) ?_
        exact gzret0 hx hb hr hlk hP hS rfl dX10_does_261 h
  replace h := gneg c14 h
  by_cases c18 : l2 = (4 : Int32)
  · replace h := gpos c18 h
    refine lv_tableIn (tgt := 262) hx hb dX10_does_109 (by rw [c18]; decide) (by rw [c18]; decide) (by rw [c18]; rfl) (by decide) ?_
    refine lv_iload hx hb dX10_does_262 (lv_at hl 7 rfl) ?_
    refine lv_if_eq (tgt := 272) hx hb dX10_does_264 (by decide) (fun c19 => ?_) (fun c19 => ?_)
    · replace h := gpos c19 h
      refine lv_iconst (v := 0) hx hb dX10_does_272 (by decide) ?_
      exact gzret0 hx hb hr hlk hP hS rfl dX10_does_273 h
    · replace h := gneg c19 h
      refine lv_iload hx hb dX10_does_267 (lv_at hl 0 rfl) ?_
      refine lv_if_ne (tgt := 274) hx hb dX10_does_269 (by decide) (fun c20 => ?_) (fun c20 => ?_)
      · replace h := gneg c20 h
        refine lv_aload_n hx hb dX10_does_274 rfl (lv_at hl 1 rfl) ?_
        refine gf_10_14 hx hb hown hts hK hP wf_X10_38 dX10_does_275 ?_
        refine lv_iload_n hx hb dX10_does_278 rfl (lv_at hl 4 rfl) ?_
        refine gCSv (rest := []) C0 cal_X10_drop wl_X10_249 wt_X10_drop ⟨Nat.le_of_ble_eq_true rfl, Nat.le_of_ble_eq_true rfl⟩ ⟨Nat.le_of_ble_eq_true rfl, Nat.le_of_ble_eq_true rfl⟩ [.ref (gB Γ + 184), .int l3] rfl (Nat.le_of_ble_eq_true rfl) hP hS hl.1 dX10_does_279 h (fun u hu => m_X10_drop l Γ is_184 l3 g u hu) (fun u21 H locs h hP hS => ?_) rfl
        refine lv_iconst (v := 1) hx hb dX10_does_282 (by decide) ?_
        exact gzret0 hx hb hr hlk hP hS rfl dX10_does_283 h
      · replace h := gpos c20 h
        refine lv_iconst (v := 0) hx hb dX10_does_272 (by decide) ?_
        exact gzret0 hx hb hr hlk hP hS rfl dX10_does_273 h
  replace h := gneg c18 h
  by_cases c22 : l2 = (5 : Int32)
  · replace h := gpos c22 h
    refine lv_tableIn (tgt := 284) hx hb dX10_does_109 (by rw [c22]; decide) (by rw [c22]; decide) (by rw [c22]; rfl) (by decide) ?_
    refine lv_iload hx hb dX10_does_284 (lv_at hl 9 rfl) ?_
    refine lv_if_eq (tgt := 310) hx hb dX10_does_286 (by decide) (fun c23 => ?_) (fun c23 => ?_)
    · replace h := gpos c23 h
      refine lv_iconst (v := 0) hx hb dX10_does_310 (by decide) ?_
      exact gzret0 hx hb hr hlk hP hS rfl dX10_does_311 h
    · replace h := gneg c23 h
      refine lv_aload_n hx hb dX10_does_289 rfl (lv_at hl 1 rfl) ?_
      refine lv_aload_n hx hb dX10_does_290 rfl (lv_at hl 1 rfl) ?_
      refine gf_10_14 hx hb hown hts hK hP wf_X10_38 dX10_does_291 ?_
      refine lv_iload_n hx hb dX10_does_294 rfl (lv_at hl 4 rfl) ?_
      refine gCVi (rest := []) C0 cal_X10_safeOf wl_X10_243 wi_X10_safeOf ws_X10_safeOf ⟨Nat.le_of_ble_eq_true rfl, Nat.le_of_ble_eq_true rfl⟩ ⟨Nat.le_of_ble_eq_true rfl, Nat.le_of_ble_eq_true rfl⟩ grv_10 [.ref (gB Γ + 184), .int l3] rfl (Nat.le_of_ble_eq_true rfl) hP hS hl.1 dX10_does_295 h (fun u hu => m_X10_safeOf l Γ is_184 l3 g u hu) (fun u24 H locs h hP hS => ?_) rfl
      refine lv_iload hx hb dX10_does_298 (lv_at hl 5 rfl) ?_
      refine gCSi (rest := []) C0 cal_X10_has wl_X10_65 wt_X10_has ⟨Nat.le_of_ble_eq_true rfl, Nat.le_of_ble_eq_true rfl⟩ ⟨Nat.le_of_ble_eq_true rfl, Nat.le_of_ble_eq_true rfl⟩ [.int u24.1, .int l4] rfl (Nat.le_of_ble_eq_true rfl) hP hS hl.1 dX10_does_300 h (fun u hu => m_X10_has l Γ u24.1 l4 u24.2 u hu) (fun u25 H locs h hP hS => ?_) rfl
      refine lv_if_eq (tgt := 310) hx hb dX10_does_303 (by decide) (fun c26 => ?_) (fun c26 => ?_)
      · replace h := gpos c26 h
        refine lv_iconst (v := 0) hx hb dX10_does_310 (by decide) ?_
        exact gzret0 hx hb hr hlk hP hS rfl dX10_does_311 h
      · replace h := gneg c26 h
        refine lv_iconst (v := 1) hx hb dX10_does_306 (by decide) ?_
        refine lv_goto (tgt := 311) hx hb dX10_does_307 (by decide) ?_
        exact gzret0 hx hb hr hlk hP hS rfl dX10_does_311 h
  replace h := gneg c22 h
  by_cases c27 : l2 = (6 : Int32)
  · replace h := gpos c27 h
    refine lv_tableIn (tgt := 312) hx hb dX10_does_109 (by rw [c27]; decide) (by rw [c27]; decide) (by rw [c27]; rfl) (by decide) ?_
    refine lv_iload hx hb dX10_does_312 (lv_at hl 7 rfl) ?_
    refine lv_if_eq (tgt := 342) hx hb dX10_does_314 (by decide) (fun c28 => ?_) (fun c28 => ?_)
    · replace h := gpos c28 h
      refine lv_iconst (v := 0) hx hb dX10_does_342 (by decide) ?_
      exact gzret0 hx hb hr hlk hP hS rfl dX10_does_343 h
    · replace h := gneg c28 h
      refine lv_aload_n hx hb dX10_does_317 rfl (lv_at hl 1 rfl) ?_
      refine gf_10_14 hx hb hown hts hK hP wf_X10_38 dX10_does_318 ?_
      refine lv_iload_n hx hb dX10_does_321 rfl (lv_at hl 4 rfl) ?_
      refine lv_iconst (v := 1) hx hb dX10_does_322 (by decide) ?_
      refine gCSi (rest := [.ref (gB Γ + 184)]) C0 cal_X10_cell wl_X10_101 wt_X10_cell ⟨Nat.le_of_ble_eq_true rfl, Nat.le_of_ble_eq_true rfl⟩ ⟨Nat.le_of_ble_eq_true rfl, Nat.le_of_ble_eq_true rfl⟩ [.int l3, .int (1 : Int32)] rfl (Nat.le_of_ble_eq_true rfl) hP hS hl.1 dX10_does_323 h (fun u hu => m_X10_cell l Γ l3 (1 : Int32) g u hu) (fun u29 H locs h hP hS => ?_) rfl
      refine gIld hx hb hK hP is_184 dX10_does_326 h (fun h => ?_)
      refine lv_bipush (v := 10) hx hb dX10_does_327 (by decide) ?_
      refine lv_iload hx hb dX10_does_329 (lv_at hl 5 rfl) ?_
      refine lv_imul hx hb dX10_does_331 ?_
      refine lv_iload hx hb dX10_does_332 (lv_at hl 6 rfl) ?_
      refine lv_iadd hx hb dX10_does_334 ?_
      refine lv_icmp_gt (tgt := 342) hx hb dX10_does_335 (by decide) (fun c30 => ?_) (fun c30 => ?_)
      · replace h := gpos c30 h
        refine lv_iconst (v := 0) hx hb dX10_does_342 (by decide) ?_
        exact gzret0 hx hb hr hlk hP hS rfl dX10_does_343 h
      · replace h := gneg c30 h
        refine lv_iconst (v := 1) hx hb dX10_does_338 (by decide) ?_
        refine lv_goto (tgt := 343) hx hb dX10_does_339 (by decide) ?_
        exact gzret0 hx hb hr hlk hP hS rfl dX10_does_343 h
  replace h := gneg c27 h
  by_cases c31 : l2 = (7 : Int32)
  · replace h := gpos c31 h
    refine lv_tableIn (tgt := 344) hx hb dX10_does_109 (by rw [c31]; decide) (by rw [c31]; decide) (by rw [c31]; rfl) (by decide) ?_
    refine lv_iload hx hb dX10_does_344 (lv_at hl 8 rfl) ?_
    refine lv_if_ne (tgt := 351) hx hb dX10_does_346 (by decide) (fun c32 => ?_) (fun c32 => ?_)
    · replace h := gneg c32 h
      refine lv_aload_n hx hb dX10_does_351 rfl (lv_at hl 1 rfl) ?_
      refine gf_10_14 hx hb hown hts hK hP wf_X10_38 dX10_does_352 ?_
      refine lv_iconst (v := 2) hx hb dX10_does_355 (by decide) ?_
      refine lv_iconst (v := 2) hx hb dX10_does_356 (by decide) ?_
      refine lv_iload_n hx hb dX10_does_357 rfl (lv_at hl 4 rfl) ?_
      refine lv_imul hx hb dX10_does_358 ?_
      refine lv_iadd hx hb dX10_does_359 ?_
      refine lv_iload hx hb dX10_does_360 (lv_at hl 5 rfl) ?_
      refine gIst hx hb hK hP hS is_184 dX10_does_362 h (fun H locs g33 h hP hS => ?_)
      refine lv_aload_n hx hb dX10_does_363 rfl (lv_at hl 1 rfl) ?_
      refine gf_10_14 hx hb hown hts hK hP wf_X10_38 dX10_does_364 ?_
      refine lv_iconst (v := 2) hx hb dX10_does_367 (by decide) ?_
      refine lv_iconst (v := 2) hx hb dX10_does_368 (by decide) ?_
      refine lv_iload_n hx hb dX10_does_369 rfl (lv_at hl 4 rfl) ?_
      refine lv_imul hx hb dX10_does_370 ?_
      refine lv_iadd hx hb dX10_does_371 ?_
      refine lv_iconst (v := 1) hx hb dX10_does_372 (by decide) ?_
      refine lv_iadd hx hb dX10_does_373 ?_
      refine lv_iload hx hb dX10_does_374 (lv_at hl 6 rfl) ?_
      refine gIst hx hb hK hP hS is_184 dX10_does_376 h (fun H locs g34 h hP hS => ?_)
      refine lv_iconst (v := 1) hx hb dX10_does_377 (by decide) ?_
      exact gzret0 hx hb hr hlk hP hS rfl dX10_does_378 h
    · replace h := gpos c32 h
      refine lv_iconst (v := 0) hx hb dX10_does_349 (by decide) ?_
      exact gzret0 hx hb hr hlk hP hS rfl dX10_does_350 h
  replace h := gneg c31 h
  by_cases c35 : l2 = (8 : Int32)
  · replace h := gpos c35 h
    refine lv_tableIn (tgt := 379) hx hb dX10_does_109 (by rw [c35]; decide) (by rw [c35]; decide) (by rw [c35]; rfl) (by decide) ?_
    refine lv_iload hx hb dX10_does_379 (lv_at hl 8 rfl) ?_
    refine lv_if_eq (tgt := 389) hx hb dX10_does_381 (by decide) (fun c36 => ?_) (fun c36 => ?_)
    · replace h := gpos c36 h
      refine lv_iconst (v := 0) hx hb dX10_does_389 (by decide) ?_
      exact gzret0 hx hb hr hlk hP hS rfl dX10_does_390 h
    · replace h := gneg c36 h
      refine lv_iload hx hb dX10_does_384 (lv_at hl 0 rfl) ?_
      refine lv_if_ne (tgt := 391) hx hb dX10_does_386 (by decide) (fun c37 => ?_) (fun c37 => ?_)
      · replace h := gneg c37 h
        refine lv_aload_n hx hb dX10_does_391 rfl (lv_at hl 1 rfl) ?_
        refine gf_10_14 hx hb hown hts hK hP wf_X10_38 dX10_does_392 ?_
        refine lv_iload_n hx hb dX10_does_395 rfl (lv_at hl 4 rfl) ?_
        refine gCSv (rest := []) C0 cal_X10_makeEasy wl_X10_252 wt_X10_makeEasy ⟨Nat.le_of_ble_eq_true rfl, Nat.le_of_ble_eq_true rfl⟩ ⟨Nat.le_of_ble_eq_true rfl, Nat.le_of_ble_eq_true rfl⟩ [.ref (gB Γ + 184), .int l3] rfl (Nat.le_of_ble_eq_true rfl) hP hS hl.1 dX10_does_396 h (fun u hu => m_X10_makeEasy l Γ is_184 l3 g u hu) (fun u38 H locs h hP hS => ?_) rfl
        refine lv_iconst (v := 1) hx hb dX10_does_399 (by decide) ?_
        exact gzret0 hx hb hr hlk hP hS rfl dX10_does_400 h
      · replace h := gpos c37 h
        refine lv_iconst (v := 0) hx hb dX10_does_389 (by decide) ?_
        exact gzret0 hx hb hr hlk hP hS rfl dX10_does_390 h
  replace h := gneg c35 h
  by_cases c39 : l2 = (9 : Int32)
  · replace h := gpos c39 h
    refine lv_tableIn (tgt := 401) hx hb dX10_does_109 (by rw [c39]; decide) (by rw [c39]; decide) (by rw [c39]; rfl) (by decide) ?_
    refine lv_iload hx hb dX10_does_401 (lv_at hl 7 rfl) ?_
    refine lv_if_eq (tgt := 430) hx hb dX10_does_403 (by decide) (fun c40 => ?_) (fun c40 => ?_)
    · replace h := gpos c40 h
      refine lv_iconst (v := 0) hx hb dX10_does_430 (by decide) ?_
      exact gzret0 hx hb hr hlk hP hS rfl dX10_does_431 h
    · replace h := gneg c40 h
      refine lv_iload hx hb dX10_does_406 (lv_at hl 6 rfl) ?_
      refine lv_if_ne (tgt := 430) hx hb dX10_does_408 (by decide) (fun c41 => ?_) (fun c41 => ?_)
      · replace h := gneg c41 h
        refine lv_iconst (v := 0) hx hb dX10_does_430 (by decide) ?_
        exact gzret0 hx hb hr hlk hP hS rfl dX10_does_431 h
      · replace h := gpos c41 h
        refine lv_aload_n hx hb dX10_does_411 rfl (lv_at hl 1 rfl) ?_
        refine gf_10_14 hx hb hown hts hK hP wf_X10_38 dX10_does_412 ?_
        refine lv_iload_n hx hb dX10_does_415 rfl (lv_at hl 4 rfl) ?_
        refine lv_iconst (v := 0) hx hb dX10_does_416 (by decide) ?_
        refine gCSi (rest := [.ref (gB Γ + 184)]) C0 cal_X10_cell wl_X10_101 wt_X10_cell ⟨Nat.le_of_ble_eq_true rfl, Nat.le_of_ble_eq_true rfl⟩ ⟨Nat.le_of_ble_eq_true rfl, Nat.le_of_ble_eq_true rfl⟩ [.int l3, .int (0 : Int32)] rfl (Nat.le_of_ble_eq_true rfl) hP hS hl.1 dX10_does_417 h (fun u hu => m_X10_cell l Γ l3 (0 : Int32) g u hu) (fun u42 H locs h hP hS => ?_) rfl
        refine gIld hx hb hK hP is_184 dX10_does_420 h (fun h => ?_)
        refine lv_iload hx hb dX10_does_421 (lv_at hl 5 rfl) ?_
        refine lv_icmp_lt (tgt := 430) hx hb dX10_does_423 (by decide) (fun c43 => ?_) (fun c43 => ?_)
        · replace h := gpos c43 h
          refine lv_iconst (v := 0) hx hb dX10_does_430 (by decide) ?_
          exact gzret0 hx hb hr hlk hP hS rfl dX10_does_431 h
        · replace h := gneg c43 h
          refine lv_iconst (v := 1) hx hb dX10_does_426 (by decide) ?_
          refine lv_goto (tgt := 431) hx hb dX10_does_427 (by decide) ?_
          exact gzret0 hx hb hr hlk hP hS rfl dX10_does_431 h
  replace h := gneg c39 h
  have nc1 := gNe c1
  simp only [show ((1 : Int32)).toInt = 1 from by decide] at nc1
  have nc7 := gNe c7
  simp only [show ((2 : Int32)).toInt = 2 from by decide] at nc7
  have nc14 := gNe c14
  simp only [show ((3 : Int32)).toInt = 3 from by decide] at nc14
  have nc18 := gNe c18
  simp only [show ((4 : Int32)).toInt = 4 from by decide] at nc18
  have nc22 := gNe c22
  simp only [show ((5 : Int32)).toInt = 5 from by decide] at nc22
  have nc27 := gNe c27
  simp only [show ((6 : Int32)).toInt = 6 from by decide] at nc27
  have nc31 := gNe c31
  simp only [show ((7 : Int32)).toInt = 7 from by decide] at nc31
  have nc35 := gNe c35
  simp only [show ((8 : Int32)).toInt = 8 from by decide] at nc35
  have nc39 := gNe c39
  simp only [show ((9 : Int32)).toInt = 9 from by decide] at nc39
  refine lv_tableOut (tgt := 432) hx hb dX10_does_109 (gTabOut (by omega)) (by decide) ?_
  refine lv_iconst (v := 0) hx hb dX10_does_432 (by decide) ?_
  exact gzret0 hx hb hr hlk hP hS rfl dX10_does_433 h
set_option maxHeartbeats 2000000 in
set_option maxRecDepth 20000 in
theorem bs_X10_does_105 {p : Program} {l : Launch} {e : Env} {s : State} {m : MethodId} {args : Array Value} {below : List Frame} {meth : Method} {c : Code} {Γ : gE} (C0 : gCx p s m args meth c Γ RX10 cX10_does 10 (some .boolean))   {z : Int32 × gG}  {l1 : Int32} {l2 : Int32} {l3 : Int32} {l4 : Int32} {l5 : Int32} {l6 : Int32} {l7 : Int32} {l8 : Int32} {g : gG} {H : Heap} {locs : List Loc} {ls : Array Slot}  (h : fs_X10_does_105 l1 l2 l3 l4 l5 l6 l7 l8 g = some z) (hP : va_P (gD Γ) gcls (lay Γ g) H) (hS : va_S (gA Γ) s.heap H locs) (hl : lv_has ls 10 [(0, .ref (gB Γ + 174)), (1, .int l1), (2, .int l2), (3, .int l3), (4, .int l4), (5, .int l5), (6, .int l6), (7, .int l7), (8, .int l8)]) : W p l e (gRm 5 117) s m args below meth c H locs 0 0 (MQ below (gQi Γ z) args s 0 0 (gA Γ)) (F0 m 105 ls []) := by
  unfold fs_X10_does_105 at h
  obtain ⟨hx, hb, hml, hr, hown, hts, hK, hlk, hX⟩ := id C0
  refine lv_iconst (v := 0) hx hb dX10_does_105 (by decide) ?_
  exact bs_X10_does_106 C0  h hP hS (lv_sub hl [0, 1, 2, 3, 4, 5, 6, 7, 8] rfl)
set_option maxHeartbeats 2000000 in
set_option maxRecDepth 20000 in
theorem bs_X10_does_89 {p : Program} {l : Launch} {e : Env} {s : State} {m : MethodId} {args : Array Value} {below : List Frame} {meth : Method} {c : Code} {Γ : gE} (C0 : gCx p s m args meth c Γ RX10 cX10_does 10 (some .boolean))   {z : Int32 × gG}  {l1 : Int32} {l2 : Int32} {l3 : Int32} {l4 : Int32} {l5 : Int32} {l6 : Int32} {l7 : Int32} {s0 : Int32} {g : gG} {H : Heap} {locs : List Loc} {ls : Array Slot}  (h : fs_X10_does_89 l1 l2 l3 l4 l5 l6 l7 s0 g = some z) (hP : va_P (gD Γ) gcls (lay Γ g) H) (hS : va_S (gA Γ) s.heap H locs) (hl : lv_has ls 10 [(0, .ref (gB Γ + 174)), (1, .int l1), (2, .int l2), (3, .int l3), (4, .int l4), (5, .int l5), (6, .int l6), (7, .int l7)]) : W p l e (gRm 5 117) s m args below meth c H locs 0 0 (MQ below (gQi Γ z) args s 0 0 (gA Γ)) (F0 m 89 ls [.int s0]) := by
  unfold fs_X10_does_89 at h
  obtain ⟨hx, hb, hml, hr, hown, hts, hK, hlk, hX⟩ := id C0
  refine lv_istore (lv' := [(8, .int s0), (0, .ref (gB Γ + 174)), (1, .int l1), (2, .int l2), (3, .int l3), (4, .int l4), (5, .int l5), (6, .int l6), (7, .int l7)]) hx hb dX10_does_89 hl (by decide) rfl (fun ls hl => ?_)
  refine lv_iload hx hb dX10_does_91 (lv_at hl 5 rfl) ?_
  refine lv_if_ne (tgt := 105) hx hb dX10_does_93 (by decide) (fun c1 => ?_) (fun c1 => ?_)
  · replace h := gneg c1 h
    exact bs_X10_does_105 C0  h hP hS (lv_sub hl [1, 2, 3, 4, 5, 6, 7, 8, 0] rfl)
  · replace h := gpos c1 h
    refine lv_iload hx hb dX10_does_96 (lv_at hl 6 rfl) ?_
    refine lv_if_ne (tgt := 105) hx hb dX10_does_98 (by decide) (fun c2 => ?_) (fun c2 => ?_)
    · replace h := gneg c2 h
      exact bs_X10_does_105 C0  h hP hS (lv_sub hl [1, 2, 3, 4, 5, 6, 7, 8, 0] rfl)
    · replace h := gpos c2 h
      refine lv_iconst (v := 1) hx hb dX10_does_101 (by decide) ?_
      refine lv_goto (tgt := 106) hx hb dX10_does_102 (by decide) ?_
      exact bs_X10_does_106 C0  h hP hS (lv_sub hl [1, 2, 3, 4, 5, 6, 7, 8, 0] rfl)
set_option maxHeartbeats 2000000 in
set_option maxRecDepth 20000 in
theorem bs_X10_does_88 {p : Program} {l : Launch} {e : Env} {s : State} {m : MethodId} {args : Array Value} {below : List Frame} {meth : Method} {c : Code} {Γ : gE} (C0 : gCx p s m args meth c Γ RX10 cX10_does 10 (some .boolean))   {z : Int32 × gG}  {l1 : Int32} {l2 : Int32} {l3 : Int32} {l4 : Int32} {l5 : Int32} {l6 : Int32} {l7 : Int32} {g : gG} {H : Heap} {locs : List Loc} {ls : Array Slot}  (h : fs_X10_does_88 l1 l2 l3 l4 l5 l6 l7 g = some z) (hP : va_P (gD Γ) gcls (lay Γ g) H) (hS : va_S (gA Γ) s.heap H locs) (hl : lv_has ls 10 [(0, .ref (gB Γ + 174)), (1, .int l1), (2, .int l2), (3, .int l3), (4, .int l4), (5, .int l5), (6, .int l6), (7, .int l7)]) : W p l e (gRm 5 117) s m args below meth c H locs 0 0 (MQ below (gQi Γ z) args s 0 0 (gA Γ)) (F0 m 88 ls []) := by
  unfold fs_X10_does_88 at h
  obtain ⟨hx, hb, hml, hr, hown, hts, hK, hlk, hX⟩ := id C0
  refine lv_iconst (v := 0) hx hb dX10_does_88 (by decide) ?_
  exact bs_X10_does_89 C0  h hP hS (lv_sub hl [0, 1, 2, 3, 4, 5, 6, 7] rfl)
set_option maxHeartbeats 2000000 in
set_option maxRecDepth 20000 in
theorem bs_X10_does_61 {p : Program} {l : Launch} {e : Env} {s : State} {m : MethodId} {args : Array Value} {below : List Frame} {meth : Method} {c : Code} {Γ : gE} (C0 : gCx p s m args meth c Γ RX10 cX10_does 10 (some .boolean))   {z : Int32 × gG}  {l1 : Int32} {l2 : Int32} {l3 : Int32} {l4 : Int32} {l5 : Int32} {l6 : Int32} {s0 : Int32} {g : gG} {H : Heap} {locs : List Loc} {ls : Array Slot}  (h : fs_X10_does_61 l1 l2 l3 l4 l5 l6 s0 g = some z) (hP : va_P (gD Γ) gcls (lay Γ g) H) (hS : va_S (gA Γ) s.heap H locs) (hl : lv_has ls 10 [(0, .ref (gB Γ + 174)), (1, .int l1), (2, .int l2), (3, .int l3), (4, .int l4), (5, .int l5), (6, .int l6)]) : W p l e (gRm 5 117) s m args below meth c H locs 0 0 (MQ below (gQi Γ z) args s 0 0 (gA Γ)) (F0 m 61 ls [.int s0]) := by
  unfold fs_X10_does_61 at h
  obtain ⟨hx, hb, hml, hr, hown, hts, hK, hlk, hX⟩ := id C0
  refine lv_istore (lv' := [(7, .int s0), (0, .ref (gB Γ + 174)), (1, .int l1), (2, .int l2), (3, .int l3), (4, .int l4), (5, .int l5), (6, .int l6)]) hx hb dX10_does_61 hl (by decide) rfl (fun ls hl => ?_)
  refine lv_iload hx hb dX10_does_63 (lv_at hl 7 rfl) ?_
  refine lv_if_eq (tgt := 88) hx hb dX10_does_65 (by decide) (fun c1 => ?_) (fun c1 => ?_)
  · replace h := gpos c1 h
    exact bs_X10_does_88 C0  h hP hS (lv_sub hl [1, 2, 3, 4, 5, 6, 7, 0] rfl)
  · replace h := gneg c1 h
    refine lv_iload hx hb dX10_does_68 (lv_at hl 5 rfl) ?_
    refine lv_aload_n hx hb dX10_does_70 rfl (lv_at hl 1 rfl) ?_
    refine gf_10_14 hx hb hown hts hK hP wf_X10_38 dX10_does_71 ?_
    refine lv_iconst (v := 0) hx hb dX10_does_74 (by decide) ?_
    refine gIld hx hb hK hP is_184 dX10_does_75 h (fun h => ?_)
    refine lv_icmp_ge (tgt := 88) hx hb dX10_does_76 (by decide) (fun c2 => ?_) (fun c2 => ?_)
    · replace h := gpos c2 h
      exact bs_X10_does_88 C0  h hP hS (lv_sub hl [1, 2, 3, 4, 5, 6, 7, 0] rfl)
    · replace h := gneg c2 h
      refine lv_iload hx hb dX10_does_79 (lv_at hl 6 rfl) ?_
      refine lv_if_ne (tgt := 88) hx hb dX10_does_81 (by decide) (fun c3 => ?_) (fun c3 => ?_)
      · replace h := gneg c3 h
        exact bs_X10_does_88 C0  h hP hS (lv_sub hl [1, 2, 3, 4, 5, 6, 7, 0] rfl)
      · replace h := gpos c3 h
        refine lv_iconst (v := 1) hx hb dX10_does_84 (by decide) ?_
        refine lv_goto (tgt := 89) hx hb dX10_does_85 (by decide) ?_
        exact bs_X10_does_89 C0  h hP hS (lv_sub hl [1, 2, 3, 4, 5, 6, 7, 0] rfl)
set_option maxHeartbeats 2000000 in
set_option maxRecDepth 20000 in
theorem bs_X10_does_44 {p : Program} {l : Launch} {e : Env} {s : State} {m : MethodId} {args : Array Value} {below : List Frame} {meth : Method} {c : Code} {Γ : gE} (C0 : gCx p s m args meth c Γ RX10 cX10_does 10 (some .boolean))   {z : Int32 × gG}  {l1 : Int32} {l2 : Int32} {l3 : Int32} {l4 : Int32} {l5 : Int32} {s0 : Int32} {g : gG} {H : Heap} {locs : List Loc} {ls : Array Slot}  (h : fs_X10_does_44 l1 l2 l3 l4 l5 s0 g = some z) (hP : va_P (gD Γ) gcls (lay Γ g) H) (hS : va_S (gA Γ) s.heap H locs) (hl : lv_has ls 10 [(0, .ref (gB Γ + 174)), (1, .int l1), (2, .int l2), (3, .int l3), (4, .int l4), (5, .int l5)]) : W p l e (gRm 5 117) s m args below meth c H locs 0 0 (MQ below (gQi Γ z) args s 0 0 (gA Γ)) (F0 m 44 ls [.int s0]) := by
  unfold fs_X10_does_44 at h
  obtain ⟨hx, hb, hml, hr, hown, hts, hK, hlk, hX⟩ := id C0
  refine lv_istore (lv' := [(6, .int s0), (0, .ref (gB Γ + 174)), (1, .int l1), (2, .int l2), (3, .int l3), (4, .int l4), (5, .int l5)]) hx hb dX10_does_44 hl (by decide) rfl (fun ls hl => ?_)
  refine lv_iload_n hx hb dX10_does_46 rfl (lv_at hl 4 rfl) ?_
  refine lv_aload_n hx hb dX10_does_47 rfl (lv_at hl 1 rfl) ?_
  refine gf_10_14 hx hb hown hts hK hP wf_X10_38 dX10_does_48 ?_
  refine lv_iconst (v := 0) hx hb dX10_does_51 (by decide) ?_
  refine gIld hx hb hK hP is_184 dX10_does_52 h (fun h => ?_)
  refine lv_icmp_ge (tgt := 60) hx hb dX10_does_53 (by decide) (fun c1 => ?_) (fun c1 => ?_)
  · replace h := gpos c1 h
    refine lv_iconst (v := 0) hx hb dX10_does_60 (by decide) ?_
    exact bs_X10_does_61 C0  h hP hS (lv_sub hl [1, 2, 3, 4, 5, 6, 0] rfl)
  · replace h := gneg c1 h
    refine lv_iconst (v := 1) hx hb dX10_does_56 (by decide) ?_
    refine lv_goto (tgt := 61) hx hb dX10_does_57 (by decide) ?_
    exact bs_X10_does_61 C0  h hP hS (lv_sub hl [1, 2, 3, 4, 5, 6, 0] rfl)
set_option maxHeartbeats 2000000 in
set_option maxRecDepth 20000 in
theorem m_X10_does (l : Launch) (Γ : gE)   (a1 : Int32) (g : gG) (z : Int32 × gG) (h : f_X10_does a1 g = some z) : gMi l yX10_does cX10_does 10 (some .boolean) 5 117 Γ [.ref (gB Γ + 174), .int a1] g z := by
  unfold f_X10_does at h
  refine gStart (own := RX10) (by decide +kernel) rfl (Nat.le_of_ble_eq_true rfl) ?_
  intro p e s m below meth c C0 ls hl hP
  have hS : va_S (gA Γ) s.heap s.heap [] := va_S.rf
  have hl : lv_has ls 10 [(0, .ref (gB Γ + 174)), (1, .int a1)] := hl
  obtain ⟨hx, hb, hml, hr, hown, hts, hK, hlk, hX⟩ := id C0
  refine lv_iload_n hx hb dX10_does_0 rfl (lv_at hl 1 rfl) ?_
  refine lv_sipush (v := 1000) hx hb dX10_does_1 (by decide) ?_
  refine lv_idiv hx hb dX10_does_4 (by decide) ?_
  refine lv_topi (fun x1 ex1 => ?_)
  replace h := gLetI ex1 h
  refine lv_istore_n (lv' := [(2, .int x1), (0, .ref (gB Γ + 174)), (1, .int a1)]) hx hb dX10_does_5 rfl hl (by decide) rfl (fun ls hl => ?_)
  refine lv_iload_n hx hb dX10_does_6 rfl (lv_at hl 2 rfl) ?_
  refine lv_bipush (v := 100) hx hb dX10_does_7 (by decide) ?_
  refine lv_idiv hx hb dX10_does_9 (by decide) ?_
  refine lv_bipush (v := 10) hx hb dX10_does_10 (by decide) ?_
  refine lv_irem hx hb dX10_does_12 (by decide) ?_
  refine lv_topi (fun x2 ex2 => ?_)
  replace h := gLetI ex2 h
  refine lv_istore_n (lv' := [(3, .int x2), (2, .int x1), (0, .ref (gB Γ + 174)), (1, .int a1)]) hx hb dX10_does_13 rfl hl (by decide) rfl (fun ls hl => ?_)
  refine lv_iload_n hx hb dX10_does_14 rfl (lv_at hl 3 rfl) ?_
  refine lv_bipush (v := 10) hx hb dX10_does_15 (by decide) ?_
  refine lv_idiv hx hb dX10_does_17 (by decide) ?_
  refine lv_bipush (v := 10) hx hb dX10_does_18 (by decide) ?_
  refine lv_irem hx hb dX10_does_20 (by decide) ?_
  refine lv_topi (fun x3 ex3 => ?_)
  replace h := gLetI ex3 h
  refine lv_istore (lv' := [(4, .int x3), (3, .int x2), (2, .int x1), (0, .ref (gB Γ + 174)), (1, .int a1)]) hx hb dX10_does_21 hl (by decide) rfl (fun ls hl => ?_)
  refine lv_iload_n hx hb dX10_does_23 rfl (lv_at hl 4 rfl) ?_
  refine lv_bipush (v := 10) hx hb dX10_does_24 (by decide) ?_
  refine lv_irem hx hb dX10_does_26 (by decide) ?_
  refine lv_topi (fun x4 ex4 => ?_)
  replace h := gLetI ex4 h
  refine lv_istore (lv' := [(5, .int x4), (4, .int x3), (3, .int x2), (2, .int x1), (0, .ref (gB Γ + 174)), (1, .int a1)]) hx hb dX10_does_27 hl (by decide) rfl (fun ls hl => ?_)
  refine lv_iload_n hx hb dX10_does_29 rfl (lv_at hl 2 rfl) ?_
  refine lv_aload_n hx hb dX10_does_30 rfl (lv_at hl 4 rfl) ?_
  refine gf_10_14 hx hb hown hts hK hP wf_X10_38 dX10_does_31 ?_
  refine lv_iconst (v := 1) hx hb dX10_does_34 (by decide) ?_
  refine gIld hx hb hK hP is_184 dX10_does_35 h (fun h => ?_)
  refine lv_icmp_ge (tgt := 43) hx hb dX10_does_36 (by decide) (fun c5 => ?_) (fun c5 => ?_)
  · replace h := gpos c5 h
    refine lv_iconst (v := 0) hx hb dX10_does_43 (by decide) ?_
    exact bs_X10_does_44 C0  h hP hS (lv_sub hl [4, 5, 3, 2, 1, 0] rfl)
  · replace h := gneg c5 h
    refine lv_iconst (v := 1) hx hb dX10_does_39 (by decide) ?_
    refine lv_goto (tgt := 44) hx hb dX10_does_40 (by decide) ?_
    exact bs_X10_does_44 C0  h hP hS (lv_sub hl [4, 5, 3, 2, 1, 0] rfl)
set_option maxHeartbeats 2000000 in
set_option maxRecDepth 20000 in
theorem bs_X10_runScript_62 {p : Program} {l : Launch} {e : Env} {s : State} {m : MethodId} {args : Array Value} {below : List Frame} {meth : Method} {c : Code} {Γ : gE} (C0 : gCx p s m args meth c Γ RX10 cX10_runScript 6 (some .int))   {z : Int32 × gG} {F62 : Int32 → Int64 → Int32 → gG → Option (Int32 × gG)} {l1 : Int32} {l2 : Int64} {l5 : Int32} {g : gG} {H : Heap} {locs : List Loc} {ls : Array Slot} (hF62 : ∀ (l1 : Int32) (l2 : Int64) (l5 : Int32) (g : gG) (H : Heap) (locs : List Loc) (ls : Array Slot), F62 l1 l2 l5 g = some z → va_P (gD Γ) gcls (lay Γ g) H → va_S (gA Γ) s.heap H locs → lv_has ls 6 [(0, .ref (gB Γ + 174)), (1, .int l1), (2, .long l2), (5, .int l5)] → W p l e (gRm 6 146) s m args below meth c H locs 0 0 (MQ below (gQi Γ z) args s 0 0 (gA Γ)) (F0 m 62 ls [])) (h : fs_X10_runScript_62 F62 l1 l2 l5 g = some z) (hP : va_P (gD Γ) gcls (lay Γ g) H) (hS : va_S (gA Γ) s.heap H locs) (hl : lv_has ls 6 [(0, .ref (gB Γ + 174)), (1, .int l1), (2, .long l2), (5, .int l5)]) : W p l e (gRm 6 146) s m args below meth c H locs 0 0 (MQ below (gQi Γ z) args s 0 0 (gA Γ)) (F0 m 62 ls []) := by
  unfold fs_X10_runScript_62 at h
  obtain ⟨hx, hb, hml, hr, hown, hts, hK, hlk, hX⟩ := id C0
  refine lv_iload hx hb dX10_runScript_62 (lv_at hl 3 rfl) ?_
  refine lv_iload_n hx hb dX10_runScript_64 rfl (lv_at hl 1 rfl) ?_
  refine lv_icmp_ge (tgt := 102) hx hb dX10_runScript_65 (by decide) (fun c1 => ?_) (fun c1 => ?_)
  · replace h := gpos c1 h
    refine lv_bipush (v := -9) hx hb dX10_runScript_102 (by decide) ?_
    exact giret hx hb hr hlk hP hS dX10_runScript_104 h
  · replace h := gneg c1 h
    refine lv_aload_n hx hb dX10_runScript_68 rfl (lv_at hl 0 rfl) ?_
    refine lv_lload_n hx hb dX10_runScript_69 rfl (lv_at hl 2 rfl) ?_
    refine lv_iconst (v := 4) hx hb dX10_runScript_70 (by decide) ?_
    refine lv_iload_n hx hb dX10_runScript_71 rfl (lv_at hl 1 rfl) ?_
    refine lv_iconst (v := 1) hx hb dX10_runScript_72 (by decide) ?_
    refine lv_isub hx hb dX10_runScript_73 ?_
    refine lv_iload hx hb dX10_runScript_74 (lv_at hl 3 rfl) ?_
    refine lv_isub hx hb dX10_runScript_76 ?_
    refine lv_imul hx hb dX10_runScript_77 ?_
    refine gCSl (rest := [.long l2, .ref (gB Γ + 174)]) C0 cal_X10_tenTo wl_X10_270 wt_X10_tenTo ⟨Nat.le_of_ble_eq_true rfl, Nat.le_of_ble_eq_true rfl⟩ ⟨Nat.le_of_ble_eq_true rfl, Nat.le_of_ble_eq_true rfl⟩ [.int ((4 : Int32) * ((l1 - (1 : Int32)) - l5))] rfl (Nat.le_of_ble_eq_true rfl) hP hS hl.1 dX10_runScript_78 h (fun u hu => m_X10_tenTo l Γ ((4 : Int32) * ((l1 - (1 : Int32)) - l5)) g u hu) (fun u2 H locs h hP hS => ?_) rfl
    obtain ⟨c3, h⟩ := gnz h
    refine lv_ldiv hx hb dX10_runScript_81 c3 ?_
    refine lv_ldc2 (v := 10000) hx hb hown (hts _ wkl_X10_274) dX10_runScript_82 ?_
    refine lv_lrem hx hb dX10_runScript_85 (by decide) ?_
    refine lv_l2i hx hb dX10_runScript_86 rfl ?_
    refine gCVi (rest := []) C0 cal_X10_does wl_X10_276 wi_X10_does ws_X10_does ⟨Nat.le_of_ble_eq_true rfl, Nat.le_of_ble_eq_true rfl⟩ ⟨Nat.le_of_ble_eq_true rfl, Nat.le_of_ble_eq_true rfl⟩ grv_10 [.int (((l2 / u2.1) - (l2 / u2.1) / (10000 : Int64) * (10000 : Int64)).toInt32)] rfl (Nat.le_of_ble_eq_true rfl) hP hS hl.1 dX10_runScript_87 h (fun u hu => m_X10_does l Γ (((l2 / u2.1) - (l2 / u2.1) / (10000 : Int64) * (10000 : Int64)).toInt32) u2.2 u hu) (fun u4 H locs h hP hS => ?_) rfl
    refine lv_if_ne (tgt := 96) hx hb dX10_runScript_90 (by decide) (fun c5 => ?_) (fun c5 => ?_)
    · replace h := gneg c5 h
      obtain ⟨x6, ex6⟩ : ∃ y : Int32, y = l5 + (1 : Int32) := ⟨_, rfl⟩
      replace h := gLetI ex6 h
      refine lv_iinc (v := x6) (lv' := [(5, .int x6), (0, .ref (gB Γ + 174)), (1, .int l1), (2, .long l2)]) hx hb dX10_runScript_96 hl (k := 3) rfl (by rw [ex6]; rfl) (by decide) rfl (fun ls hl => ?_)
      refine lv_goto (tgt := 62) hx hb dX10_runScript_99 (by decide) ?_
      exact hF62 _ _ _ _ _ _ _ h hP hS (lv_sub hl [1, 2, 3, 0] rfl)
    · replace h := gpos c5 h
      refine lv_iload hx hb dX10_runScript_93 (lv_at hl 3 rfl) ?_
      exact giret hx hb hr hlk hP hS dX10_runScript_95 h
set_option maxHeartbeats 2000000 in
set_option maxRecDepth 20000 in
theorem bk_X10_runScript_62 {p : Program} {l : Launch} {e : Env} {s : State} {m : MethodId} {args : Array Value} {below : List Frame} {meth : Method} {c : Code} {Γ : gE} (C0 : gCx p s m args meth c Γ RX10 cX10_runScript 6 (some .int))   {z : Int32 × gG}   : ∀ (n : Nat) (l1 : Int32) (l2 : Int64) (l5 : Int32) (g : gG) (H : Heap) (locs : List Loc) (ls : Array Slot), fb_X10_runScript_62 n l1 l2 l5 g = some z → va_P (gD Γ) gcls (lay Γ g) H → va_S (gA Γ) s.heap H locs → lv_has ls 6 [(0, .ref (gB Γ + 174)), (1, .int l1), (2, .long l2), (5, .int l5)] → W p l e (gRm 6 146) s m args below meth c H locs 0 0 (MQ below (gQi Γ z) args s 0 0 (gA Γ)) (F0 m 62 ls []) := by
  intro n
  induction n with
  | zero => intro l1 l2 l5 g H locs ls h hP hS hl; cases h
  | succ n ih => intro l1 l2 l5 g H locs ls h hP hS hl; exact bs_X10_runScript_62 C0  ih h hP hS hl
set_option maxHeartbeats 2000000 in
set_option maxRecDepth 20000 in
theorem bs_X10_runScript_47 {p : Program} {l : Launch} {e : Env} {s : State} {m : MethodId} {args : Array Value} {below : List Frame} {meth : Method} {c : Code} {Γ : gE} (C0 : gCx p s m args meth c Γ RX10 cX10_runScript 6 (some .int))   {z : Int32 × gG}  {l1 : Int32} {l2 : Int64} {s1 : Int32} {g : gG} {H : Heap} {locs : List Loc} {ls : Array Slot}  (h : fs_X10_runScript_47 l1 l2 s1 g = some z) (hP : va_P (gD Γ) gcls (lay Γ g) H) (hS : va_S (gA Γ) s.heap H locs) (hl : lv_has ls 6 [(0, .ref (gB Γ + 174)), (1, .int l1), (2, .long l2)]) : W p l e (gRm 6 146) s m args below meth c H locs 0 0 (MQ below (gQi Γ z) args s 0 0 (gA Γ)) (F0 m 47 ls [.int s1, .ref (gB Γ + 174)]) := by
  unfold fs_X10_runScript_47 at h
  obtain ⟨hx, hb, hml, hr, hown, hts, hK, hlk, hX⟩ := id C0
  refine gCVi (rest := []) C0 cal_X10_refused wl_X10_146 wi_X10_refused ws_X10_refused ⟨Nat.le_of_ble_eq_true rfl, Nat.le_of_ble_eq_true rfl⟩ ⟨Nat.le_of_ble_eq_true rfl, Nat.le_of_ble_eq_true rfl⟩ grv_10 [.int s1] rfl (Nat.le_of_ble_eq_true rfl) hP hS hl.1 dX10_runScript_47 h (fun u hu => m_X10_refused l Γ s1 g u hu) (fun u1 H locs h hP hS => ?_) rfl
  refine lv_if_eq (tgt := 55) hx hb dX10_runScript_50 (by decide) (fun c2 => ?_) (fun c2 => ?_)
  · replace h := gpos c2 h
    refine lv_aload_n hx hb dX10_runScript_55 rfl (lv_at hl 0 rfl) ?_
    refine gCVv (rest := []) C0 cal_X10_begin wl_X10_265 wi_X10_begin ws_X10_begin ⟨Nat.le_of_ble_eq_true rfl, Nat.le_of_ble_eq_true rfl⟩ ⟨Nat.le_of_ble_eq_true rfl, Nat.le_of_ble_eq_true rfl⟩ grv_10 [] rfl (Nat.le_of_ble_eq_true rfl) hP hS hl.1 dX10_runScript_56 h (fun u hu => m_X10_begin l Γ u1.2 u hu) (fun u3 H locs h hP hS => ?_) rfl
    refine lv_iconst (v := 0) hx hb dX10_runScript_59 (by decide) ?_
    refine lv_istore (lv' := [(5, .int (0 : Int32)), (0, .ref (gB Γ + 174)), (1, .int l1), (2, .long l2)]) hx hb dX10_runScript_60 hl (by decide) rfl (fun ls hl => ?_)
    exact bk_X10_runScript_62 C0  gFuel _ _ _ _ _ _ _ h hP hS (lv_sub hl [1, 2, 3, 0] rfl)
  · replace h := gneg c2 h
    refine lv_iconst (v := 0) hx hb dX10_runScript_53 (by decide) ?_
    exact giret hx hb hr hlk hP hS dX10_runScript_54 h
set_option maxHeartbeats 2000000 in
set_option maxRecDepth 20000 in
theorem bs_X10_runScript_46 {p : Program} {l : Launch} {e : Env} {s : State} {m : MethodId} {args : Array Value} {below : List Frame} {meth : Method} {c : Code} {Γ : gE} (C0 : gCx p s m args meth c Γ RX10 cX10_runScript 6 (some .int))   {z : Int32 × gG}  {l1 : Int32} {l2 : Int64} {g : gG} {H : Heap} {locs : List Loc} {ls : Array Slot}  (h : fs_X10_runScript_46 l1 l2 g = some z) (hP : va_P (gD Γ) gcls (lay Γ g) H) (hS : va_S (gA Γ) s.heap H locs) (hl : lv_has ls 6 [(0, .ref (gB Γ + 174)), (1, .int l1), (2, .long l2)]) : W p l e (gRm 6 146) s m args below meth c H locs 0 0 (MQ below (gQi Γ z) args s 0 0 (gA Γ)) (F0 m 46 ls [.ref (gB Γ + 174)]) := by
  unfold fs_X10_runScript_46 at h
  obtain ⟨hx, hb, hml, hr, hown, hts, hK, hlk, hX⟩ := id C0
  refine lv_iconst (v := 1) hx hb dX10_runScript_46 (by decide) ?_
  exact bs_X10_runScript_47 C0  h hP hS (lv_sub hl [0, 1, 2] rfl)
set_option maxHeartbeats 2000000 in
set_option maxRecDepth 20000 in
theorem bs_X10_runScript_31 {p : Program} {l : Launch} {e : Env} {s : State} {m : MethodId} {args : Array Value} {below : List Frame} {meth : Method} {c : Code} {Γ : gE} (C0 : gCx p s m args meth c Γ RX10 cX10_runScript 6 (some .int))   {z : Int32 × gG}  {l1 : Int32} {l2 : Int64} {s1 : Int64} {s2 : Int64} {s3 : Int32} {g : gG} {H : Heap} {locs : List Loc} {ls : Array Slot}  (h : fs_X10_runScript_31 l1 l2 s1 s2 s3 g = some z) (hP : va_P (gD Γ) gcls (lay Γ g) H) (hS : va_S (gA Γ) s.heap H locs) (hl : lv_has ls 6 [(0, .ref (gB Γ + 174)), (1, .int l1), (2, .long l2)]) : W p l e (gRm 6 146) s m args below meth c H locs 0 0 (MQ below (gQi Γ z) args s 0 0 (gA Γ)) (F0 m 31 ls [.int s3, .long s2, .long s1, .ref (gB Γ + 174)]) := by
  unfold fs_X10_runScript_31 at h
  obtain ⟨hx, hb, hml, hr, hown, hts, hK, hlk, hX⟩ := id C0
  refine gCSl (rest := [.long s2, .long s1, .ref (gB Γ + 174)]) C0 cal_X10_tenTo wl_X10_270 wt_X10_tenTo ⟨Nat.le_of_ble_eq_true rfl, Nat.le_of_ble_eq_true rfl⟩ ⟨Nat.le_of_ble_eq_true rfl, Nat.le_of_ble_eq_true rfl⟩ [.int s3] rfl (Nat.le_of_ble_eq_true rfl) hP hS hl.1 dX10_runScript_31 h (fun u hu => m_X10_tenTo l Γ s3 g u hu) (fun u1 H locs h hP hS => ?_) rfl
  refine lv_lconst (v := 1) hx hb dX10_runScript_34 (by decide) ?_
  refine lv_lsub hx hb dX10_runScript_35 ?_
  refine gCSi (rest := [.ref (gB Γ + 174)]) C0 cal_X10_in wl_X10_139 wt_X10_in ⟨Nat.le_of_ble_eq_true rfl, Nat.le_of_ble_eq_true rfl⟩ ⟨Nat.le_of_ble_eq_true rfl, Nat.le_of_ble_eq_true rfl⟩ [.long s1, .long s2, .long (u1.1 - (1 : Int64))] rfl (Nat.le_of_ble_eq_true rfl) hP hS hl.1 dX10_runScript_36 h (fun u hu => m_X10_in l Γ s1 s2 (u1.1 - (1 : Int64)) u1.2 u hu) (fun u2 H locs h hP hS => ?_) rfl
  refine lv_if_eq (tgt := 46) hx hb dX10_runScript_39 (by decide) (fun c3 => ?_) (fun c3 => ?_)
  · replace h := gpos c3 h
    exact bs_X10_runScript_46 C0  h hP hS (lv_sub hl [0, 1, 2] rfl)
  · replace h := gneg c3 h
    refine lv_iconst (v := 0) hx hb dX10_runScript_42 (by decide) ?_
    refine lv_goto (tgt := 47) hx hb dX10_runScript_43 (by decide) ?_
    exact bs_X10_runScript_47 C0  h hP hS (lv_sub hl [0, 1, 2] rfl)
set_option maxHeartbeats 2000000 in
set_option maxRecDepth 20000 in
theorem m_X10_runScript (l : Launch) (Γ : gE)   (a1 : Int32) (a2 : Int64) (g : gG) (z : Int32 × gG) (h : f_X10_runScript a1 a2 g = some z) : gMi l yX10_runScript cX10_runScript 6 (some .int) 6 146 Γ [.ref (gB Γ + 174), .int a1, .long a2] g z := by
  unfold f_X10_runScript at h
  refine gStart (own := RX10) (by decide +kernel) rfl (Nat.le_of_ble_eq_true rfl) ?_
  intro p e s m below meth c C0 ls hl hP
  have hS : va_S (gA Γ) s.heap s.heap [] := va_S.rf
  have hl : lv_has ls 6 [(0, .ref (gB Γ + 174)), (1, .int a1), (2, .long a2)] := hl
  obtain ⟨hx, hb, hml, hr, hown, hts, hK, hlk, hX⟩ := id C0
  refine lv_iload_n hx hb dX10_runScript_0 rfl (lv_at hl 1 rfl) ?_
  refine lv_i2l hx hb dX10_runScript_1 rfl ?_
  refine lv_lconst (v := 1) hx hb dX10_runScript_2 (by decide) ?_
  refine lv_ldc2 (v := 4) hx hb hown (hts _ wkl_X10_268) dX10_runScript_3 ?_
  refine gCSi (rest := []) C0 cal_X10_in wl_X10_139 wt_X10_in ⟨Nat.le_of_ble_eq_true rfl, Nat.le_of_ble_eq_true rfl⟩ ⟨Nat.le_of_ble_eq_true rfl, Nat.le_of_ble_eq_true rfl⟩ [.long a1.toInt64, .long (1 : Int64), .long (4 : Int64)] rfl (Nat.le_of_ble_eq_true rfl) hP hS hl.1 dX10_runScript_6 h (fun u hu => m_X10_in l Γ a1.toInt64 (1 : Int64) (4 : Int64) g u hu) (fun u1 H locs h hP hS => ?_) rfl
  refine lv_topi (fun x2 ex2 => ?_)
  replace h := gLetI ex2 h
  refine lv_istore (lv' := [(4, .int x2), (0, .ref (gB Γ + 174)), (1, .int a1), (2, .long a2)]) hx hb dX10_runScript_9 hl (by decide) rfl (fun ls hl => ?_)
  refine lv_aload_n hx hb dX10_runScript_11 rfl (lv_at hl 1 rfl) ?_
  refine lv_iload hx hb dX10_runScript_12 (lv_at hl 0 rfl) ?_
  refine lv_if_eq (tgt := 46) hx hb dX10_runScript_14 (by decide) (fun c3 => ?_) (fun c3 => ?_)
  · replace h := gpos c3 h
    exact bs_X10_runScript_46 C0  h hP hS (lv_sub hl [1, 2, 3] rfl)
  · replace h := gneg c3 h
    refine lv_lload_n hx hb dX10_runScript_17 rfl (lv_at hl 3 rfl) ?_
    refine lv_lconst (v := 0) hx hb dX10_runScript_18 (by decide) ?_
    refine lv_iload hx hb dX10_runScript_19 (lv_at hl 0 rfl) ?_
    refine lv_if_eq (tgt := 30) hx hb dX10_runScript_21 (by decide) (fun c4 => ?_) (fun c4 => ?_)
    · replace h := gpos c4 h
      refine lv_iconst (v := 0) hx hb dX10_runScript_30 (by decide) ?_
      exact bs_X10_runScript_31 C0  h hP hS (lv_sub hl [1, 2, 3] rfl)
    · replace h := gneg c4 h
      refine lv_iconst (v := 4) hx hb dX10_runScript_24 (by decide) ?_
      refine lv_iload_n hx hb dX10_runScript_25 rfl (lv_at hl 2 rfl) ?_
      refine lv_imul hx hb dX10_runScript_26 ?_
      refine lv_goto (tgt := 31) hx hb dX10_runScript_27 (by decide) ?_
      exact bs_X10_runScript_31 C0  h hP hS (lv_sub hl [1, 2, 3] rfl)
set_option maxHeartbeats 2000000 in
set_option maxRecDepth 20000 in
theorem bs_X10_nth_30 {p : Program} {l : Launch} {e : Env} {s : State} {m : MethodId} {args : Array Value} {below : List Frame} {meth : Method} {c : Code} {Γ : gE} (C0 : gCx p s m args meth c Γ RX10 cX10_nth 4 (some .int))   {z : Int32 × gG} {F4 : Int32 → Int32 → Int32 → gG → Option (Int32 × gG)} {l0 : Int32} {l3 : Int32} {s0 : Int32} {s1 : Int32} {g : gG} {H : Heap} {locs : List Loc} {ls : Array Slot} (hF4 : ∀ (l0 : Int32) (l2 : Int32) (l3 : Int32) (g : gG) (H : Heap) (locs : List Loc) (ls : Array Slot), F4 l0 l2 l3 g = some z → va_P (gD Γ) gcls (lay Γ g) H → va_S (gA Γ) s.heap H locs → lv_has ls 4 [(0, .int l0), (2, .int l2), (3, .int l3)] → W p l e (gRm 1 21) s m args below meth c H locs 0 0 (MQ below (gQi Γ z) args s 0 0 (gA Γ)) (F0 m 4 ls [])) (h : fs_X10_nth_30 F4 l0 l3 s0 s1 g = some z) (hP : va_P (gD Γ) gcls (lay Γ g) H) (hS : va_S (gA Γ) s.heap H locs) (hl : lv_has ls 4 [(0, .int l0), (3, .int l3)]) : W p l e (gRm 1 21) s m args below meth c H locs 0 0 (MQ below (gQi Γ z) args s 0 0 (gA Γ)) (F0 m 30 ls [.int s1, .int s0]) := by
  unfold fs_X10_nth_30 at h
  obtain ⟨hx, hb, hml, hr, hown, hts, hK, hlk, hX⟩ := id C0
  refine lv_isub hx hb dX10_nth_30 ?_
  refine lv_topi (fun x1 ex1 => ?_)
  replace h := gLetI ex1 h
  refine lv_istore_n (lv' := [(2, .int x1), (0, .int l0), (3, .int l3)]) hx hb dX10_nth_31 rfl hl (by decide) rfl (fun ls hl => ?_)
  obtain ⟨x2, ex2⟩ : ∃ y : Int32, y = l3 + (1 : Int32) := ⟨_, rfl⟩
  replace h := gLetI ex2 h
  refine lv_iinc (v := x2) (lv' := [(3, .int x2), (2, .int x1), (0, .int l0)]) hx hb dX10_nth_32 hl (k := 2) rfl (by rw [ex2]; rfl) (by decide) rfl (fun ls hl => ?_)
  refine lv_goto (tgt := 4) hx hb dX10_nth_35 (by decide) ?_
  exact hF4 _ _ _ _ _ _ _ h hP hS (lv_sub hl [2, 1, 0] rfl)
set_option maxHeartbeats 2000000 in
set_option maxRecDepth 20000 in
theorem bs_X10_nth_16 {p : Program} {l : Launch} {e : Env} {s : State} {m : MethodId} {args : Array Value} {below : List Frame} {meth : Method} {c : Code} {Γ : gE} (C0 : gCx p s m args meth c Γ RX10 cX10_nth 4 (some .int))   {z : Int32 × gG} {F4 : Int32 → Int32 → Int32 → gG → Option (Int32 × gG)} {l0 : Int32} {l2 : Int32} {l3 : Int32} {g : gG} {H : Heap} {locs : List Loc} {ls : Array Slot} (hF4 : ∀ (l0 : Int32) (l2 : Int32) (l3 : Int32) (g : gG) (H : Heap) (locs : List Loc) (ls : Array Slot), F4 l0 l2 l3 g = some z → va_P (gD Γ) gcls (lay Γ g) H → va_S (gA Γ) s.heap H locs → lv_has ls 4 [(0, .int l0), (2, .int l2), (3, .int l3)] → W p l e (gRm 1 21) s m args below meth c H locs 0 0 (MQ below (gQi Γ z) args s 0 0 (gA Γ)) (F0 m 4 ls [])) (h : fs_X10_nth_16 F4 l0 l2 l3 g = some z) (hP : va_P (gD Γ) gcls (lay Γ g) H) (hS : va_S (gA Γ) s.heap H locs) (hl : lv_has ls 4 [(0, .int l0), (2, .int l2), (3, .int l3)]) : W p l e (gRm 1 21) s m args below meth c H locs 0 0 (MQ below (gQi Γ z) args s 0 0 (gA Γ)) (F0 m 16 ls []) := by
  unfold fs_X10_nth_16 at h
  obtain ⟨hx, hb, hml, hr, hown, hts, hK, hlk, hX⟩ := id C0
  refine lv_iload_n hx hb dX10_nth_16 rfl (lv_at hl 1 rfl) ?_
  refine lv_iload_n hx hb dX10_nth_17 rfl (lv_at hl 0 rfl) ?_
  refine lv_iload_n hx hb dX10_nth_18 rfl (lv_at hl 2 rfl) ?_
  refine gCSi (rest := [.int l2]) C0 cal_X10_has wl_X10_65 wt_X10_has ⟨Nat.le_of_ble_eq_true rfl, Nat.le_of_ble_eq_true rfl⟩ ⟨Nat.le_of_ble_eq_true rfl, Nat.le_of_ble_eq_true rfl⟩ [.int l0, .int l3] rfl (Nat.le_of_ble_eq_true rfl) hP hS hl.1 dX10_nth_19 h (fun u hu => m_X10_has l Γ l0 l3 g u hu) (fun u1 H locs h hP hS => ?_) rfl
  refine lv_if_eq (tgt := 29) hx hb dX10_nth_22 (by decide) (fun c2 => ?_) (fun c2 => ?_)
  · replace h := gpos c2 h
    refine lv_iconst (v := 0) hx hb dX10_nth_29 (by decide) ?_
    exact bs_X10_nth_30 C0 hF4 h hP hS (lv_sub hl [0, 2] rfl)
  · replace h := gneg c2 h
    refine lv_iconst (v := 1) hx hb dX10_nth_25 (by decide) ?_
    refine lv_goto (tgt := 30) hx hb dX10_nth_26 (by decide) ?_
    exact bs_X10_nth_30 C0 hF4 h hP hS (lv_sub hl [0, 2] rfl)
set_option maxHeartbeats 2000000 in
set_option maxRecDepth 20000 in
theorem bs_X10_nth_4 {p : Program} {l : Launch} {e : Env} {s : State} {m : MethodId} {args : Array Value} {below : List Frame} {meth : Method} {c : Code} {Γ : gE} (C0 : gCx p s m args meth c Γ RX10 cX10_nth 4 (some .int))   {z : Int32 × gG} {F4 : Int32 → Int32 → Int32 → gG → Option (Int32 × gG)} {l0 : Int32} {l2 : Int32} {l3 : Int32} {g : gG} {H : Heap} {locs : List Loc} {ls : Array Slot} (hF4 : ∀ (l0 : Int32) (l2 : Int32) (l3 : Int32) (g : gG) (H : Heap) (locs : List Loc) (ls : Array Slot), F4 l0 l2 l3 g = some z → va_P (gD Γ) gcls (lay Γ g) H → va_S (gA Γ) s.heap H locs → lv_has ls 4 [(0, .int l0), (2, .int l2), (3, .int l3)] → W p l e (gRm 1 21) s m args below meth c H locs 0 0 (MQ below (gQi Γ z) args s 0 0 (gA Γ)) (F0 m 4 ls [])) (h : fs_X10_nth_4 F4 l0 l2 l3 g = some z) (hP : va_P (gD Γ) gcls (lay Γ g) H) (hS : va_S (gA Γ) s.heap H locs) (hl : lv_has ls 4 [(0, .int l0), (2, .int l2), (3, .int l3)]) : W p l e (gRm 1 21) s m args below meth c H locs 0 0 (MQ below (gQi Γ z) args s 0 0 (gA Γ)) (F0 m 4 ls []) := by
  unfold fs_X10_nth_4 at h
  obtain ⟨hx, hb, hml, hr, hown, hts, hK, hlk, hX⟩ := id C0
  refine lv_iload_n hx hb dX10_nth_4 rfl (lv_at hl 0 rfl) ?_
  refine lv_iload_n hx hb dX10_nth_5 rfl (lv_at hl 2 rfl) ?_
  refine gCSi (rest := []) C0 cal_X10_has wl_X10_65 wt_X10_has ⟨Nat.le_of_ble_eq_true rfl, Nat.le_of_ble_eq_true rfl⟩ ⟨Nat.le_of_ble_eq_true rfl, Nat.le_of_ble_eq_true rfl⟩ [.int l0, .int l3] rfl (Nat.le_of_ble_eq_true rfl) hP hS hl.1 dX10_nth_6 h (fun u hu => m_X10_has l Γ l0 l3 g u hu) (fun u1 H locs h hP hS => ?_) rfl
  refine lv_if_eq (tgt := 16) hx hb dX10_nth_9 (by decide) (fun c2 => ?_) (fun c2 => ?_)
  · replace h := gpos c2 h
    exact bs_X10_nth_16 C0 hF4 h hP hS (lv_sub hl [0, 1, 2] rfl)
  · replace h := gneg c2 h
    refine lv_iload_n hx hb dX10_nth_12 rfl (lv_at hl 1 rfl) ?_
    refine lv_if_le (tgt := 38) hx hb dX10_nth_13 (by decide) (fun c3 => ?_) (fun c3 => ?_)
    · replace h := gpos c3 h
      refine lv_iload_n hx hb dX10_nth_38 rfl (lv_at hl 2 rfl) ?_
      exact giret hx hb hr hlk hP hS dX10_nth_39 h
    · replace h := gneg c3 h
      exact bs_X10_nth_16 C0 hF4 h hP hS (lv_sub hl [0, 1, 2] rfl)
set_option maxHeartbeats 2000000 in
set_option maxRecDepth 20000 in
theorem bk_X10_nth_4 {p : Program} {l : Launch} {e : Env} {s : State} {m : MethodId} {args : Array Value} {below : List Frame} {meth : Method} {c : Code} {Γ : gE} (C0 : gCx p s m args meth c Γ RX10 cX10_nth 4 (some .int))   {z : Int32 × gG}   : ∀ (n : Nat) (l0 : Int32) (l2 : Int32) (l3 : Int32) (g : gG) (H : Heap) (locs : List Loc) (ls : Array Slot), fb_X10_nth_4 n l0 l2 l3 g = some z → va_P (gD Γ) gcls (lay Γ g) H → va_S (gA Γ) s.heap H locs → lv_has ls 4 [(0, .int l0), (2, .int l2), (3, .int l3)] → W p l e (gRm 1 21) s m args below meth c H locs 0 0 (MQ below (gQi Γ z) args s 0 0 (gA Γ)) (F0 m 4 ls []) := by
  intro n
  induction n with
  | zero => intro l0 l2 l3 g H locs ls h hP hS hl; cases h
  | succ n ih => intro l0 l2 l3 g H locs ls h hP hS hl; exact bs_X10_nth_4 C0  ih h hP hS hl
set_option maxHeartbeats 2000000 in
set_option maxRecDepth 20000 in
theorem m_X10_nth (l : Launch) (Γ : gE)   (a0 : Int32) (a1 : Int32) (g : gG) (z : Int32 × gG) (h : f_X10_nth a0 a1 g = some z) : gMi l yX10_nth cX10_nth 4 (some .int) 1 21 Γ [.int a0, .int a1] g z := by
  unfold f_X10_nth at h
  refine gStart (own := RX10) (by decide +kernel) rfl (Nat.le_of_ble_eq_true rfl) ?_
  intro p e s m below meth c C0 ls hl hP
  have hS : va_S (gA Γ) s.heap s.heap [] := va_S.rf
  have hl : lv_has ls 4 [(0, .int a0), (1, .int a1)] := hl
  obtain ⟨hx, hb, hml, hr, hown, hts, hK, hlk, hX⟩ := id C0
  refine lv_iload_n hx hb dX10_nth_0 rfl (lv_at hl 1 rfl) ?_
  refine lv_istore_n (lv' := [(2, .int a1), (0, .int a0), (1, .int a1)]) hx hb dX10_nth_1 rfl hl (by decide) rfl (fun ls hl => ?_)
  refine lv_iconst (v := 0) hx hb dX10_nth_2 (by decide) ?_
  refine lv_istore_n (lv' := [(3, .int (0 : Int32)), (2, .int a1), (0, .int a0), (1, .int a1)]) hx hb dX10_nth_3 rfl hl (by decide) rfl (fun ls hl => ?_)
  exact bk_X10_nth_4 C0  gFuel _ _ _ _ _ _ _ h hP hS (lv_sub hl [2, 1, 0] rfl)
set_option maxHeartbeats 2000000 in
set_option maxRecDepth 20000 in
theorem bs_X10_simulate_180 {p : Program} {l : Launch} {e : Env} {s : State} {m : MethodId} {args : Array Value} {below : List Frame} {meth : Method} {c : Code} {Γ : gE} (C0 : gCx p s m args meth c Γ RX10 cX10_simulate 11 (some .int))   {z : Int32 × gG} {F42 : Int32 → Int64 → Int32 → Int32 → Int32 → gG → Option (Int32 × gG)} {l3 : Int32} {l4 : Int64} {l6 : Int32} {l8 : Int32} {s0 : Int32} {s1 : Int32} {g : gG} {H : Heap} {locs : List Loc} {ls : Array Slot} (hF42 : ∀ (l3 : Int32) (l4 : Int64) (l6 : Int32) (l7 : Int32) (l8 : Int32) (g : gG) (H : Heap) (locs : List Loc) (ls : Array Slot), F42 l3 l4 l6 l7 l8 g = some z → va_P (gD Γ) gcls (lay Γ g) H → va_S (gA Γ) s.heap H locs → lv_has ls 11 [(0, .ref (gB Γ + 174)), (3, .int l3), (4, .long l4), (6, .int l6), (7, .int l7), (8, .int l8)] → W p l e (gRm 4 88) s m args below meth c H locs 0 0 (MQ below (gQi Γ z) args s 0 0 (gA Γ)) (F0 m 42 ls [])) (h : fs_X10_simulate_180 F42 l3 l4 l6 l8 s0 s1 g = some z) (hP : va_P (gD Γ) gcls (lay Γ g) H) (hS : va_S (gA Γ) s.heap H locs) (hl : lv_has ls 11 [(0, .ref (gB Γ + 174)), (3, .int l3), (4, .long l4), (6, .int l6), (8, .int l8)]) : W p l e (gRm 4 88) s m args below meth c H locs 0 0 (MQ below (gQi Γ z) args s 0 0 (gA Γ)) (F0 m 180 ls [.int s1, .int s0]) := by
  unfold fs_X10_simulate_180 at h
  obtain ⟨hx, hb, hml, hr, hown, hts, hK, hlk, hX⟩ := id C0
  refine lv_iadd hx hb dX10_simulate_180 ?_
  refine lv_topi (fun x1 ex1 => ?_)
  replace h := gLetI ex1 h
  refine lv_istore (lv' := [(7, .int x1), (0, .ref (gB Γ + 174)), (3, .int l3), (4, .long l4), (6, .int l6), (8, .int l8)]) hx hb dX10_simulate_181 hl (by decide) rfl (fun ls hl => ?_)
  obtain ⟨x2, ex2⟩ : ∃ y : Int32, y = l8 + (1 : Int32) := ⟨_, rfl⟩
  replace h := gLetI ex2 h
  refine lv_iinc (v := x2) (lv' := [(8, .int x2), (7, .int x1), (0, .ref (gB Γ + 174)), (3, .int l3), (4, .long l4), (6, .int l6)]) hx hb dX10_simulate_183 hl (k := 5) rfl (by rw [ex2]; rfl) (by decide) rfl (fun ls hl => ?_)
  refine lv_goto (tgt := 42) hx hb dX10_simulate_186 (by decide) ?_
  exact hF42 _ _ _ _ _ _ _ _ _ h hP hS (lv_sub hl [2, 3, 4, 5, 1, 0] rfl)
set_option maxHeartbeats 2000000 in
set_option maxRecDepth 20000 in
theorem bs_X10_simulate_150 {p : Program} {l : Launch} {e : Env} {s : State} {m : MethodId} {args : Array Value} {below : List Frame} {meth : Method} {c : Code} {Γ : gE} (C0 : gCx p s m args meth c Γ RX10 cX10_simulate 11 (some .int))   {z : Int32 × gG} {F42 : Int32 → Int64 → Int32 → Int32 → Int32 → gG → Option (Int32 × gG)} {l3 : Int32} {l4 : Int64} {l7 : Int32} {l8 : Int32} {s0 : Int32} {s1 : Int32} {g : gG} {H : Heap} {locs : List Loc} {ls : Array Slot} (hF42 : ∀ (l3 : Int32) (l4 : Int64) (l6 : Int32) (l7 : Int32) (l8 : Int32) (g : gG) (H : Heap) (locs : List Loc) (ls : Array Slot), F42 l3 l4 l6 l7 l8 g = some z → va_P (gD Γ) gcls (lay Γ g) H → va_S (gA Γ) s.heap H locs → lv_has ls 11 [(0, .ref (gB Γ + 174)), (3, .int l3), (4, .long l4), (6, .int l6), (7, .int l7), (8, .int l8)] → W p l e (gRm 4 88) s m args below meth c H locs 0 0 (MQ below (gQi Γ z) args s 0 0 (gA Γ)) (F0 m 42 ls [])) (h : fs_X10_simulate_150 F42 l3 l4 l7 l8 s0 s1 g = some z) (hP : va_P (gD Γ) gcls (lay Γ g) H) (hS : va_S (gA Γ) s.heap H locs) (hl : lv_has ls 11 [(0, .ref (gB Γ + 174)), (3, .int l3), (4, .long l4), (7, .int l7), (8, .int l8)]) : W p l e (gRm 4 88) s m args below meth c H locs 0 0 (MQ below (gQi Γ z) args s 0 0 (gA Γ)) (F0 m 150 ls [.int s1, .int s0]) := by
  unfold fs_X10_simulate_150 at h
  obtain ⟨hx, hb, hml, hr, hown, hts, hK, hlk, hX⟩ := id C0
  refine lv_iadd hx hb dX10_simulate_150 ?_
  refine lv_topi (fun x1 ex1 => ?_)
  replace h := gLetI ex1 h
  refine lv_istore (lv' := [(6, .int x1), (0, .ref (gB Γ + 174)), (3, .int l3), (4, .long l4), (7, .int l7), (8, .int l8)]) hx hb dX10_simulate_151 hl (by decide) rfl (fun ls hl => ?_)
  refine lv_iload hx hb dX10_simulate_153 (lv_at hl 4 rfl) ?_
  refine lv_aload_n hx hb dX10_simulate_155 rfl (lv_at hl 1 rfl) ?_
  refine gf_10_14 hx hb hown hts hK hP wf_X10_38 dX10_simulate_156 ?_
  refine lv_iconst (v := 0) hx hb dX10_simulate_159 (by decide) ?_
  refine gCSi (rest := [.int l7]) C0 cal_X10_isThere wl_X10_108 wt_X10_isThere ⟨Nat.le_of_ble_eq_true rfl, Nat.le_of_ble_eq_true rfl⟩ ⟨Nat.le_of_ble_eq_true rfl, Nat.le_of_ble_eq_true rfl⟩ [.ref (gB Γ + 184), .int (0 : Int32)] rfl (Nat.le_of_ble_eq_true rfl) hP hS hl.1 dX10_simulate_160 h (fun u hu => m_X10_isThere l Γ is_184 (0 : Int32) g u hu) (fun u2 H locs h hP hS => ?_) rfl
  refine lv_if_eq (tgt := 179) hx hb dX10_simulate_163 (by decide) (fun c3 => ?_) (fun c3 => ?_)
  · replace h := gpos c3 h
    refine lv_iconst (v := 0) hx hb dX10_simulate_179 (by decide) ?_
    exact bs_X10_simulate_180 C0 hF42 h hP hS (lv_sub hl [1, 2, 3, 0, 5] rfl)
  · replace h := gneg c3 h
    refine lv_aload_n hx hb dX10_simulate_166 rfl (lv_at hl 1 rfl) ?_
    refine gf_10_14 hx hb hown hts hK hP wf_X10_38 dX10_simulate_167 ?_
    refine lv_iconst (v := 0) hx hb dX10_simulate_170 (by decide) ?_
    refine lv_iconst (v := 1) hx hb dX10_simulate_171 (by decide) ?_
    refine gCSi (rest := [.ref (gB Γ + 184), .int l7]) C0 cal_X10_cell wl_X10_101 wt_X10_cell ⟨Nat.le_of_ble_eq_true rfl, Nat.le_of_ble_eq_true rfl⟩ ⟨Nat.le_of_ble_eq_true rfl, Nat.le_of_ble_eq_true rfl⟩ [.int (0 : Int32), .int (1 : Int32)] rfl (Nat.le_of_ble_eq_true rfl) hP hS hl.1 dX10_simulate_172 h (fun u hu => m_X10_cell l Γ (0 : Int32) (1 : Int32) u2.2 u hu) (fun u4 H locs h hP hS => ?_) rfl
    refine gIld hx hb hK hP is_184 dX10_simulate_175 h (fun h => ?_)
    refine lv_goto (tgt := 180) hx hb dX10_simulate_176 (by decide) ?_
    exact bs_X10_simulate_180 C0 hF42 h hP hS (lv_sub hl [1, 2, 3, 0, 5] rfl)
set_option maxHeartbeats 2000000 in
set_option maxRecDepth 20000 in
theorem bs_X10_simulate_66 {p : Program} {l : Launch} {e : Env} {s : State} {m : MethodId} {args : Array Value} {below : List Frame} {meth : Method} {c : Code} {Γ : gE} (C0 : gCx p s m args meth c Γ RX10 cX10_simulate 11 (some .int))   {z : Int32 × gG} {F42 : Int32 → Int64 → Int32 → Int32 → Int32 → gG → Option (Int32 × gG)} {F66 : Int32 → Int64 → Int32 → Int32 → Int32 → Int32 → gG → Option (Int32 × gG)} {l3 : Int32} {l4 : Int64} {l6 : Int32} {l7 : Int32} {l8 : Int32} {l9 : Int32} {g : gG} {H : Heap} {locs : List Loc} {ls : Array Slot} (hF42 : ∀ (l3 : Int32) (l4 : Int64) (l6 : Int32) (l7 : Int32) (l8 : Int32) (g : gG) (H : Heap) (locs : List Loc) (ls : Array Slot), F42 l3 l4 l6 l7 l8 g = some z → va_P (gD Γ) gcls (lay Γ g) H → va_S (gA Γ) s.heap H locs → lv_has ls 11 [(0, .ref (gB Γ + 174)), (3, .int l3), (4, .long l4), (6, .int l6), (7, .int l7), (8, .int l8)] → W p l e (gRm 4 88) s m args below meth c H locs 0 0 (MQ below (gQi Γ z) args s 0 0 (gA Γ)) (F0 m 42 ls [])) (hF66 : ∀ (l3 : Int32) (l4 : Int64) (l6 : Int32) (l7 : Int32) (l8 : Int32) (l9 : Int32) (g : gG) (H : Heap) (locs : List Loc) (ls : Array Slot), F66 l3 l4 l6 l7 l8 l9 g = some z → va_P (gD Γ) gcls (lay Γ g) H → va_S (gA Γ) s.heap H locs → lv_has ls 11 [(0, .ref (gB Γ + 174)), (3, .int l3), (4, .long l4), (6, .int l6), (7, .int l7), (8, .int l8), (9, .int l9)] → W p l e (gRm 4 88) s m args below meth c H locs 0 0 (MQ below (gQi Γ z) args s 0 0 (gA Γ)) (F0 m 66 ls [])) (h : fs_X10_simulate_66 F42 F66 l3 l4 l6 l7 l8 l9 g = some z) (hP : va_P (gD Γ) gcls (lay Γ g) H) (hS : va_S (gA Γ) s.heap H locs) (hl : lv_has ls 11 [(0, .ref (gB Γ + 174)), (3, .int l3), (4, .long l4), (6, .int l6), (7, .int l7), (8, .int l8), (9, .int l9)]) : W p l e (gRm 4 88) s m args below meth c H locs 0 0 (MQ below (gQi Γ z) args s 0 0 (gA Γ)) (F0 m 66 ls []) := by
  unfold fs_X10_simulate_66 at h
  obtain ⟨hx, hb, hml, hr, hown, hts, hK, hlk, hX⟩ := id C0
  refine lv_iload hx hb dX10_simulate_66 (lv_at hl 6 rfl) ?_
  refine lv_if_eq (tgt := 132) hx hb dX10_simulate_68 (by decide) (fun c1 => ?_) (fun c1 => ?_)
  · replace h := gpos c1 h
    refine lv_iload hx hb dX10_simulate_132 (lv_at hl 3 rfl) ?_
    refine lv_aload_n hx hb dX10_simulate_134 rfl (lv_at hl 0 rfl) ?_
    refine gf_10_14 hx hb hown hts hK hP wf_X10_38 dX10_simulate_135 ?_
    refine lv_iconst (v := 0) hx hb dX10_simulate_138 (by decide) ?_
    refine gCSi (rest := [.int l6]) C0 cal_X10_isThere wl_X10_108 wt_X10_isThere ⟨Nat.le_of_ble_eq_true rfl, Nat.le_of_ble_eq_true rfl⟩ ⟨Nat.le_of_ble_eq_true rfl, Nat.le_of_ble_eq_true rfl⟩ [.ref (gB Γ + 184), .int (0 : Int32)] rfl (Nat.le_of_ble_eq_true rfl) hP hS hl.1 dX10_simulate_139 h (fun u hu => m_X10_isThere l Γ is_184 (0 : Int32) g u hu) (fun u2 H locs h hP hS => ?_) rfl
    refine lv_if_eq (tgt := 149) hx hb dX10_simulate_142 (by decide) (fun c3 => ?_) (fun c3 => ?_)
    · replace h := gpos c3 h
      refine lv_iconst (v := 0) hx hb dX10_simulate_149 (by decide) ?_
      exact bs_X10_simulate_150 C0 hF42 h hP hS (lv_sub hl [0, 1, 2, 4, 5] rfl)
    · replace h := gneg c3 h
      refine lv_iconst (v := 1) hx hb dX10_simulate_145 (by decide) ?_
      refine lv_goto (tgt := 150) hx hb dX10_simulate_146 (by decide) ?_
      exact bs_X10_simulate_150 C0 hF42 h hP hS (lv_sub hl [0, 1, 2, 4, 5] rfl)
  · replace h := gneg c1 h
    refine lv_lload hx hb dX10_simulate_71 (lv_at hl 2 rfl) ?_
    refine lv_ldc2 (v := 6364136223846793005) hx hb hown (hts _ wkl_X10_281) dX10_simulate_73 ?_
    refine lv_lmul hx hb dX10_simulate_76 ?_
    refine lv_ldc2 (v := 1442695040888963407) hx hb hown (hts _ wkl_X10_283) dX10_simulate_77 ?_
    refine lv_ladd hx hb dX10_simulate_80 ?_
    refine lv_topl (fun x4 ex4 => ?_)
    replace h := gLetI ex4 h
    refine lv_lstore (lv' := [(4, .long x4), (0, .ref (gB Γ + 174)), (3, .int l3), (6, .int l6), (7, .int l7), (8, .int l8), (9, .int l9)]) hx hb dX10_simulate_81 hl (by decide) rfl (fun ls hl => ?_)
    refine lv_lload hx hb dX10_simulate_83 (lv_at hl 0 rfl) ?_
    refine lv_bipush (v := 33) hx hb dX10_simulate_85 (by decide) ?_
    refine lv_lushr hx hb dX10_simulate_87 rfl ?_
    refine lv_l2i hx hb dX10_simulate_88 rfl ?_
    refine lv_topi (fun x5 ex5 => ?_)
    replace h := gLetI ex5 h
    refine lv_istore (lv' := [(10, .int x5), (4, .long x4), (0, .ref (gB Γ + 174)), (3, .int l3), (6, .int l6), (7, .int l7), (8, .int l8), (9, .int l9)]) hx hb dX10_simulate_89 hl (by decide) rfl (fun ls hl => ?_)
    refine lv_aload_n hx hb dX10_simulate_91 rfl (lv_at hl 2 rfl) ?_
    refine gf_10_14 hx hb hown hts hK hP wf_X10_38 dX10_simulate_92 ?_
    refine lv_iconst (v := 0) hx hb dX10_simulate_95 (by decide) ?_
    refine lv_iload hx hb dX10_simulate_96 (lv_at hl 7 rfl) ?_
    refine lv_iload hx hb dX10_simulate_98 (lv_at hl 0 rfl) ?_
    refine lv_iload hx hb dX10_simulate_100 (lv_at hl 7 rfl) ?_
    refine gCSi (rest := [.int x5, .int l9, .int (0 : Int32), .ref (gB Γ + 184)]) C0 cal_X10_count wl_X10_214 wt_X10_count ⟨Nat.le_of_ble_eq_true rfl, Nat.le_of_ble_eq_true rfl⟩ ⟨Nat.le_of_ble_eq_true rfl, Nat.le_of_ble_eq_true rfl⟩ [.int l9] rfl (Nat.le_of_ble_eq_true rfl) hP hS hl.1 dX10_simulate_102 h (fun u hu => m_X10_count l Γ l9 g u hu) (fun u6 H locs h hP hS => ?_) rfl
    obtain ⟨c7, h⟩ := gnz h
    refine lv_irem hx hb dX10_simulate_105 c7 ?_
    refine gCSi (rest := [.int (0 : Int32), .ref (gB Γ + 184)]) C0 cal_X10_nth wl_X10_285 wt_X10_nth ⟨Nat.le_of_ble_eq_true rfl, Nat.le_of_ble_eq_true rfl⟩ ⟨Nat.le_of_ble_eq_true rfl, Nat.le_of_ble_eq_true rfl⟩ [.int l9, .int (x5 - x5 / u6.1 * u6.1)] rfl (Nat.le_of_ble_eq_true rfl) hP hS hl.1 dX10_simulate_106 h (fun u hu => m_X10_nth l Γ l9 (x5 - x5 / u6.1 * u6.1) u6.2 u hu) (fun u8 H locs h hP hS => ?_) rfl
    refine gCSv (rest := []) C0 cal_X10_visit wl_X10_239 wt_X10_visit ⟨Nat.le_of_ble_eq_true rfl, Nat.le_of_ble_eq_true rfl⟩ ⟨Nat.le_of_ble_eq_true rfl, Nat.le_of_ble_eq_true rfl⟩ [.ref (gB Γ + 184), .int (0 : Int32), .int u8.1] rfl (Nat.le_of_ble_eq_true rfl) hP hS hl.1 dX10_simulate_109 h (fun u hu => m_X10_visit l Γ is_184 (0 : Int32) u8.1 u8.2 u hu) (fun u9 H locs h hP hS => ?_) rfl
    refine lv_aload_n hx hb dX10_simulate_112 rfl (lv_at hl 2 rfl) ?_
    refine gf_10_14 hx hb hown hts hK hP wf_X10_38 dX10_simulate_113 ?_
    refine lv_aload_n hx hb dX10_simulate_116 rfl (lv_at hl 2 rfl) ?_
    refine gf_10_14 hx hb hown hts hK hP wf_X10_38 dX10_simulate_117 ?_
    refine lv_iconst (v := 0) hx hb dX10_simulate_120 (by decide) ?_
    refine gCSi (rest := [.ref (gB Γ + 184)]) C0 cal_X10_visited wl_X10_104 wt_X10_visited ⟨Nat.le_of_ble_eq_true rfl, Nat.le_of_ble_eq_true rfl⟩ ⟨Nat.le_of_ble_eq_true rfl, Nat.le_of_ble_eq_true rfl⟩ [.ref (gB Γ + 184), .int (0 : Int32)] rfl (Nat.le_of_ble_eq_true rfl) hP hS hl.1 dX10_simulate_121 h (fun u hu => m_X10_visited l Γ is_184 (0 : Int32) u9.2 u hu) (fun u10 H locs h hP hS => ?_) rfl
    refine gCSi (rest := []) C0 cal_X10_openOf wl_X10_119 wt_X10_openOf ⟨Nat.le_of_ble_eq_true rfl, Nat.le_of_ble_eq_true rfl⟩ ⟨Nat.le_of_ble_eq_true rfl, Nat.le_of_ble_eq_true rfl⟩ [.ref (gB Γ + 184), .int u10.1] rfl (Nat.le_of_ble_eq_true rfl) hP hS hl.1 dX10_simulate_124 h (fun u hu => m_X10_openOf l Γ is_184 u10.1 u10.2 u hu) (fun u11 H locs h hP hS => ?_) rfl
    refine lv_topi (fun x12 ex12 => ?_)
    replace h := gLetI ex12 h
    refine lv_istore (lv' := [(9, .int x12), (10, .int x5), (4, .long x4), (0, .ref (gB Γ + 174)), (3, .int l3), (6, .int l6), (7, .int l7), (8, .int l8)]) hx hb dX10_simulate_127 hl (by decide) rfl (fun ls hl => ?_)
    refine lv_goto (tgt := 66) hx hb dX10_simulate_129 (by decide) ?_
    exact hF66 _ _ _ _ _ _ _ _ _ _ h hP hS (lv_sub hl [3, 4, 2, 5, 6, 7, 0] rfl)
set_option maxHeartbeats 2000000 in
set_option maxRecDepth 20000 in
theorem bk_X10_simulate_66 {p : Program} {l : Launch} {e : Env} {s : State} {m : MethodId} {args : Array Value} {below : List Frame} {meth : Method} {c : Code} {Γ : gE} (C0 : gCx p s m args meth c Γ RX10 cX10_simulate 11 (some .int))   {z : Int32 × gG} {F42 : Int32 → Int64 → Int32 → Int32 → Int32 → gG → Option (Int32 × gG)} (hF42 : ∀ (l3 : Int32) (l4 : Int64) (l6 : Int32) (l7 : Int32) (l8 : Int32) (g : gG) (H : Heap) (locs : List Loc) (ls : Array Slot), F42 l3 l4 l6 l7 l8 g = some z → va_P (gD Γ) gcls (lay Γ g) H → va_S (gA Γ) s.heap H locs → lv_has ls 11 [(0, .ref (gB Γ + 174)), (3, .int l3), (4, .long l4), (6, .int l6), (7, .int l7), (8, .int l8)] → W p l e (gRm 4 88) s m args below meth c H locs 0 0 (MQ below (gQi Γ z) args s 0 0 (gA Γ)) (F0 m 42 ls [])) : ∀ (n : Nat) (l3 : Int32) (l4 : Int64) (l6 : Int32) (l7 : Int32) (l8 : Int32) (l9 : Int32) (g : gG) (H : Heap) (locs : List Loc) (ls : Array Slot), fb_X10_simulate_66 F42 n l3 l4 l6 l7 l8 l9 g = some z → va_P (gD Γ) gcls (lay Γ g) H → va_S (gA Γ) s.heap H locs → lv_has ls 11 [(0, .ref (gB Γ + 174)), (3, .int l3), (4, .long l4), (6, .int l6), (7, .int l7), (8, .int l8), (9, .int l9)] → W p l e (gRm 4 88) s m args below meth c H locs 0 0 (MQ below (gQi Γ z) args s 0 0 (gA Γ)) (F0 m 66 ls []) := by
  intro n
  induction n with
  | zero => intro l3 l4 l6 l7 l8 l9 g H locs ls h hP hS hl; cases h
  | succ n ih => intro l3 l4 l6 l7 l8 l9 g H locs ls h hP hS hl; exact bs_X10_simulate_66 C0 hF42 ih h hP hS hl
set_option maxHeartbeats 2000000 in
set_option maxRecDepth 20000 in
theorem bs_X10_simulate_42 {p : Program} {l : Launch} {e : Env} {s : State} {m : MethodId} {args : Array Value} {below : List Frame} {meth : Method} {c : Code} {Γ : gE} (C0 : gCx p s m args meth c Γ RX10 cX10_simulate 11 (some .int))   {z : Int32 × gG} {F42 : Int32 → Int64 → Int32 → Int32 → Int32 → gG → Option (Int32 × gG)} {l3 : Int32} {l4 : Int64} {l6 : Int32} {l7 : Int32} {l8 : Int32} {g : gG} {H : Heap} {locs : List Loc} {ls : Array Slot} (hF42 : ∀ (l3 : Int32) (l4 : Int64) (l6 : Int32) (l7 : Int32) (l8 : Int32) (g : gG) (H : Heap) (locs : List Loc) (ls : Array Slot), F42 l3 l4 l6 l7 l8 g = some z → va_P (gD Γ) gcls (lay Γ g) H → va_S (gA Γ) s.heap H locs → lv_has ls 11 [(0, .ref (gB Γ + 174)), (3, .int l3), (4, .long l4), (6, .int l6), (7, .int l7), (8, .int l8)] → W p l e (gRm 4 88) s m args below meth c H locs 0 0 (MQ below (gQi Γ z) args s 0 0 (gA Γ)) (F0 m 42 ls [])) (h : fs_X10_simulate_42 F42 l3 l4 l6 l7 l8 g = some z) (hP : va_P (gD Γ) gcls (lay Γ g) H) (hS : va_S (gA Γ) s.heap H locs) (hl : lv_has ls 11 [(0, .ref (gB Γ + 174)), (3, .int l3), (4, .long l4), (6, .int l6), (7, .int l7), (8, .int l8)]) : W p l e (gRm 4 88) s m args below meth c H locs 0 0 (MQ below (gQi Γ z) args s 0 0 (gA Γ)) (F0 m 42 ls []) := by
  unfold fs_X10_simulate_42 at h
  obtain ⟨hx, hb, hml, hr, hown, hts, hK, hlk, hX⟩ := id C0
  refine lv_iload hx hb dX10_simulate_42 (lv_at hl 5 rfl) ?_
  refine lv_iload_n hx hb dX10_simulate_44 rfl (lv_at hl 1 rfl) ?_
  refine lv_icmp_ge (tgt := 189) hx hb dX10_simulate_45 (by decide) (fun c1 => ?_) (fun c1 => ?_)
  · replace h := gpos c1 h
    refine lv_ldcw (v := 100000) hx hb hown (hts _ wk_X10_288) dX10_simulate_189 ?_
    refine lv_iload hx hb dX10_simulate_192 (lv_at hl 3 rfl) ?_
    refine lv_imul hx hb dX10_simulate_194 ?_
    refine lv_iload hx hb dX10_simulate_195 (lv_at hl 4 rfl) ?_
    refine lv_ldcw (v := 99999) hx hb hown (hts _ wk_X10_289) dX10_simulate_197 ?_
    refine lv_icmp_le (tgt := 209) hx hb dX10_simulate_200 (by decide) (fun c2 => ?_) (fun c2 => ?_)
    · replace h := gpos c2 h
      refine lv_iload hx hb dX10_simulate_209 (lv_at hl 4 rfl) ?_
      refine lv_iadd hx hb dX10_simulate_211 ?_
      exact giret hx hb hr hlk hP hS dX10_simulate_212 h
    · replace h := gneg c2 h
      refine lv_ldcw (v := 99999) hx hb hown (hts _ wk_X10_289) dX10_simulate_203 ?_
      refine lv_goto (tgt := 211) hx hb dX10_simulate_206 (by decide) ?_
      refine lv_iadd hx hb dX10_simulate_211 ?_
      exact giret hx hb hr hlk hP hS dX10_simulate_212 h
  · replace h := gneg c1 h
    refine lv_aload_n hx hb dX10_simulate_48 rfl (lv_at hl 0 rfl) ?_
    refine gf_10_14 hx hb hown hts hK hP wf_X10_38 dX10_simulate_49 ?_
    refine lv_iconst (v := 0) hx hb dX10_simulate_52 (by decide) ?_
    refine gCSv (rest := []) C0 cal_X10_clearTeam wl_X10_229 wt_X10_clearTeam ⟨Nat.le_of_ble_eq_true rfl, Nat.le_of_ble_eq_true rfl⟩ ⟨Nat.le_of_ble_eq_true rfl, Nat.le_of_ble_eq_true rfl⟩ [.ref (gB Γ + 184), .int (0 : Int32)] rfl (Nat.le_of_ble_eq_true rfl) hP hS hl.1 dX10_simulate_53 h (fun u hu => m_X10_clearTeam l Γ is_184 (0 : Int32) g u hu) (fun u3 H locs h hP hS => ?_) rfl
    refine lv_aload_n hx hb dX10_simulate_56 rfl (lv_at hl 0 rfl) ?_
    refine gf_10_14 hx hb hown hts hK hP wf_X10_38 dX10_simulate_57 ?_
    refine lv_iconst (v := 0) hx hb dX10_simulate_60 (by decide) ?_
    refine gCSi (rest := []) C0 cal_X10_openOf wl_X10_119 wt_X10_openOf ⟨Nat.le_of_ble_eq_true rfl, Nat.le_of_ble_eq_true rfl⟩ ⟨Nat.le_of_ble_eq_true rfl, Nat.le_of_ble_eq_true rfl⟩ [.ref (gB Γ + 184), .int (0 : Int32)] rfl (Nat.le_of_ble_eq_true rfl) hP hS hl.1 dX10_simulate_61 h (fun u hu => m_X10_openOf l Γ is_184 (0 : Int32) u3.2 u hu) (fun u4 H locs h hP hS => ?_) rfl
    refine lv_topi (fun x5 ex5 => ?_)
    replace h := gLetI ex5 h
    refine lv_istore (lv' := [(9, .int x5), (0, .ref (gB Γ + 174)), (3, .int l3), (4, .long l4), (6, .int l6), (7, .int l7), (8, .int l8)]) hx hb dX10_simulate_64 hl (by decide) rfl (fun ls hl => ?_)
    exact bk_X10_simulate_66 C0 hF42 gFuel _ _ _ _ _ _ _ _ _ _ h hP hS (lv_sub hl [1, 2, 3, 4, 5, 6, 0] rfl)
set_option maxHeartbeats 2000000 in
set_option maxRecDepth 20000 in
theorem bk_X10_simulate_42 {p : Program} {l : Launch} {e : Env} {s : State} {m : MethodId} {args : Array Value} {below : List Frame} {meth : Method} {c : Code} {Γ : gE} (C0 : gCx p s m args meth c Γ RX10 cX10_simulate 11 (some .int))   {z : Int32 × gG}   : ∀ (n : Nat) (l3 : Int32) (l4 : Int64) (l6 : Int32) (l7 : Int32) (l8 : Int32) (g : gG) (H : Heap) (locs : List Loc) (ls : Array Slot), fb_X10_simulate_42 n l3 l4 l6 l7 l8 g = some z → va_P (gD Γ) gcls (lay Γ g) H → va_S (gA Γ) s.heap H locs → lv_has ls 11 [(0, .ref (gB Γ + 174)), (3, .int l3), (4, .long l4), (6, .int l6), (7, .int l7), (8, .int l8)] → W p l e (gRm 4 88) s m args below meth c H locs 0 0 (MQ below (gQi Γ z) args s 0 0 (gA Γ)) (F0 m 42 ls []) := by
  intro n
  induction n with
  | zero => intro l3 l4 l6 l7 l8 g H locs ls h hP hS hl; cases h
  | succ n ih => intro l3 l4 l6 l7 l8 g H locs ls h hP hS hl; exact bs_X10_simulate_42 C0  ih h hP hS hl
set_option maxHeartbeats 2000000 in
set_option maxRecDepth 20000 in
theorem bs_X10_simulate_18 {p : Program} {l : Launch} {e : Env} {s : State} {m : MethodId} {args : Array Value} {below : List Frame} {meth : Method} {c : Code} {Γ : gE} (C0 : gCx p s m args meth c Γ RX10 cX10_simulate 11 (some .int))   {z : Int32 × gG}  {l1 : Int64} {l3 : Int32} {s1 : Int32} {g : gG} {H : Heap} {locs : List Loc} {ls : Array Slot}  (h : fs_X10_simulate_18 l1 l3 s1 g = some z) (hP : va_P (gD Γ) gcls (lay Γ g) H) (hS : va_S (gA Γ) s.heap H locs) (hl : lv_has ls 11 [(0, .ref (gB Γ + 174)), (1, .long l1), (3, .int l3)]) : W p l e (gRm 4 88) s m args below meth c H locs 0 0 (MQ below (gQi Γ z) args s 0 0 (gA Γ)) (F0 m 18 ls [.int s1, .ref (gB Γ + 174)]) := by
  unfold fs_X10_simulate_18 at h
  obtain ⟨hx, hb, hml, hr, hown, hts, hK, hlk, hX⟩ := id C0
  refine gCVi (rest := []) C0 cal_X10_refused wl_X10_146 wi_X10_refused ws_X10_refused ⟨Nat.le_of_ble_eq_true rfl, Nat.le_of_ble_eq_true rfl⟩ ⟨Nat.le_of_ble_eq_true rfl, Nat.le_of_ble_eq_true rfl⟩ grv_10 [.int s1] rfl (Nat.le_of_ble_eq_true rfl) hP hS hl.1 dX10_simulate_18 h (fun u hu => m_X10_refused l Γ s1 g u hu) (fun u1 H locs h hP hS => ?_) rfl
  refine lv_if_eq (tgt := 26) hx hb dX10_simulate_21 (by decide) (fun c2 => ?_) (fun c2 => ?_)
  · replace h := gpos c2 h
    refine lv_aload_n hx hb dX10_simulate_26 rfl (lv_at hl 0 rfl) ?_
    refine gCVv (rest := []) C0 cal_X10_begin wl_X10_265 wi_X10_begin ws_X10_begin ⟨Nat.le_of_ble_eq_true rfl, Nat.le_of_ble_eq_true rfl⟩ ⟨Nat.le_of_ble_eq_true rfl, Nat.le_of_ble_eq_true rfl⟩ grv_10 [] rfl (Nat.le_of_ble_eq_true rfl) hP hS hl.1 dX10_simulate_27 h (fun u hu => m_X10_begin l Γ u1.2 u hu) (fun u3 H locs h hP hS => ?_) rfl
    refine lv_lload_n hx hb dX10_simulate_30 rfl (lv_at hl 1 rfl) ?_
    refine lv_lstore (lv' := [(4, .long l1), (0, .ref (gB Γ + 174)), (1, .long l1), (3, .int l3)]) hx hb dX10_simulate_31 hl (by decide) rfl (fun ls hl => ?_)
    refine lv_iconst (v := 0) hx hb dX10_simulate_33 (by decide) ?_
    refine lv_istore (lv' := [(6, .int (0 : Int32)), (4, .long l1), (0, .ref (gB Γ + 174)), (1, .long l1), (3, .int l3)]) hx hb dX10_simulate_34 hl (by decide) rfl (fun ls hl => ?_)
    refine lv_iconst (v := 0) hx hb dX10_simulate_36 (by decide) ?_
    refine lv_istore (lv' := [(7, .int (0 : Int32)), (6, .int (0 : Int32)), (4, .long l1), (0, .ref (gB Γ + 174)), (1, .long l1), (3, .int l3)]) hx hb dX10_simulate_37 hl (by decide) rfl (fun ls hl => ?_)
    refine lv_iconst (v := 0) hx hb dX10_simulate_39 (by decide) ?_
    refine lv_istore (lv' := [(8, .int (0 : Int32)), (7, .int (0 : Int32)), (6, .int (0 : Int32)), (4, .long l1), (0, .ref (gB Γ + 174)), (1, .long l1), (3, .int l3)]) hx hb dX10_simulate_40 hl (by decide) rfl (fun ls hl => ?_)
    exact bk_X10_simulate_42 C0  gFuel _ _ _ _ _ _ _ _ _ h hP hS (lv_sub hl [4, 6, 3, 2, 1, 0] rfl)
  · replace h := gneg c2 h
    refine lv_iconst (v := 0) hx hb dX10_simulate_24 (by decide) ?_
    exact giret hx hb hr hlk hP hS dX10_simulate_25 h
set_option maxHeartbeats 2000000 in
set_option maxRecDepth 20000 in
theorem m_X10_simulate (l : Launch) (Γ : gE)   (a1 : Int64) (a3 : Int32) (g : gG) (z : Int32 × gG) (h : f_X10_simulate a1 a3 g = some z) : gMi l yX10_simulate cX10_simulate 11 (some .int) 4 88 Γ [.ref (gB Γ + 174), .long a1, .int a3] g z := by
  unfold f_X10_simulate at h
  refine gStart (own := RX10) (by decide +kernel) rfl (Nat.le_of_ble_eq_true rfl) ?_
  intro p e s m below meth c C0 ls hl hP
  have hS : va_S (gA Γ) s.heap s.heap [] := va_S.rf
  have hl : lv_has ls 11 [(0, .ref (gB Γ + 174)), (1, .long a1), (3, .int a3)] := hl
  obtain ⟨hx, hb, hml, hr, hown, hts, hK, hlk, hX⟩ := id C0
  refine lv_aload_n hx hb dX10_simulate_0 rfl (lv_at hl 0 rfl) ?_
  refine lv_iload_n hx hb dX10_simulate_1 rfl (lv_at hl 2 rfl) ?_
  refine lv_i2l hx hb dX10_simulate_2 rfl ?_
  refine lv_lconst (v := 1) hx hb dX10_simulate_3 (by decide) ?_
  refine lv_ldc2 (v := 50) hx hb hown (hts _ wkl_X10_279) dX10_simulate_4 ?_
  refine gCSi (rest := [.ref (gB Γ + 174)]) C0 cal_X10_in wl_X10_139 wt_X10_in ⟨Nat.le_of_ble_eq_true rfl, Nat.le_of_ble_eq_true rfl⟩ ⟨Nat.le_of_ble_eq_true rfl, Nat.le_of_ble_eq_true rfl⟩ [.long a3.toInt64, .long (1 : Int64), .long (50 : Int64)] rfl (Nat.le_of_ble_eq_true rfl) hP hS hl.1 dX10_simulate_7 h (fun u hu => m_X10_in l Γ a3.toInt64 (1 : Int64) (50 : Int64) g u hu) (fun u1 H locs h hP hS => ?_) rfl
  refine lv_if_eq (tgt := 17) hx hb dX10_simulate_10 (by decide) (fun c2 => ?_) (fun c2 => ?_)
  · replace h := gpos c2 h
    refine lv_iconst (v := 1) hx hb dX10_simulate_17 (by decide) ?_
    exact bs_X10_simulate_18 C0  h hP hS (lv_sub hl [0, 1, 2] rfl)
  · replace h := gneg c2 h
    refine lv_iconst (v := 0) hx hb dX10_simulate_13 (by decide) ?_
    refine lv_goto (tgt := 18) hx hb dX10_simulate_14 (by decide) ?_
    exact bs_X10_simulate_18 C0  h hP hS (lv_sub hl [0, 1, 2] rfl)
set_option maxHeartbeats 2000000 in
set_option maxRecDepth 20000 in
theorem bs_X10_save_16 {p : Program} {l : Launch} {e : Env} {s : State} {m : MethodId} {args : Array Value} {below : List Frame} {meth : Method} {c : Code} {Γ : gE} (C0 : gCx p s m args meth c Γ RX10 cX10_save 2 (some .int))   {z : Int32 × gG}  {l1 : Int32} {s1 : Int32} {g : gG} {H : Heap} {locs : List Loc} {ls : Array Slot}  (h : fs_X10_save_16 l1 s1 g = some z) (hP : va_P (gD Γ) gcls (lay Γ g) H) (hS : va_S (gA Γ) s.heap H locs) (hl : lv_has ls 2 [(0, .ref (gB Γ + 174)), (1, .int l1)]) : W p l e (gRm 1 25) s m args below meth c H locs 0 0 (MQ below (gQi Γ z) args s 0 0 (gA Γ)) (F0 m 16 ls [.int s1, .ref (gB Γ + 174)]) := by
  unfold fs_X10_save_16 at h
  obtain ⟨hx, hb, hml, hr, hown, hts, hK, hlk, hX⟩ := id C0
  refine gCVi (rest := []) C0 cal_X10_refused wl_X10_146 wi_X10_refused ws_X10_refused ⟨Nat.le_of_ble_eq_true rfl, Nat.le_of_ble_eq_true rfl⟩ ⟨Nat.le_of_ble_eq_true rfl, Nat.le_of_ble_eq_true rfl⟩ grv_10 [.int s1] rfl (Nat.le_of_ble_eq_true rfl) hP hS hl.1 dX10_save_16 h (fun u hu => m_X10_refused l Γ s1 g u hu) (fun u1 H locs h hP hS => ?_) rfl
  refine lv_if_eq (tgt := 24) hx hb dX10_save_19 (by decide) (fun c2 => ?_) (fun c2 => ?_)
  · replace h := gpos c2 h
    refine lv_aload_n hx hb dX10_save_24 rfl (lv_at hl 0 rfl) ?_
    refine gf_10_13 hx hb hown hts hK hP wf_X10_35 dX10_save_25 ?_
    refine lv_iconst (v := 0) hx hb dX10_save_28 (by decide) ?_
    refine lv_aload_n hx hb dX10_save_29 rfl (lv_at hl 0 rfl) ?_
    refine gf_10_17 hx hb hown hts hK hP wf_X10_44 dX10_save_30 ?_
    refine lv_sipush (v := 394) hx hb dX10_save_33 (by decide) ?_
    refine lv_iload_n hx hb dX10_save_36 rfl (lv_at hl 1 rfl) ?_
    refine lv_imul hx hb dX10_save_37 ?_
    refine lv_sipush (v := 394) hx hb dX10_save_38 (by decide) ?_
    refine gCSv (rest := []) C0 cal_X10_copy wl_X10_82 wt_X10_copy ⟨Nat.le_of_ble_eq_true rfl, Nat.le_of_ble_eq_true rfl⟩ ⟨Nat.le_of_ble_eq_true rfl, Nat.le_of_ble_eq_true rfl⟩ [.ref (gB Γ + 183), .int (0 : Int32), .ref (gB Γ + 186), .int ((394 : Int32) * l1), .int (394 : Int32)] rfl (Nat.le_of_ble_eq_true rfl) hP hS hl.1 dX10_save_41 h (fun u hu => m_X10_copy l Γ is_183 is_186 (0 : Int32) ((394 : Int32) * l1) (394 : Int32) u1.2 u hu) (fun u3 H locs h hP hS => ?_) rfl
    refine lv_aload_n hx hb dX10_save_44 rfl (lv_at hl 0 rfl) ?_
    refine gf_10_18 hx hb hown hts hK hP wf_X10_47 dX10_save_45 ?_
    refine lv_iload_n hx hb dX10_save_48 rfl (lv_at hl 1 rfl) ?_
    refine lv_iconst (v := 1) hx hb dX10_save_49 (by decide) ?_
    refine gZst hx hb hK hP hS is_187 dX10_save_50 h (fun H locs g4 h hP hS => ?_)
    refine lv_aload_n hx hb dX10_save_51 rfl (lv_at hl 0 rfl) ?_
    refine gf_10_13 hx hb hown hts hK hP wf_X10_35 dX10_save_52 ?_
    refine lv_iconst (v := 1) hx hb dX10_save_55 (by decide) ?_
    refine gIld hx hb hK hP is_183 dX10_save_56 h (fun h => ?_)
    exact giret hx hb hr hlk hP hS dX10_save_57 h
  · replace h := gneg c2 h
    refine lv_iconst (v := 0) hx hb dX10_save_22 (by decide) ?_
    exact giret hx hb hr hlk hP hS dX10_save_23 h
set_option maxHeartbeats 2000000 in
set_option maxRecDepth 20000 in
theorem m_X10_save (l : Launch) (Γ : gE)   (a1 : Int32) (g : gG) (z : Int32 × gG) (h : f_X10_save a1 g = some z) : gMi l yX10_save cX10_save 2 (some .int) 1 25 Γ [.ref (gB Γ + 174), .int a1] g z := by
  unfold f_X10_save at h
  refine gStart (own := RX10) (by decide +kernel) rfl (Nat.le_of_ble_eq_true rfl) ?_
  intro p e s m below meth c C0 ls hl hP
  have hS : va_S (gA Γ) s.heap s.heap [] := va_S.rf
  have hl : lv_has ls 2 [(0, .ref (gB Γ + 174)), (1, .int a1)] := hl
  obtain ⟨hx, hb, hml, hr, hown, hts, hK, hlk, hX⟩ := id C0
  refine lv_aload_n hx hb dX10_save_0 rfl (lv_at hl 0 rfl) ?_
  refine lv_iload_n hx hb dX10_save_1 rfl (lv_at hl 1 rfl) ?_
  refine lv_i2l hx hb dX10_save_2 rfl ?_
  refine lv_lconst (v := 0) hx hb dX10_save_3 (by decide) ?_
  refine lv_lconst (v := 1) hx hb dX10_save_4 (by decide) ?_
  refine gCSi (rest := [.ref (gB Γ + 174)]) C0 cal_X10_in wl_X10_139 wt_X10_in ⟨Nat.le_of_ble_eq_true rfl, Nat.le_of_ble_eq_true rfl⟩ ⟨Nat.le_of_ble_eq_true rfl, Nat.le_of_ble_eq_true rfl⟩ [.long a1.toInt64, .long (0 : Int64), .long (1 : Int64)] rfl (Nat.le_of_ble_eq_true rfl) hP hS hl.1 dX10_save_5 h (fun u hu => m_X10_in l Γ a1.toInt64 (0 : Int64) (1 : Int64) g u hu) (fun u1 H locs h hP hS => ?_) rfl
  refine lv_if_eq (tgt := 15) hx hb dX10_save_8 (by decide) (fun c2 => ?_) (fun c2 => ?_)
  · replace h := gpos c2 h
    refine lv_iconst (v := 1) hx hb dX10_save_15 (by decide) ?_
    exact bs_X10_save_16 C0  h hP hS (lv_sub hl [0, 1] rfl)
  · replace h := gneg c2 h
    refine lv_iconst (v := 0) hx hb dX10_save_11 (by decide) ?_
    refine lv_goto (tgt := 16) hx hb dX10_save_12 (by decide) ?_
    exact bs_X10_save_16 C0  h hP hS (lv_sub hl [0, 1] rfl)
set_option maxHeartbeats 2000000 in
set_option maxRecDepth 20000 in
theorem bs_X10_restore_29 {p : Program} {l : Launch} {e : Env} {s : State} {m : MethodId} {args : Array Value} {below : List Frame} {meth : Method} {c : Code} {Γ : gE} (C0 : gCx p s m args meth c Γ RX10 cX10_restore 2 (some .int))   {z : Int32 × gG}  {l1 : Int32} {s1 : Int32} {g : gG} {H : Heap} {locs : List Loc} {ls : Array Slot}  (h : fs_X10_restore_29 l1 s1 g = some z) (hP : va_P (gD Γ) gcls (lay Γ g) H) (hS : va_S (gA Γ) s.heap H locs) (hl : lv_has ls 2 [(0, .ref (gB Γ + 174)), (1, .int l1)]) : W p l e (gRm 1 25) s m args below meth c H locs 0 0 (MQ below (gQi Γ z) args s 0 0 (gA Γ)) (F0 m 29 ls [.int s1, .ref (gB Γ + 174)]) := by
  unfold fs_X10_restore_29 at h
  obtain ⟨hx, hb, hml, hr, hown, hts, hK, hlk, hX⟩ := id C0
  refine gCVi (rest := []) C0 cal_X10_refused wl_X10_146 wi_X10_refused ws_X10_refused ⟨Nat.le_of_ble_eq_true rfl, Nat.le_of_ble_eq_true rfl⟩ ⟨Nat.le_of_ble_eq_true rfl, Nat.le_of_ble_eq_true rfl⟩ grv_10 [.int s1] rfl (Nat.le_of_ble_eq_true rfl) hP hS hl.1 dX10_restore_29 h (fun u hu => m_X10_refused l Γ s1 g u hu) (fun u1 H locs h hP hS => ?_) rfl
  refine lv_if_eq (tgt := 37) hx hb dX10_restore_32 (by decide) (fun c2 => ?_) (fun c2 => ?_)
  · replace h := gpos c2 h
    refine lv_aload_n hx hb dX10_restore_37 rfl (lv_at hl 0 rfl) ?_
    refine gf_10_17 hx hb hown hts hK hP wf_X10_44 dX10_restore_38 ?_
    refine lv_sipush (v := 394) hx hb dX10_restore_41 (by decide) ?_
    refine lv_iload_n hx hb dX10_restore_44 rfl (lv_at hl 1 rfl) ?_
    refine lv_imul hx hb dX10_restore_45 ?_
    refine lv_aload_n hx hb dX10_restore_46 rfl (lv_at hl 0 rfl) ?_
    refine gf_10_13 hx hb hown hts hK hP wf_X10_35 dX10_restore_47 ?_
    refine lv_iconst (v := 0) hx hb dX10_restore_50 (by decide) ?_
    refine lv_sipush (v := 394) hx hb dX10_restore_51 (by decide) ?_
    refine gCSv (rest := []) C0 cal_X10_copy wl_X10_82 wt_X10_copy ⟨Nat.le_of_ble_eq_true rfl, Nat.le_of_ble_eq_true rfl⟩ ⟨Nat.le_of_ble_eq_true rfl, Nat.le_of_ble_eq_true rfl⟩ [.ref (gB Γ + 186), .int ((394 : Int32) * l1), .ref (gB Γ + 183), .int (0 : Int32), .int (394 : Int32)] rfl (Nat.le_of_ble_eq_true rfl) hP hS hl.1 dX10_restore_54 h (fun u hu => m_X10_copy l Γ is_186 is_183 ((394 : Int32) * l1) (0 : Int32) (394 : Int32) u1.2 u hu) (fun u3 H locs h hP hS => ?_) rfl
    refine lv_aload_n hx hb dX10_restore_57 rfl (lv_at hl 0 rfl) ?_
    refine lv_iconst (v := 0) hx hb dX10_restore_58 (by decide) ?_
    refine gp_10_16 hx hb hown hts hK hP hS wf_X10_79 dX10_restore_59 h (fun H locs g4 h hP hS => ?_)
    refine lv_aload_n hx hb dX10_restore_62 rfl (lv_at hl 0 rfl) ?_
    refine gf_10_13 hx hb hown hts hK hP wf_X10_35 dX10_restore_63 ?_
    refine lv_iconst (v := 1) hx hb dX10_restore_66 (by decide) ?_
    refine gIld hx hb hK hP is_183 dX10_restore_67 h (fun h => ?_)
    exact giret hx hb hr hlk hP hS dX10_restore_68 h
  · replace h := gneg c2 h
    refine lv_iconst (v := 0) hx hb dX10_restore_35 (by decide) ?_
    exact giret hx hb hr hlk hP hS dX10_restore_36 h
set_option maxHeartbeats 2000000 in
set_option maxRecDepth 20000 in
theorem m_X10_restore (l : Launch) (Γ : gE)   (a1 : Int32) (g : gG) (z : Int32 × gG) (h : f_X10_restore a1 g = some z) : gMi l yX10_restore cX10_restore 2 (some .int) 1 25 Γ [.ref (gB Γ + 174), .int a1] g z := by
  unfold f_X10_restore at h
  refine gStart (own := RX10) (by decide +kernel) rfl (Nat.le_of_ble_eq_true rfl) ?_
  intro p e s m below meth c C0 ls hl hP
  have hS : va_S (gA Γ) s.heap s.heap [] := va_S.rf
  have hl : lv_has ls 2 [(0, .ref (gB Γ + 174)), (1, .int a1)] := hl
  obtain ⟨hx, hb, hml, hr, hown, hts, hK, hlk, hX⟩ := id C0
  refine lv_aload_n hx hb dX10_restore_0 rfl (lv_at hl 0 rfl) ?_
  refine lv_iload_n hx hb dX10_restore_1 rfl (lv_at hl 1 rfl) ?_
  refine lv_i2l hx hb dX10_restore_2 rfl ?_
  refine lv_lconst (v := 0) hx hb dX10_restore_3 (by decide) ?_
  refine lv_lconst (v := 1) hx hb dX10_restore_4 (by decide) ?_
  refine gCSi (rest := [.ref (gB Γ + 174)]) C0 cal_X10_in wl_X10_139 wt_X10_in ⟨Nat.le_of_ble_eq_true rfl, Nat.le_of_ble_eq_true rfl⟩ ⟨Nat.le_of_ble_eq_true rfl, Nat.le_of_ble_eq_true rfl⟩ [.long a1.toInt64, .long (0 : Int64), .long (1 : Int64)] rfl (Nat.le_of_ble_eq_true rfl) hP hS hl.1 dX10_restore_5 h (fun u hu => m_X10_in l Γ a1.toInt64 (0 : Int64) (1 : Int64) g u hu) (fun u1 H locs h hP hS => ?_) rfl
  refine lv_if_ne (tgt := 15) hx hb dX10_restore_8 (by decide) (fun c2 => ?_) (fun c2 => ?_)
  · replace h := gneg c2 h
    refine lv_aload_n hx hb dX10_restore_15 rfl (lv_at hl 0 rfl) ?_
    refine gf_10_18 hx hb hown hts hK hP wf_X10_47 dX10_restore_16 ?_
    refine lv_iload_n hx hb dX10_restore_19 rfl (lv_at hl 1 rfl) ?_
    refine gZld hx hb hK hP is_187 dX10_restore_20 h (fun h => ?_)
    refine lv_if_eq (tgt := 28) hx hb dX10_restore_21 (by decide) (fun c3 => ?_) (fun c3 => ?_)
    · replace h := gpos c3 h
      refine lv_iconst (v := 2) hx hb dX10_restore_28 (by decide) ?_
      exact bs_X10_restore_29 C0  h hP hS (lv_sub hl [0, 1] rfl)
    · replace h := gneg c3 h
      refine lv_iconst (v := 0) hx hb dX10_restore_24 (by decide) ?_
      refine lv_goto (tgt := 29) hx hb dX10_restore_25 (by decide) ?_
      exact bs_X10_restore_29 C0  h hP hS (lv_sub hl [0, 1] rfl)
  · replace h := gpos c2 h
    refine lv_iconst (v := 1) hx hb dX10_restore_11 (by decide) ?_
    refine lv_goto (tgt := 29) hx hb dX10_restore_12 (by decide) ?_
    exact bs_X10_restore_29 C0  h hP hS (lv_sub hl [0, 1] rfl)
