set_option maxHeartbeats 2000000 in
set_option maxRecDepth 20000 in
theorem bs_X9_append_11 {p : Program} {l : Launch} {e : Env} {s : State} {m : MethodId} {args : Array Value} {below : List Frame} {meth : Method} {c : Code} {Γ : gE} (C0 : gCx p s m args meth c Γ RX9 cX9_append 2 (some .int)) (hE : ∀ x ∈ c.exceptionTable.toList, False) (hst : l.stackTraces = false)   {z : (Int32 ⊕ Nat) × gG}   {g : gG} {H : Heap} {locs : List Loc} {ls : Array Slot}  (h : fs_X9_append_11 g = some z) (hP : va_P (gD Γ) gcls (lay Γ g) H) (hS : va_S (gA Γ) s.heap H locs) (hl : lv_has ls 2 []) : W p l e (gRx 6 82 1 6) s m args below meth c H locs 0 0 (vx_MQ below (gQxi Γ z) (gXC Γ z) args s 1 6 (gA Γ)) (F0 m 11 ls []) := by
  unfold fs_X9_append_11 at h
  obtain ⟨hx, hb, hml, hr, hown, hts, hK, hlk, hX⟩ := id C0
  exact gThrow C0 hE hst 1 (gth_1 gst_79) rfl hP hS hl.1 dX9_append_11 dX9_append_14 dX9_append_15 dX9_append_17 dX9_append_20 (Nat.le_of_ble_eq_true rfl) (Nat.le_of_ble_eq_true rfl) (Nat.le_of_ble_eq_true rfl) (Nat.le_of_ble_eq_true rfl) (Nat.le_of_ble_eq_true rfl) (Nat.le_of_ble_eq_true rfl) h
set_option maxHeartbeats 2000000 in
set_option maxRecDepth 20000 in
theorem m_X9_append (l : Launch) (hst : l.stackTraces = false) (Γ : gE)   (a1 : Int32) (g : gG) (z : (Int32 ⊕ Nat) × gG) (h : f_X9_append a1 g = some z) : gXi l yX9_append cX9_append 2 (some .int) 6 82 1 6 Γ [.ref (gB Γ + 0), .int a1] g z := by
  unfold f_X9_append at h
  refine gStartX (own := RX9) (by decide +kernel) rfl (Nat.le_of_ble_eq_true rfl) ?_
  intro p e s m below meth c C0 hE ls hl hP
  have hS : va_S (gA Γ) s.heap s.heap [] := va_S.rf
  have hl : lv_has ls 2 [(0, .ref (gB Γ + 0)), (1, .int a1)] := hl
  obtain ⟨hx, hb, hml, hr, hown, hts, hK, hlk, hX⟩ := id C0
  refine lv_iload_n hx hb dX9_append_0 rfl (lv_at hl 1 rfl) ?_
  refine lv_if_lt (tgt := 11) hx hb dX9_append_1 (by decide) (fun c1 => ?_) (fun c1 => ?_)
  · replace h := gpos c1 h
    exact bs_X9_append_11 C0 hE hst  h hP hS (lv_sub hl [] rfl)
  · replace h := gneg c1 h
    refine lv_iload_n hx hb dX9_append_4 rfl (lv_at hl 1 rfl) ?_
    refine lv_sipush (v := 255) hx hb dX9_append_5 (by decide) ?_
    refine lv_icmp_le (tgt := 21) hx hb dX9_append_8 (by decide) (fun c2 => ?_) (fun c2 => ?_)
    · replace h := gpos c2 h
      refine lv_aload_n hx hb dX9_append_21 rfl (lv_at hl 0 rfl) ?_
      refine gf_9_0 hx hb hown hts hK hP wf_X9_12 dX9_append_22 ?_
      refine gCVi (rest := []) C0 cal_X6_isFull wl_X9_84 wi_X6_isFull ws_X6_isFull ⟨Nat.le_of_ble_eq_true rfl, Nat.le_of_ble_eq_true rfl⟩ ⟨Nat.le_of_ble_eq_true rfl, Nat.le_of_ble_eq_true rfl⟩ grv_6 [] rfl (Nat.le_of_ble_eq_true rfl) hP hS hl.1 dX9_append_25 h (fun u hu => m_X6_isFull l Γ g u hu) (fun u3 H locs h hP hS => ?_) rfl
      refine lv_if_eq (tgt := 41) hx hb dX9_append_28 (by decide) (fun c4 => ?_) (fun c4 => ?_)
      · replace h := gpos c4 h
        refine lv_aload_n hx hb dX9_append_41 rfl (lv_at hl 0 rfl) ?_
        refine gf_9_0 hx hb hown hts hK hP wf_X9_12 dX9_append_42 ?_
        refine lv_iload_n hx hb dX9_append_45 rfl (lv_at hl 1 rfl) ?_
        refine gCVi (rest := []) C0 cal_X6_add wl_X9_93 wi_X6_add ws_X6_add ⟨Nat.le_of_ble_eq_true rfl, Nat.le_of_ble_eq_true rfl⟩ ⟨Nat.le_of_ble_eq_true rfl, Nat.le_of_ble_eq_true rfl⟩ grv_6 [.int a1] rfl (Nat.le_of_ble_eq_true rfl) hP hS hl.1 dX9_append_46 h (fun u hu => m_X6_add l Γ a1 u3.2 u hu) (fun u5 H locs h hP hS => ?_) rfl
        exact gxiret hx hb hr hlk hP hS (Nat.le_of_ble_eq_true rfl) (Nat.le_of_ble_eq_true rfl) dX9_append_49 h
      · replace h := gneg c4 h
        exact gThrow C0 hE hst 2 (gth_2 gst_90) rfl hP hS hl.1 dX9_append_31 dX9_append_34 dX9_append_35 dX9_append_37 dX9_append_40 (Nat.le_of_ble_eq_true rfl) (Nat.le_of_ble_eq_true rfl) (Nat.le_of_ble_eq_true rfl) (Nat.le_of_ble_eq_true rfl) (Nat.le_of_ble_eq_true rfl) (Nat.le_of_ble_eq_true rfl) h
    · replace h := gneg c2 h
      exact bs_X9_append_11 C0 hE hst  h hP hS (lv_sub hl [] rfl)
set_option maxHeartbeats 2000000 in
set_option maxRecDepth 20000 in
theorem bs_X9_load_57 {p : Program} {l : Launch} {e : Env} {s : State} {m : MethodId} {args : Array Value} {below : List Frame} {meth : Method} {c : Code} {Γ : gE} (C0 : gCx p s m args meth c Γ RX9 cX9_load 2 (some .int)) (hE : ∀ x ∈ c.exceptionTable.toList, False) (hst : l.stackTraces = false)   {z : (Int32 ⊕ Nat) × gG} {F57 : Int32 → gG → Option ((Int32 ⊕ Nat) × gG)} {l1 : Int32} {g : gG} {H : Heap} {locs : List Loc} {ls : Array Slot} (hF57 : ∀ (l1 : Int32) (g : gG) (H : Heap) (locs : List Loc) (ls : Array Slot), F57 l1 g = some z → va_P (gD Γ) gcls (lay Γ g) H → va_S (gA Γ) s.heap H locs → lv_has ls 2 [(0, .ref (gB Γ + 0)), (1, .int l1)] → W p l e (gRx 6 129 1 6) s m args below meth c H locs 0 0 (vx_MQ below (gQxi Γ z) (gXC Γ z) args s 1 6 (gA Γ)) (F0 m 57 ls [])) (h : fs_X9_load_57 F57 l1 g = some z) (hP : va_P (gD Γ) gcls (lay Γ g) H) (hS : va_S (gA Γ) s.heap H locs) (hl : lv_has ls 2 [(0, .ref (gB Γ + 0)), (1, .int l1)]) : W p l e (gRx 6 129 1 6) s m args below meth c H locs 0 0 (vx_MQ below (gQxi Γ z) (gXC Γ z) args s 1 6 (gA Γ)) (F0 m 57 ls []) := by
  unfold fs_X9_load_57 at h
  obtain ⟨hx, hb, hml, hr, hown, hts, hK, hlk, hX⟩ := id C0
  refine lv_iload_n hx hb dX9_load_57 rfl (lv_at hl 1 rfl) ?_
  refine lv_iconst (v := 2) hx hb dX9_load_58 (by decide) ?_
  refine lv_icmp_ge (tgt := 75) hx hb dX9_load_59 (by decide) (fun c1 => ?_) (fun c1 => ?_)
  · replace h := gpos c1 h
    refine lv_aload_n hx hb dX9_load_75 rfl (lv_at hl 0 rfl) ?_
    refine gf_9_2 hx hb hown hts hK hP wf_X9_26 dX9_load_76 ?_
    refine gCVi (rest := []) C0 cal_X0_count wl_X9_117 wi_X0_count ws_X0_count ⟨Nat.le_of_ble_eq_true rfl, Nat.le_of_ble_eq_true rfl⟩ ⟨Nat.le_of_ble_eq_true rfl, Nat.le_of_ble_eq_true rfl⟩ grv_0 [] rfl (Nat.le_of_ble_eq_true rfl) hP hS hl.1 dX9_load_79 h (fun u hu => m_X0_count l Γ g u hu) (fun u2 H locs h hP hS => ?_) rfl
    exact gxiret hx hb hr hlk hP hS (Nat.le_of_ble_eq_true rfl) (Nat.le_of_ble_eq_true rfl) dX9_load_82 h
  · replace h := gneg c1 h
    refine lv_aload_n hx hb dX9_load_62 rfl (lv_at hl 0 rfl) ?_
    refine gf_9_6 hx hb hown hts hK hP wf_X9_50 dX9_load_63 ?_
    refine lv_iload_n hx hb dX9_load_66 rfl (lv_at hl 1 rfl) ?_
    refine lv_iconst (v := 0) hx hb dX9_load_67 (by decide) ?_
    refine gZst hx hb hK hP hS is_155 dX9_load_68 h (fun H locs g3 h hP hS => ?_)
    obtain ⟨x4, ex4⟩ : ∃ y : Int32, y = l1 + (1 : Int32) := ⟨_, rfl⟩
    replace h := gLetI ex4 h
    refine lv_iinc (v := x4) (lv' := [(1, .int x4), (0, .ref (gB Γ + 0))]) hx hb dX9_load_69 hl (k := 1) rfl (by rw [ex4]; rfl) (by decide) rfl (fun ls hl => ?_)
    refine lv_goto (tgt := 57) hx hb dX9_load_72 (by decide) ?_
    exact hF57 _ _ _ _ _ h hP hS (lv_sub hl [1, 0] rfl)
set_option maxHeartbeats 2000000 in
set_option maxRecDepth 20000 in
theorem bk_X9_load_57 {p : Program} {l : Launch} {e : Env} {s : State} {m : MethodId} {args : Array Value} {below : List Frame} {meth : Method} {c : Code} {Γ : gE} (C0 : gCx p s m args meth c Γ RX9 cX9_load 2 (some .int)) (hE : ∀ x ∈ c.exceptionTable.toList, False) (hst : l.stackTraces = false)   {z : (Int32 ⊕ Nat) × gG}   : ∀ (n : Nat) (l1 : Int32) (g : gG) (H : Heap) (locs : List Loc) (ls : Array Slot), fb_X9_load_57 n l1 g = some z → va_P (gD Γ) gcls (lay Γ g) H → va_S (gA Γ) s.heap H locs → lv_has ls 2 [(0, .ref (gB Γ + 0)), (1, .int l1)] → W p l e (gRx 6 129 1 6) s m args below meth c H locs 0 0 (vx_MQ below (gQxi Γ z) (gXC Γ z) args s 1 6 (gA Γ)) (F0 m 57 ls []) := by
  intro n
  induction n with
  | zero => intro l1 g H locs ls h hP hS hl; cases h
  | succ n ih => intro l1 g H locs ls h hP hS hl; exact bs_X9_load_57 C0 hE hst  ih h hP hS hl
set_option maxHeartbeats 2000000 in
set_option maxRecDepth 20000 in
theorem m_X9_load (l : Launch) (hst : l.stackTraces = false) (Γ : gE)    (g : gG) (z : (Int32 ⊕ Nat) × gG) (h : f_X9_load g = some z) : gXi l yX9_load cX9_load 2 (some .int) 6 129 1 6 Γ [.ref (gB Γ + 0)] g z := by
  unfold f_X9_load at h
  refine gStartX (own := RX9) (by decide +kernel) rfl (Nat.le_of_ble_eq_true rfl) ?_
  intro p e s m below meth c C0 hE ls hl hP
  have hS : va_S (gA Γ) s.heap s.heap [] := va_S.rf
  have hl : lv_has ls 2 [(0, .ref (gB Γ + 0))] := hl
  obtain ⟨hx, hb, hml, hr, hown, hts, hK, hlk, hX⟩ := id C0
  refine lv_aload_n hx hb dX9_load_0 rfl (lv_at hl 0 rfl) ?_
  refine gf_9_1 hx hb hown hts hK hP wf_X9_19 dX9_load_1 ?_
  refine lv_aload_n hx hb dX9_load_4 rfl (lv_at hl 0 rfl) ?_
  refine gf_9_0 hx hb hown hts hK hP wf_X9_12 dX9_load_5 ?_
  refine gCVi (rest := []) C0 cal_X2_errorIn wl_X9_101 wi_X2_errorIn ws_X2_errorIn ⟨Nat.le_of_ble_eq_true rfl, Nat.le_of_ble_eq_true rfl⟩ ⟨Nat.le_of_ble_eq_true rfl, Nat.le_of_ble_eq_true rfl⟩ grv_2 [.ref (gB Γ + 1)] rfl (Nat.le_of_ble_eq_true rfl) hP hS hl.1 dX9_load_8 h (fun u hu => m_X2_errorIn l Γ g u hu) (fun u1 H locs h hP hS => ?_) rfl
  refine lv_bipush (v := -9) hx hb dX9_load_11 (by decide) ?_
  refine lv_icmp_eq (tgt := 26) hx hb dX9_load_13 (by decide) (fun c2 => ?_) (fun c2 => ?_)
  · replace h := gpos c2 h
    refine lv_aload_n hx hb dX9_load_26 rfl (lv_at hl 0 rfl) ?_
    refine gf_9_2 hx hb hown hts hK hP wf_X9_26 dX9_load_27 ?_
    refine lv_aload_n hx hb dX9_load_30 rfl (lv_at hl 0 rfl) ?_
    refine gf_9_1 hx hb hown hts hK hP wf_X9_19 dX9_load_31 ?_
    refine gCVv (rest := []) C0 cal_X0_take wl_X9_107 wi_X0_take ws_X0_take ⟨Nat.le_of_ble_eq_true rfl, Nat.le_of_ble_eq_true rfl⟩ ⟨Nat.le_of_ble_eq_true rfl, Nat.le_of_ble_eq_true rfl⟩ grv_0 [.ref (gB Γ + 3)] rfl (Nat.le_of_ble_eq_true rfl) hP hS hl.1 dX9_load_34 h (fun u hu => m_X0_take l Γ u1.2 u hu) (fun u3 H locs h hP hS => ?_) rfl
    refine lv_aload_n hx hb dX9_load_37 rfl (lv_at hl 0 rfl) ?_
    refine gf_9_3 hx hb hown hts hK hP wf_X9_35 dX9_load_38 ?_
    refine lv_aload_n hx hb dX9_load_41 rfl (lv_at hl 0 rfl) ?_
    refine gf_9_1 hx hb hown hts hK hP wf_X9_19 dX9_load_42 ?_
    refine gCVv (rest := []) C0 cal_X5_begin wl_X9_111 wi_X5_begin ws_X5_begin ⟨Nat.le_of_ble_eq_true rfl, Nat.le_of_ble_eq_true rfl⟩ ⟨Nat.le_of_ble_eq_true rfl, Nat.le_of_ble_eq_true rfl⟩ (grv_5 isSt_c16) [.ref (gB Γ + 3)] rfl (Nat.le_of_ble_eq_true rfl) hP hS hl.1 dX9_load_45 h (fun u hu => m_X5_begin l Γ isSt_c16 u3.2 u hu) (fun u4 H locs h hP hS => ?_) rfl
    refine lv_aload_n hx hb dX9_load_48 rfl (lv_at hl 0 rfl) ?_
    refine gf_9_4 hx hb hown hts hK hP wf_X9_42 dX9_load_49 ?_
    refine gCVv (rest := []) C0 cal_X1_forget wl_X9_114 wi_X1_forget ws_X1_forget ⟨Nat.le_of_ble_eq_true rfl, Nat.le_of_ble_eq_true rfl⟩ ⟨Nat.le_of_ble_eq_true rfl, Nat.le_of_ble_eq_true rfl⟩ grv_1 [] rfl (Nat.le_of_ble_eq_true rfl) hP hS hl.1 dX9_load_52 h (fun u hu => m_X1_forget l Γ u4.2 u hu) (fun u5 H locs h hP hS => ?_) rfl
    refine lv_iconst (v := 0) hx hb dX9_load_55 (by decide) ?_
    refine lv_istore_n (lv' := [(1, .int (0 : Int32)), (0, .ref (gB Γ + 0))]) hx hb dX9_load_56 rfl hl (by decide) rfl (fun ls hl => ?_)
    exact bk_X9_load_57 C0 hE hst  gFuel _ _ _ _ _ h hP hS (lv_sub hl [1, 0] rfl)
  · replace h := gneg c2 h
    exact gThrow C0 hE hst 2 (gth_2 gst_105) rfl hP hS hl.1 dX9_load_16 dX9_load_19 dX9_load_20 dX9_load_22 dX9_load_25 (Nat.le_of_ble_eq_true rfl) (Nat.le_of_ble_eq_true rfl) (Nat.le_of_ble_eq_true rfl) (Nat.le_of_ble_eq_true rfl) (Nat.le_of_ble_eq_true rfl) (Nat.le_of_ble_eq_true rfl) h
set_option maxHeartbeats 2000000 in
set_option maxRecDepth 20000 in
theorem m_X9_about (l : Launch) (hst : l.stackTraces = false) (Γ : gE)   (a1 : Int32) (g : gG) (z : (Int32 ⊕ Nat) × gG) (h : f_X9_about a1 g = some z) : gXi l yX9_about cX9_about 2 (some .int) 6 85 1 6 Γ [.ref (gB Γ + 0), .int a1] g z := by
  unfold f_X9_about at h
  refine gStartX (own := RX9) (by decide +kernel) rfl (Nat.le_of_ble_eq_true rfl) ?_
  intro p e s m below meth c C0 hE ls hl hP
  have hS : va_S (gA Γ) s.heap s.heap [] := va_S.rf
  have hl : lv_has ls 2 [(0, .ref (gB Γ + 0)), (1, .int a1)] := hl
  obtain ⟨hx, hb, hml, hr, hown, hts, hK, hlk, hX⟩ := id C0
  refine lv_iload_n hx hb dX9_about_0 rfl (lv_at hl 1 rfl) ?_
  by_cases c1 : a1 = (0 : Int32)
  · replace h := gpos c1 h
    refine lv_tableIn (tgt := 40) hx hb dX9_about_1 (by rw [c1]; decide) (by rw [c1]; decide) (by rw [c1]; rfl) (by decide) ?_
    refine lv_aload_n hx hb dX9_about_40 rfl (lv_at hl 0 rfl) ?_
    refine gf_9_2 hx hb hown hts hK hP wf_X9_26 dX9_about_41 ?_
    refine gCVi (rest := []) C0 cal_X0_count wl_X9_117 wi_X0_count ws_X0_count ⟨Nat.le_of_ble_eq_true rfl, Nat.le_of_ble_eq_true rfl⟩ ⟨Nat.le_of_ble_eq_true rfl, Nat.le_of_ble_eq_true rfl⟩ grv_0 [] rfl (Nat.le_of_ble_eq_true rfl) hP hS hl.1 dX9_about_44 h (fun u hu => m_X0_count l Γ g u hu) (fun u2 H locs h hP hS => ?_) rfl
    exact gxiret hx hb hr hlk hP hS (Nat.le_of_ble_eq_true rfl) (Nat.le_of_ble_eq_true rfl) dX9_about_47 h
  replace h := gneg c1 h
  by_cases c3 : a1 = (1 : Int32)
  · replace h := gpos c3 h
    refine lv_tableIn (tgt := 48) hx hb dX9_about_1 (by rw [c3]; decide) (by rw [c3]; decide) (by rw [c3]; rfl) (by decide) ?_
    refine lv_aload_n hx hb dX9_about_48 rfl (lv_at hl 0 rfl) ?_
    refine gf_9_3 hx hb hown hts hK hP wf_X9_35 dX9_about_49 ?_
    refine gCVi (rest := []) C0 cal_X5_teamCount wl_X9_120 wi_X5_teamCount ws_X5_teamCount ⟨Nat.le_of_ble_eq_true rfl, Nat.le_of_ble_eq_true rfl⟩ ⟨Nat.le_of_ble_eq_true rfl, Nat.le_of_ble_eq_true rfl⟩ (grv_5 isSt_c16) [] rfl (Nat.le_of_ble_eq_true rfl) hP hS hl.1 dX9_about_52 h (fun u hu => m_X5_teamCount l Γ isSt_c16 g u hu) (fun u4 H locs h hP hS => ?_) rfl
    exact gxiret hx hb hr hlk hP hS (Nat.le_of_ble_eq_true rfl) (Nat.le_of_ble_eq_true rfl) dX9_about_55 h
  replace h := gneg c3 h
  by_cases c5 : a1 = (2 : Int32)
  · replace h := gpos c5 h
    refine lv_tableIn (tgt := 56) hx hb dX9_about_1 (by rw [c5]; decide) (by rw [c5]; decide) (by rw [c5]; rfl) (by decide) ?_
    refine lv_aload_n hx hb dX9_about_56 rfl (lv_at hl 0 rfl) ?_
    refine gf_9_3 hx hb hown hts hK hP wf_X9_35 dX9_about_57 ?_
    refine lv_aload_n hx hb dX9_about_60 rfl (lv_at hl 0 rfl) ?_
    refine gf_9_2 hx hb hown hts hK hP wf_X9_26 dX9_about_61 ?_
    refine gCVi (rest := [.ref (gB Γ + 16)]) C0 cal_X0_chest wl_X9_123 wi_X0_chest ws_X0_chest ⟨Nat.le_of_ble_eq_true rfl, Nat.le_of_ble_eq_true rfl⟩ ⟨Nat.le_of_ble_eq_true rfl, Nat.le_of_ble_eq_true rfl⟩ grv_0 [] rfl (Nat.le_of_ble_eq_true rfl) hP hS hl.1 dX9_about_64 h (fun u hu => m_X0_chest l Γ g u hu) (fun u6 H locs h hP hS => ?_) rfl
    refine gCVi (rest := []) C0 cal_X5_teamsAt wl_X9_126 wi_X5_teamsAt ws_X5_teamsAt ⟨Nat.le_of_ble_eq_true rfl, Nat.le_of_ble_eq_true rfl⟩ ⟨Nat.le_of_ble_eq_true rfl, Nat.le_of_ble_eq_true rfl⟩ (grv_5 isSt_c16) [.int u6.1] rfl (Nat.le_of_ble_eq_true rfl) hP hS hl.1 dX9_about_67 h (fun u hu => m_X5_teamsAt l Γ isSt_c16 u6.1 u6.2 u hu) (fun u7 H locs h hP hS => ?_) rfl
    exact gxiret hx hb hr hlk hP hS (Nat.le_of_ble_eq_true rfl) (Nat.le_of_ble_eq_true rfl) dX9_about_70 h
  replace h := gneg c5 h
  by_cases c8 : a1 = (3 : Int32)
  · replace h := gpos c8 h
    refine lv_tableIn (tgt := 71) hx hb dX9_about_1 (by rw [c8]; decide) (by rw [c8]; decide) (by rw [c8]; rfl) (by decide) ?_
    refine lv_aload_n hx hb dX9_about_71 rfl (lv_at hl 0 rfl) ?_
    refine gf_9_3 hx hb hown hts hK hP wf_X9_35 dX9_about_72 ?_
    refine gCVi (rest := []) C0 cal_X5_greatestScore wl_X9_129 wi_X5_greatestScore ws_X5_greatestScore ⟨Nat.le_of_ble_eq_true rfl, Nat.le_of_ble_eq_true rfl⟩ ⟨Nat.le_of_ble_eq_true rfl, Nat.le_of_ble_eq_true rfl⟩ (grv_5 isSt_c16) [] rfl (Nat.le_of_ble_eq_true rfl) hP hS hl.1 dX9_about_75 h (fun u hu => m_X5_greatestScore l Γ isSt_c16 g u hu) (fun u9 H locs h hP hS => ?_) rfl
    exact gxiret hx hb hr hlk hP hS (Nat.le_of_ble_eq_true rfl) (Nat.le_of_ble_eq_true rfl) dX9_about_78 h
  replace h := gneg c8 h
  by_cases c10 : a1 = (4 : Int32)
  · replace h := gpos c10 h
    refine lv_tableIn (tgt := 79) hx hb dX9_about_1 (by rw [c10]; decide) (by rw [c10]; decide) (by rw [c10]; rfl) (by decide) ?_
    refine lv_aload_n hx hb dX9_about_79 rfl (lv_at hl 0 rfl) ?_
    refine gf_9_3 hx hb hown hts hK hP wf_X9_35 dX9_about_80 ?_
    refine gCVi (rest := []) C0 cal_X5_visitedByAny wl_X9_132 wi_X5_visitedByAny ws_X5_visitedByAny ⟨Nat.le_of_ble_eq_true rfl, Nat.le_of_ble_eq_true rfl⟩ ⟨Nat.le_of_ble_eq_true rfl, Nat.le_of_ble_eq_true rfl⟩ (grv_5 isSt_c16) [] rfl (Nat.le_of_ble_eq_true rfl) hP hS hl.1 dX9_about_83 h (fun u hu => m_X5_visitedByAny l Γ isSt_c16 g u hu) (fun u11 H locs h hP hS => ?_) rfl
    refine gCSi (rest := []) C0 cal_J6_bitCount_0f7a4 wl_X9_135 wt_J6_bitCount_0f7a4 ⟨Nat.le_of_ble_eq_true rfl, Nat.le_of_ble_eq_true rfl⟩ ⟨Nat.le_of_ble_eq_true rfl, Nat.le_of_ble_eq_true rfl⟩ [.int u11.1] rfl (Nat.le_of_ble_eq_true rfl) hP hS hl.1 dX9_about_86 h (fun u hu => m_J6_bitCount_0f7a4 l Γ u11.1 u11.2 u hu) (fun u12 H locs h hP hS => ?_) rfl
    exact gxiret hx hb hr hlk hP hS (Nat.le_of_ble_eq_true rfl) (Nat.le_of_ble_eq_true rfl) dX9_about_89 h
  replace h := gneg c10 h
  by_cases c13 : a1 = (5 : Int32)
  · replace h := gpos c13 h
    refine lv_tableIn (tgt := 90) hx hb dX9_about_1 (by rw [c13]; decide) (by rw [c13]; decide) (by rw [c13]; rfl) (by decide) ?_
    refine lv_aload_n hx hb dX9_about_90 rfl (lv_at hl 0 rfl) ?_
    refine gf_9_3 hx hb hown hts hK hP wf_X9_35 dX9_about_91 ?_
    refine gCVi (rest := []) C0 cal_X5_allHints wl_X9_140 wi_X5_allHints ws_X5_allHints ⟨Nat.le_of_ble_eq_true rfl, Nat.le_of_ble_eq_true rfl⟩ ⟨Nat.le_of_ble_eq_true rfl, Nat.le_of_ble_eq_true rfl⟩ (grv_5 isSt_c16) [] rfl (Nat.le_of_ble_eq_true rfl) hP hS hl.1 dX9_about_94 h (fun u hu => m_X5_allHints l Γ isSt_c16 g u hu) (fun u14 H locs h hP hS => ?_) rfl
    exact gxiret hx hb hr hlk hP hS (Nat.le_of_ble_eq_true rfl) (Nat.le_of_ble_eq_true rfl) dX9_about_97 h
  replace h := gneg c13 h
  have nc1 := gNe c1
  simp only [show ((0 : Int32)).toInt = 0 from by decide] at nc1
  have nc3 := gNe c3
  simp only [show ((1 : Int32)).toInt = 1 from by decide] at nc3
  have nc5 := gNe c5
  simp only [show ((2 : Int32)).toInt = 2 from by decide] at nc5
  have nc8 := gNe c8
  simp only [show ((3 : Int32)).toInt = 3 from by decide] at nc8
  have nc10 := gNe c10
  simp only [show ((4 : Int32)).toInt = 4 from by decide] at nc10
  have nc13 := gNe c13
  simp only [show ((5 : Int32)).toInt = 5 from by decide] at nc13
  refine lv_tableOut (tgt := 98) hx hb dX9_about_1 (gTabOut (by omega)) (by decide) ?_
  exact gThrow C0 hE hst 1 (gth_1 gst_143) rfl hP hS hl.1 dX9_about_98 dX9_about_101 dX9_about_102 dX9_about_104 dX9_about_107 (Nat.le_of_ble_eq_true rfl) (Nat.le_of_ble_eq_true rfl) (Nat.le_of_ble_eq_true rfl) (Nat.le_of_ble_eq_true rfl) (Nat.le_of_ble_eq_true rfl) (Nat.le_of_ble_eq_true rfl) h
set_option maxHeartbeats 2000000 in
set_option maxRecDepth 20000 in
theorem m_X9_requirePlace (l : Launch) (hst : l.stackTraces = false) (Γ : gE)   (a1 : Int32) (g : gG) (z : (Unit ⊕ Nat) × gG) (h : f_X9_requirePlace a1 g = some z) : gXv l yX9_requirePlace cX9_requirePlace 2 none 6 82 1 6 Γ [.ref (gB Γ + 0), .int a1] g z := by
  unfold f_X9_requirePlace at h
  refine gStartX (own := RX9) (by decide +kernel) rfl (Nat.le_of_ble_eq_true rfl) ?_
  intro p e s m below meth c C0 hE ls hl hP
  have hS : va_S (gA Γ) s.heap s.heap [] := va_S.rf
  have hl : lv_has ls 2 [(0, .ref (gB Γ + 0)), (1, .int a1)] := hl
  obtain ⟨hx, hb, hml, hr, hown, hts, hK, hlk, hX⟩ := id C0
  refine lv_aload_n hx hb dX9_requirePlace_0 rfl (lv_at hl 0 rfl) ?_
  refine gf_9_2 hx hb hown hts hK hP wf_X9_26 dX9_requirePlace_1 ?_
  refine lv_iload_n hx hb dX9_requirePlace_4 rfl (lv_at hl 1 rfl) ?_
  refine gCVi (rest := []) C0 cal_X0_hasPlace wl_X9_310 wi_X0_hasPlace ws_X0_hasPlace ⟨Nat.le_of_ble_eq_true rfl, Nat.le_of_ble_eq_true rfl⟩ ⟨Nat.le_of_ble_eq_true rfl, Nat.le_of_ble_eq_true rfl⟩ grv_0 [.int a1] rfl (Nat.le_of_ble_eq_true rfl) hP hS hl.1 dX9_requirePlace_5 h (fun u hu => m_X0_hasPlace l Γ a1 g u hu) (fun u1 H locs h hP hS => ?_) rfl
  refine lv_if_ne (tgt := 22) hx hb dX9_requirePlace_8 (by decide) (fun c2 => ?_) (fun c2 => ?_)
  · replace h := gneg c2 h
    exact gxvret hx hb hr hlk hP hS (Nat.le_of_ble_eq_true rfl) (Nat.le_of_ble_eq_true rfl) dX9_requirePlace_22 h
  · replace h := gpos c2 h
    exact gThrowW C0 hE hst 3 (gth_3 gst_315) rfl hP hS hl.1 dX9_requirePlace_11 dX9_requirePlace_14 dX9_requirePlace_15 dX9_requirePlace_18 dX9_requirePlace_21 (Nat.le_of_ble_eq_true rfl) (Nat.le_of_ble_eq_true rfl) (Nat.le_of_ble_eq_true rfl) (Nat.le_of_ble_eq_true rfl) (Nat.le_of_ble_eq_true rfl) (Nat.le_of_ble_eq_true rfl) h
set_option maxHeartbeats 2000000 in
set_option maxRecDepth 20000 in
theorem m_X9_place (l : Launch) (hst : l.stackTraces = false) (Γ : gE)   (a1 : Int32) (a2 : Int32) (g : gG) (z : (Int32 ⊕ Nat) × gG) (h : f_X9_place a1 a2 g = some z) : gXi l yX9_place cX9_place 3 (some .int) 7 103 2 12 Γ [.ref (gB Γ + 0), .int a1, .int a2] g z := by
  unfold f_X9_place at h
  refine gStartX (own := RX9) (by decide +kernel) rfl (Nat.le_of_ble_eq_true rfl) ?_
  intro p e s m below meth c C0 hE ls hl hP
  have hS : va_S (gA Γ) s.heap s.heap [] := va_S.rf
  have hl : lv_has ls 3 [(0, .ref (gB Γ + 0)), (1, .int a1), (2, .int a2)] := hl
  obtain ⟨hx, hb, hml, hr, hown, hts, hK, hlk, hX⟩ := id C0
  refine lv_aload_n hx hb dX9_place_0 rfl (lv_at hl 0 rfl) ?_
  refine lv_iload_n hx hb dX9_place_1 rfl (lv_at hl 1 rfl) ?_
  refine gXCVv (rest := []) C0 hE cal_X9_requirePlace wl_X9_145 wi_X9_requirePlace ws_X9_requirePlace ⟨Nat.le_of_ble_eq_true rfl, Nat.le_of_ble_eq_true rfl⟩ ⟨Nat.le_of_ble_eq_true rfl, Nat.le_of_ble_eq_true rfl⟩ ⟨Nat.le_of_ble_eq_true rfl, Nat.le_of_ble_eq_true rfl⟩ grv_9 [.int a1] rfl (Nat.le_of_ble_eq_true rfl) hP hS hl.1 dX9_place_2 h (fun u hu => m_X9_requirePlace l hst Γ a1 g u hu) (fun g1 H locs h hP hS => ?_) rfl
  refine lv_iload_n hx hb dX9_place_5 rfl (lv_at hl 2 rfl) ?_
  by_cases c2 : a2 = (0 : Int32)
  · replace h := gpos c2 h
    refine lv_tableIn (tgt := 36) hx hb dX9_place_6 (by rw [c2]; decide) (by rw [c2]; decide) (by rw [c2]; rfl) (by decide) ?_
    refine lv_aload_n hx hb dX9_place_36 rfl (lv_at hl 0 rfl) ?_
    refine gf_9_3 hx hb hown hts hK hP wf_X9_35 dX9_place_37 ?_
    refine lv_iload_n hx hb dX9_place_40 rfl (lv_at hl 1 rfl) ?_
    refine gCVi (rest := []) C0 cal_X5_xOf wl_X9_149 wi_X5_xOf ws_X5_xOf ⟨Nat.le_of_ble_eq_true rfl, Nat.le_of_ble_eq_true rfl⟩ ⟨Nat.le_of_ble_eq_true rfl, Nat.le_of_ble_eq_true rfl⟩ (grv_5 isSt_c16) [.int a1] rfl (Nat.le_of_ble_eq_true rfl) hP hS hl.1 dX9_place_41 h (fun u hu => m_X5_xOf l Γ isSt_c16 a1 g1 u hu) (fun u3 H locs h hP hS => ?_) rfl
    exact gxiret hx hb hr hlk hP hS (Nat.le_of_ble_eq_true rfl) (Nat.le_of_ble_eq_true rfl) dX9_place_44 h
  replace h := gneg c2 h
  by_cases c4 : a2 = (1 : Int32)
  · replace h := gpos c4 h
    refine lv_tableIn (tgt := 45) hx hb dX9_place_6 (by rw [c4]; decide) (by rw [c4]; decide) (by rw [c4]; rfl) (by decide) ?_
    refine lv_aload_n hx hb dX9_place_45 rfl (lv_at hl 0 rfl) ?_
    refine gf_9_3 hx hb hown hts hK hP wf_X9_35 dX9_place_46 ?_
    refine lv_iload_n hx hb dX9_place_49 rfl (lv_at hl 1 rfl) ?_
    refine gCVi (rest := []) C0 cal_X5_yOf wl_X9_152 wi_X5_yOf ws_X5_yOf ⟨Nat.le_of_ble_eq_true rfl, Nat.le_of_ble_eq_true rfl⟩ ⟨Nat.le_of_ble_eq_true rfl, Nat.le_of_ble_eq_true rfl⟩ (grv_5 isSt_c16) [.int a1] rfl (Nat.le_of_ble_eq_true rfl) hP hS hl.1 dX9_place_50 h (fun u hu => m_X5_yOf l Γ isSt_c16 a1 g1 u hu) (fun u5 H locs h hP hS => ?_) rfl
    exact gxiret hx hb hr hlk hP hS (Nat.le_of_ble_eq_true rfl) (Nat.le_of_ble_eq_true rfl) dX9_place_53 h
  replace h := gneg c4 h
  by_cases c6 : a2 = (2 : Int32)
  · replace h := gpos c6 h
    refine lv_tableIn (tgt := 54) hx hb dX9_place_6 (by rw [c6]; decide) (by rw [c6]; decide) (by rw [c6]; rfl) (by decide) ?_
    refine lv_aload_n hx hb dX9_place_54 rfl (lv_at hl 0 rfl) ?_
    refine gf_9_3 hx hb hown hts hK hP wf_X9_35 dX9_place_55 ?_
    refine lv_iload_n hx hb dX9_place_58 rfl (lv_at hl 1 rfl) ?_
    refine gCVi (rest := []) C0 cal_X5_teamsAt wl_X9_126 wi_X5_teamsAt ws_X5_teamsAt ⟨Nat.le_of_ble_eq_true rfl, Nat.le_of_ble_eq_true rfl⟩ ⟨Nat.le_of_ble_eq_true rfl, Nat.le_of_ble_eq_true rfl⟩ (grv_5 isSt_c16) [.int a1] rfl (Nat.le_of_ble_eq_true rfl) hP hS hl.1 dX9_place_59 h (fun u hu => m_X5_teamsAt l Γ isSt_c16 a1 g1 u hu) (fun u7 H locs h hP hS => ?_) rfl
    exact gxiret hx hb hr hlk hP hS (Nat.le_of_ble_eq_true rfl) (Nat.le_of_ble_eq_true rfl) dX9_place_62 h
  replace h := gneg c6 h
  by_cases c8 : a2 = (3 : Int32)
  · replace h := gpos c8 h
    refine lv_tableIn (tgt := 63) hx hb dX9_place_6 (by rw [c8]; decide) (by rw [c8]; decide) (by rw [c8]; rfl) (by decide) ?_
    refine lv_aload_n hx hb dX9_place_63 rfl (lv_at hl 0 rfl) ?_
    refine gf_9_3 hx hb hown hts hK hP wf_X9_35 dX9_place_64 ?_
    refine lv_iload_n hx hb dX9_place_67 rfl (lv_at hl 1 rfl) ?_
    refine gCVi (rest := []) C0 cal_X5_setsThatOpen wl_X9_155 wi_X5_setsThatOpen ws_X5_setsThatOpen ⟨Nat.le_of_ble_eq_true rfl, Nat.le_of_ble_eq_true rfl⟩ ⟨Nat.le_of_ble_eq_true rfl, Nat.le_of_ble_eq_true rfl⟩ (grv_5 isSt_c16) [.int a1] rfl (Nat.le_of_ble_eq_true rfl) hP hS hl.1 dX9_place_68 h (fun u hu => m_X5_setsThatOpen l Γ isSt_c16 a1 g1 u hu) (fun u9 H locs h hP hS => ?_) rfl
    exact gxiret hx hb hr hlk hP hS (Nat.le_of_ble_eq_true rfl) (Nat.le_of_ble_eq_true rfl) dX9_place_71 h
  replace h := gneg c8 h
  have nc2 := gNe c2
  simp only [show ((0 : Int32)).toInt = 0 from by decide] at nc2
  have nc4 := gNe c4
  simp only [show ((1 : Int32)).toInt = 1 from by decide] at nc4
  have nc6 := gNe c6
  simp only [show ((2 : Int32)).toInt = 2 from by decide] at nc6
  have nc8 := gNe c8
  simp only [show ((3 : Int32)).toInt = 3 from by decide] at nc8
  refine lv_tableOut (tgt := 72) hx hb dX9_place_6 (gTabOut (by omega)) (by decide) ?_
  exact gThrow C0 hE hst 1 (gth_1 gst_143) rfl hP hS hl.1 dX9_place_72 dX9_place_75 dX9_place_76 dX9_place_78 dX9_place_81 (Nat.le_of_ble_eq_true rfl) (Nat.le_of_ble_eq_true rfl) (Nat.le_of_ble_eq_true rfl) (Nat.le_of_ble_eq_true rfl) (Nat.le_of_ble_eq_true rfl) (Nat.le_of_ble_eq_true rfl) h
set_option maxHeartbeats 2000000 in
set_option maxRecDepth 20000 in
theorem bs_X9_holds_20 {p : Program} {l : Launch} {e : Env} {s : State} {m : MethodId} {args : Array Value} {below : List Frame} {meth : Method} {c : Code} {Γ : gE} (C0 : gCx p s m args meth c Γ RX9 cX9_holds 3 (some .boolean)) (hE : ∀ x ∈ c.exceptionTable.toList, False) (hst : l.stackTraces = false)   {z : (Int32 ⊕ Nat) × gG}   {g : gG} {H : Heap} {locs : List Loc} {ls : Array Slot}  (h : fs_X9_holds_20 g = some z) (hP : va_P (gD Γ) gcls (lay Γ g) H) (hS : va_S (gA Γ) s.heap H locs) (hl : lv_has ls 3 []) : W p l e (gRx 7 103 2 12) s m args below meth c H locs 1 6 (vx_MQ below (gQxi Γ z) (gXC Γ z) args s 2 12 (gA Γ)) (F0 m 20 ls []) := by
  unfold fs_X9_holds_20 at h
  obtain ⟨hx, hb, hml, hr, hown, hts, hK, hlk, hX⟩ := id C0
  exact gThrow C0 hE hst 1 (gth_1 gst_161) rfl hP hS hl.1 dX9_holds_20 dX9_holds_23 dX9_holds_24 dX9_holds_26 dX9_holds_29 (Nat.le_of_ble_eq_true rfl) (Nat.le_of_ble_eq_true rfl) (Nat.le_of_ble_eq_true rfl) (Nat.le_of_ble_eq_true rfl) (Nat.le_of_ble_eq_true rfl) (Nat.le_of_ble_eq_true rfl) h
set_option maxHeartbeats 2000000 in
set_option maxRecDepth 20000 in
theorem m_X9_holds (l : Launch) (hst : l.stackTraces = false) (Γ : gE)   (a1 : Int32) (a2 : Int32) (g : gG) (z : (Int32 ⊕ Nat) × gG) (h : f_X9_holds a1 a2 g = some z) : gXi l yX9_holds cX9_holds 3 (some .boolean) 7 103 2 12 Γ [.ref (gB Γ + 0), .int a1, .int a2] g z := by
  unfold f_X9_holds at h
  refine gStartX (own := RX9) (by decide +kernel) rfl (Nat.le_of_ble_eq_true rfl) ?_
  intro p e s m below meth c C0 hE ls hl hP
  have hS : va_S (gA Γ) s.heap s.heap [] := va_S.rf
  have hl : lv_has ls 3 [(0, .ref (gB Γ + 0)), (1, .int a1), (2, .int a2)] := hl
  obtain ⟨hx, hb, hml, hr, hown, hts, hK, hlk, hX⟩ := id C0
  refine lv_aload_n hx hb dX9_holds_0 rfl (lv_at hl 0 rfl) ?_
  refine lv_iload_n hx hb dX9_holds_1 rfl (lv_at hl 1 rfl) ?_
  refine gXCVv (rest := []) C0 hE cal_X9_requirePlace wl_X9_145 wi_X9_requirePlace ws_X9_requirePlace ⟨Nat.le_of_ble_eq_true rfl, Nat.le_of_ble_eq_true rfl⟩ ⟨Nat.le_of_ble_eq_true rfl, Nat.le_of_ble_eq_true rfl⟩ ⟨Nat.le_of_ble_eq_true rfl, Nat.le_of_ble_eq_true rfl⟩ grv_9 [.int a1] rfl (Nat.le_of_ble_eq_true rfl) hP hS hl.1 dX9_holds_2 h (fun u hu => m_X9_requirePlace l hst Γ a1 g u hu) (fun g1 H locs h hP hS => ?_) rfl
  refine lv_iload_n hx hb dX9_holds_5 rfl (lv_at hl 2 rfl) ?_
  refine lv_if_lt (tgt := 20) hx hb dX9_holds_6 (by decide) (fun c2 => ?_) (fun c2 => ?_)
  · replace h := gpos c2 h
    exact bs_X9_holds_20 C0 hE hst  h hP hS (lv_sub hl [] rfl)
  · replace h := gneg c2 h
    refine lv_iload_n hx hb dX9_holds_9 rfl (lv_at hl 2 rfl) ?_
    refine lv_aload_n hx hb dX9_holds_10 rfl (lv_at hl 0 rfl) ?_
    refine gf_9_2 hx hb hown hts hK hP wf_X9_26 dX9_holds_11 ?_
    refine gCVi (rest := [.int a2]) C0 cal_X0_allPlaces wl_X9_158 wi_X0_allPlaces ws_X0_allPlaces ⟨Nat.le_of_ble_eq_true rfl, Nat.le_of_ble_eq_true rfl⟩ ⟨Nat.le_of_ble_eq_true rfl, Nat.le_of_ble_eq_true rfl⟩ grv_0 [] rfl (Nat.le_of_ble_eq_true rfl) hP hS hl.1 dX9_holds_14 h (fun u hu => m_X0_allPlaces l Γ g1 u hu) (fun u3 H locs h hP hS => ?_) rfl
    refine lv_icmp_le (tgt := 30) hx hb dX9_holds_17 (by decide) (fun c4 => ?_) (fun c4 => ?_)
    · replace h := gpos c4 h
      refine lv_aload_n hx hb dX9_holds_30 rfl (lv_at hl 0 rfl) ?_
      refine gf_9_2 hx hb hown hts hK hP wf_X9_26 dX9_holds_31 ?_
      refine lv_iload_n hx hb dX9_holds_34 rfl (lv_at hl 1 rfl) ?_
      refine lv_iload_n hx hb dX9_holds_35 rfl (lv_at hl 2 rfl) ?_
      refine lv_aload_n hx hb dX9_holds_36 rfl (lv_at hl 0 rfl) ?_
      refine gf_9_3 hx hb hown hts hK hP wf_X9_35 dX9_holds_37 ?_
      refine gCVi (rest := [.int a2, .int a1, .ref (gB Γ + 14)]) C0 cal_X5_easedPlaces wl_X9_163 wi_X5_easedPlaces ws_X5_easedPlaces ⟨Nat.le_of_ble_eq_true rfl, Nat.le_of_ble_eq_true rfl⟩ ⟨Nat.le_of_ble_eq_true rfl, Nat.le_of_ble_eq_true rfl⟩ (grv_5 isSt_c16) [] rfl (Nat.le_of_ble_eq_true rfl) hP hS hl.1 dX9_holds_40 h (fun u hu => m_X5_easedPlaces l Γ isSt_c16 u3.2 u hu) (fun u5 H locs h hP hS => ?_) rfl
      refine gCVi (rest := []) C0 cal_X0_isHeld wl_X9_166 wi_X0_isHeld ws_X0_isHeld ⟨Nat.le_of_ble_eq_true rfl, Nat.le_of_ble_eq_true rfl⟩ ⟨Nat.le_of_ble_eq_true rfl, Nat.le_of_ble_eq_true rfl⟩ grv_0 [.int a1, .int a2, .int u5.1] rfl (Nat.le_of_ble_eq_true rfl) hP hS hl.1 dX9_holds_43 h (fun u hu => m_X0_isHeld l Γ a1 a2 u5.1 u5.2 u hu) (fun u6 H locs h hP hS => ?_) rfl
      exact gxzret hx hb hr hlk hP hS (Nat.le_of_ble_eq_true rfl) (Nat.le_of_ble_eq_true rfl) dX9_holds_46 h
    · replace h := gneg c4 h
      exact bs_X9_holds_20 C0 hE hst  h hP hS (lv_sub hl [] rfl)
set_option maxHeartbeats 2000000 in
set_option maxRecDepth 20000 in
theorem m_X9_requireTeam (l : Launch) (hst : l.stackTraces = false) (Γ : gE)   (a1 : Int32) (g : gG) (z : (Unit ⊕ Nat) × gG) (h : f_X9_requireTeam a1 g = some z) : gXv l yX9_requireTeam cX9_requireTeam 2 none 6 82 1 6 Γ [.ref (gB Γ + 0), .int a1] g z := by
  unfold f_X9_requireTeam at h
  refine gStartX (own := RX9) (by decide +kernel) rfl (Nat.le_of_ble_eq_true rfl) ?_
  intro p e s m below meth c C0 hE ls hl hP
  have hS : va_S (gA Γ) s.heap s.heap [] := va_S.rf
  have hl : lv_has ls 2 [(0, .ref (gB Γ + 0)), (1, .int a1)] := hl
  obtain ⟨hx, hb, hml, hr, hown, hts, hK, hlk, hX⟩ := id C0
  refine lv_aload_n hx hb dX9_requireTeam_0 rfl (lv_at hl 0 rfl) ?_
  refine gf_9_3 hx hb hown hts hK hP wf_X9_35 dX9_requireTeam_1 ?_
  refine lv_iload_n hx hb dX9_requireTeam_4 rfl (lv_at hl 1 rfl) ?_
  refine gCVi (rest := []) C0 cal_X5_hasTeam wl_X9_318 wi_X5_hasTeam ws_X5_hasTeam ⟨Nat.le_of_ble_eq_true rfl, Nat.le_of_ble_eq_true rfl⟩ ⟨Nat.le_of_ble_eq_true rfl, Nat.le_of_ble_eq_true rfl⟩ (grv_5 isSt_c16) [.int a1] rfl (Nat.le_of_ble_eq_true rfl) hP hS hl.1 dX9_requireTeam_5 h (fun u hu => m_X5_hasTeam l Γ isSt_c16 a1 g u hu) (fun u1 H locs h hP hS => ?_) rfl
  refine lv_if_ne (tgt := 22) hx hb dX9_requireTeam_8 (by decide) (fun c2 => ?_) (fun c2 => ?_)
  · replace h := gneg c2 h
    exact gxvret hx hb hr hlk hP hS (Nat.le_of_ble_eq_true rfl) (Nat.le_of_ble_eq_true rfl) dX9_requireTeam_22 h
  · replace h := gpos c2 h
    exact gThrowW C0 hE hst 3 (gth_3 gst_321) rfl hP hS hl.1 dX9_requireTeam_11 dX9_requireTeam_14 dX9_requireTeam_15 dX9_requireTeam_18 dX9_requireTeam_21 (Nat.le_of_ble_eq_true rfl) (Nat.le_of_ble_eq_true rfl) (Nat.le_of_ble_eq_true rfl) (Nat.le_of_ble_eq_true rfl) (Nat.le_of_ble_eq_true rfl) (Nat.le_of_ble_eq_true rfl) h
set_option maxHeartbeats 2000000 in
set_option maxRecDepth 20000 in
theorem m_X9_team (l : Launch) (hst : l.stackTraces = false) (Γ : gE)   (a1 : Int32) (a2 : Int32) (g : gG) (z : (Int32 ⊕ Nat) × gG) (h : f_X9_team a1 a2 g = some z) : gXi l yX9_team cX9_team 3 (some .int) 7 103 2 12 Γ [.ref (gB Γ + 0), .int a1, .int a2] g z := by
  unfold f_X9_team at h
  refine gStartX (own := RX9) (by decide +kernel) rfl (Nat.le_of_ble_eq_true rfl) ?_
  intro p e s m below meth c C0 hE ls hl hP
  have hS : va_S (gA Γ) s.heap s.heap [] := va_S.rf
  have hl : lv_has ls 3 [(0, .ref (gB Γ + 0)), (1, .int a1), (2, .int a2)] := hl
  obtain ⟨hx, hb, hml, hr, hown, hts, hK, hlk, hX⟩ := id C0
  refine lv_aload_n hx hb dX9_team_0 rfl (lv_at hl 0 rfl) ?_
  refine lv_iload_n hx hb dX9_team_1 rfl (lv_at hl 1 rfl) ?_
  refine gXCVv (rest := []) C0 hE cal_X9_requireTeam wl_X9_170 wi_X9_requireTeam ws_X9_requireTeam ⟨Nat.le_of_ble_eq_true rfl, Nat.le_of_ble_eq_true rfl⟩ ⟨Nat.le_of_ble_eq_true rfl, Nat.le_of_ble_eq_true rfl⟩ ⟨Nat.le_of_ble_eq_true rfl, Nat.le_of_ble_eq_true rfl⟩ grv_9 [.int a1] rfl (Nat.le_of_ble_eq_true rfl) hP hS hl.1 dX9_team_2 h (fun u hu => m_X9_requireTeam l hst Γ a1 g u hu) (fun g1 H locs h hP hS => ?_) rfl
  refine lv_iload_n hx hb dX9_team_5 rfl (lv_at hl 2 rfl) ?_
  by_cases c2 : a2 = (0 : Int32)
  · replace h := gpos c2 h
    refine lv_tableIn (tgt := 44) hx hb dX9_team_6 (by rw [c2]; decide) (by rw [c2]; decide) (by rw [c2]; rfl) (by decide) ?_
    refine lv_aload_n hx hb dX9_team_44 rfl (lv_at hl 0 rfl) ?_
    refine gf_9_3 hx hb hown hts hK hP wf_X9_35 dX9_team_45 ?_
    refine lv_iload_n hx hb dX9_team_48 rfl (lv_at hl 1 rfl) ?_
    refine gCVi (rest := []) C0 cal_X5_visitedBy wl_X9_173 wi_X5_visitedBy ws_X5_visitedBy ⟨Nat.le_of_ble_eq_true rfl, Nat.le_of_ble_eq_true rfl⟩ ⟨Nat.le_of_ble_eq_true rfl, Nat.le_of_ble_eq_true rfl⟩ (grv_5 isSt_c16) [.int a1] rfl (Nat.le_of_ble_eq_true rfl) hP hS hl.1 dX9_team_49 h (fun u hu => m_X5_visitedBy l Γ isSt_c16 a1 g1 u hu) (fun u3 H locs h hP hS => ?_) rfl
    exact gxiret hx hb hr hlk hP hS (Nat.le_of_ble_eq_true rfl) (Nat.le_of_ble_eq_true rfl) dX9_team_52 h
  replace h := gneg c2 h
  by_cases c4 : a2 = (1 : Int32)
  · replace h := gpos c4 h
    refine lv_tableIn (tgt := 53) hx hb dX9_team_6 (by rw [c4]; decide) (by rw [c4]; decide) (by rw [c4]; rfl) (by decide) ?_
    refine lv_aload_n hx hb dX9_team_53 rfl (lv_at hl 0 rfl) ?_
    refine gf_9_3 hx hb hown hts hK hP wf_X9_35 dX9_team_54 ?_
    refine lv_iload_n hx hb dX9_team_57 rfl (lv_at hl 1 rfl) ?_
    refine gCVi (rest := []) C0 cal_X5_visitsOf wl_X9_176 wi_X5_visitsOf ws_X5_visitsOf ⟨Nat.le_of_ble_eq_true rfl, Nat.le_of_ble_eq_true rfl⟩ ⟨Nat.le_of_ble_eq_true rfl, Nat.le_of_ble_eq_true rfl⟩ (grv_5 isSt_c16) [.int a1] rfl (Nat.le_of_ble_eq_true rfl) hP hS hl.1 dX9_team_58 h (fun u hu => m_X5_visitsOf l Γ isSt_c16 a1 g1 u hu) (fun u5 H locs h hP hS => ?_) rfl
    exact gxiret hx hb hr hlk hP hS (Nat.le_of_ble_eq_true rfl) (Nat.le_of_ble_eq_true rfl) dX9_team_61 h
  replace h := gneg c4 h
  by_cases c6 : a2 = (2 : Int32)
  · replace h := gpos c6 h
    refine lv_tableIn (tgt := 62) hx hb dX9_team_6 (by rw [c6]; decide) (by rw [c6]; decide) (by rw [c6]; rfl) (by decide) ?_
    refine lv_aload_n hx hb dX9_team_62 rfl (lv_at hl 0 rfl) ?_
    refine gf_9_3 hx hb hown hts hK hP wf_X9_35 dX9_team_63 ?_
    refine lv_iload_n hx hb dX9_team_66 rfl (lv_at hl 1 rfl) ?_
    refine gCVi (rest := []) C0 cal_X5_minutesOf wl_X9_179 wi_X5_minutesOf ws_X5_minutesOf ⟨Nat.le_of_ble_eq_true rfl, Nat.le_of_ble_eq_true rfl⟩ ⟨Nat.le_of_ble_eq_true rfl, Nat.le_of_ble_eq_true rfl⟩ (grv_5 isSt_c16) [.int a1] rfl (Nat.le_of_ble_eq_true rfl) hP hS hl.1 dX9_team_67 h (fun u hu => m_X5_minutesOf l Γ isSt_c16 a1 g1 u hu) (fun u7 H locs h hP hS => ?_) rfl
    exact gxiret hx hb hr hlk hP hS (Nat.le_of_ble_eq_true rfl) (Nat.le_of_ble_eq_true rfl) dX9_team_70 h
  replace h := gneg c6 h
  by_cases c8 : a2 = (3 : Int32)
  · replace h := gpos c8 h
    refine lv_tableIn (tgt := 71) hx hb dX9_team_6 (by rw [c8]; decide) (by rw [c8]; decide) (by rw [c8]; rfl) (by decide) ?_
    refine lv_aload_n hx hb dX9_team_71 rfl (lv_at hl 0 rfl) ?_
    refine gf_9_3 hx hb hown hts hK hP wf_X9_35 dX9_team_72 ?_
    refine lv_iload_n hx hb dX9_team_75 rfl (lv_at hl 1 rfl) ?_
    refine gCVi (rest := []) C0 cal_X5_hintsOf wl_X9_182 wi_X5_hintsOf ws_X5_hintsOf ⟨Nat.le_of_ble_eq_true rfl, Nat.le_of_ble_eq_true rfl⟩ ⟨Nat.le_of_ble_eq_true rfl, Nat.le_of_ble_eq_true rfl⟩ (grv_5 isSt_c16) [.int a1] rfl (Nat.le_of_ble_eq_true rfl) hP hS hl.1 dX9_team_76 h (fun u hu => m_X5_hintsOf l Γ isSt_c16 a1 g1 u hu) (fun u9 H locs h hP hS => ?_) rfl
    exact gxiret hx hb hr hlk hP hS (Nat.le_of_ble_eq_true rfl) (Nat.le_of_ble_eq_true rfl) dX9_team_79 h
  replace h := gneg c8 h
  by_cases c10 : a2 = (4 : Int32)
  · replace h := gpos c10 h
    refine lv_tableIn (tgt := 80) hx hb dX9_team_6 (by rw [c10]; decide) (by rw [c10]; decide) (by rw [c10]; rfl) (by decide) ?_
    refine lv_aload_n hx hb dX9_team_80 rfl (lv_at hl 0 rfl) ?_
    refine gf_9_3 hx hb hown hts hK hP wf_X9_35 dX9_team_81 ?_
    refine lv_iload_n hx hb dX9_team_84 rfl (lv_at hl 1 rfl) ?_
    refine gCVi (rest := []) C0 cal_X5_scoreOf wl_X9_185 wi_X5_scoreOf ws_X5_scoreOf ⟨Nat.le_of_ble_eq_true rfl, Nat.le_of_ble_eq_true rfl⟩ ⟨Nat.le_of_ble_eq_true rfl, Nat.le_of_ble_eq_true rfl⟩ (grv_5 isSt_c16) [.int a1] rfl (Nat.le_of_ble_eq_true rfl) hP hS hl.1 dX9_team_85 h (fun u hu => m_X5_scoreOf l Γ isSt_c16 a1 g1 u hu) (fun u11 H locs h hP hS => ?_) rfl
    exact gxiret hx hb hr hlk hP hS (Nat.le_of_ble_eq_true rfl) (Nat.le_of_ble_eq_true rfl) dX9_team_88 h
  replace h := gneg c10 h
  by_cases c12 : a2 = (5 : Int32)
  · replace h := gpos c12 h
    refine lv_tableIn (tgt := 89) hx hb dX9_team_6 (by rw [c12]; decide) (by rw [c12]; decide) (by rw [c12]; rfl) (by decide) ?_
    refine lv_aload_n hx hb dX9_team_89 rfl (lv_at hl 0 rfl) ?_
    refine gf_9_3 hx hb hown hts hK hP wf_X9_35 dX9_team_90 ?_
    refine lv_iload_n hx hb dX9_team_93 rfl (lv_at hl 1 rfl) ?_
    refine gCVi (rest := []) C0 cal_X5_lastOf wl_X9_188 wi_X5_lastOf ws_X5_lastOf ⟨Nat.le_of_ble_eq_true rfl, Nat.le_of_ble_eq_true rfl⟩ ⟨Nat.le_of_ble_eq_true rfl, Nat.le_of_ble_eq_true rfl⟩ (grv_5 isSt_c16) [.int a1] rfl (Nat.le_of_ble_eq_true rfl) hP hS hl.1 dX9_team_94 h (fun u hu => m_X5_lastOf l Γ isSt_c16 a1 g1 u hu) (fun u13 H locs h hP hS => ?_) rfl
    exact gxiret hx hb hr hlk hP hS (Nat.le_of_ble_eq_true rfl) (Nat.le_of_ble_eq_true rfl) dX9_team_97 h
  replace h := gneg c12 h
  have nc2 := gNe c2
  simp only [show ((0 : Int32)).toInt = 0 from by decide] at nc2
  have nc4 := gNe c4
  simp only [show ((1 : Int32)).toInt = 1 from by decide] at nc4
  have nc6 := gNe c6
  simp only [show ((2 : Int32)).toInt = 2 from by decide] at nc6
  have nc8 := gNe c8
  simp only [show ((3 : Int32)).toInt = 3 from by decide] at nc8
  have nc10 := gNe c10
  simp only [show ((4 : Int32)).toInt = 4 from by decide] at nc10
  have nc12 := gNe c12
  simp only [show ((5 : Int32)).toInt = 5 from by decide] at nc12
  refine lv_tableOut (tgt := 98) hx hb dX9_team_6 (gTabOut (by omega)) (by decide) ?_
  exact gThrow C0 hE hst 1 (gth_1 gst_143) rfl hP hS hl.1 dX9_team_98 dX9_team_101 dX9_team_102 dX9_team_104 dX9_team_107 (Nat.le_of_ble_eq_true rfl) (Nat.le_of_ble_eq_true rfl) (Nat.le_of_ble_eq_true rfl) (Nat.le_of_ble_eq_true rfl) (Nat.le_of_ble_eq_true rfl) (Nat.le_of_ble_eq_true rfl) h
set_option maxHeartbeats 2000000 in
set_option maxRecDepth 20000 in
theorem m_X9_trail (l : Launch) (hst : l.stackTraces = false) (Γ : gE)   (a1 : Int32) (a2 : Int32) (g : gG) (z : (Int32 ⊕ Nat) × gG) (h : f_X9_trail a1 a2 g = some z) : gXi l yX9_trail cX9_trail 3 (some .int) 7 103 2 12 Γ [.ref (gB Γ + 0), .int a1, .int a2] g z := by
  unfold f_X9_trail at h
  refine gStartX (own := RX9) (by decide +kernel) rfl (Nat.le_of_ble_eq_true rfl) ?_
  intro p e s m below meth c C0 hE ls hl hP
  have hS : va_S (gA Γ) s.heap s.heap [] := va_S.rf
  have hl : lv_has ls 3 [(0, .ref (gB Γ + 0)), (1, .int a1), (2, .int a2)] := hl
  obtain ⟨hx, hb, hml, hr, hown, hts, hK, hlk, hX⟩ := id C0
  refine lv_aload_n hx hb dX9_trail_0 rfl (lv_at hl 0 rfl) ?_
  refine lv_iload_n hx hb dX9_trail_1 rfl (lv_at hl 1 rfl) ?_
  refine gXCVv (rest := []) C0 hE cal_X9_requireTeam wl_X9_170 wi_X9_requireTeam ws_X9_requireTeam ⟨Nat.le_of_ble_eq_true rfl, Nat.le_of_ble_eq_true rfl⟩ ⟨Nat.le_of_ble_eq_true rfl, Nat.le_of_ble_eq_true rfl⟩ ⟨Nat.le_of_ble_eq_true rfl, Nat.le_of_ble_eq_true rfl⟩ grv_9 [.int a1] rfl (Nat.le_of_ble_eq_true rfl) hP hS hl.1 dX9_trail_2 h (fun u hu => m_X9_requireTeam l hst Γ a1 g u hu) (fun g1 H locs h hP hS => ?_) rfl
  refine lv_iload_n hx hb dX9_trail_5 rfl (lv_at hl 2 rfl) ?_
  refine lv_if_ge (tgt := 19) hx hb dX9_trail_6 (by decide) (fun c2 => ?_) (fun c2 => ?_)
  · replace h := gpos c2 h
    refine lv_aload_n hx hb dX9_trail_19 rfl (lv_at hl 0 rfl) ?_
    refine gf_9_3 hx hb hown hts hK hP wf_X9_35 dX9_trail_20 ?_
    refine lv_iload_n hx hb dX9_trail_23 rfl (lv_at hl 1 rfl) ?_
    refine lv_iload_n hx hb dX9_trail_24 rfl (lv_at hl 2 rfl) ?_
    refine gCVi (rest := []) C0 cal_X5_visitOf wl_X9_193 wi_X5_visitOf ws_X5_visitOf ⟨Nat.le_of_ble_eq_true rfl, Nat.le_of_ble_eq_true rfl⟩ ⟨Nat.le_of_ble_eq_true rfl, Nat.le_of_ble_eq_true rfl⟩ (grv_5 isSt_c16) [.int a1, .int a2] rfl (Nat.le_of_ble_eq_true rfl) hP hS hl.1 dX9_trail_25 h (fun u hu => m_X5_visitOf l Γ isSt_c16 a1 a2 g1 u hu) (fun u3 H locs h hP hS => ?_) rfl
    exact gxiret hx hb hr hlk hP hS (Nat.le_of_ble_eq_true rfl) (Nat.le_of_ble_eq_true rfl) dX9_trail_28 h
  · replace h := gneg c2 h
    exact gThrow C0 hE hst 1 (gth_1 gst_191) rfl hP hS hl.1 dX9_trail_9 dX9_trail_12 dX9_trail_13 dX9_trail_15 dX9_trail_18 (Nat.le_of_ble_eq_true rfl) (Nat.le_of_ble_eq_true rfl) (Nat.le_of_ble_eq_true rfl) (Nat.le_of_ble_eq_true rfl) (Nat.le_of_ble_eq_true rfl) (Nat.le_of_ble_eq_true rfl) h
set_option maxHeartbeats 2000000 in
set_option maxRecDepth 20000 in
theorem m_X9_open (l : Launch) (hst : l.stackTraces = false) (Γ : gE)   (a1 : Int32) (g : gG) (z : (Int32 ⊕ Nat) × gG) (h : f_X9_open a1 g = some z) : gXi l yX9_open cX9_open 2 (some .int) 7 103 1 6 Γ [.ref (gB Γ + 0), .int a1] g z := by
  unfold f_X9_open at h
  refine gStartX (own := RX9) (by decide +kernel) rfl (Nat.le_of_ble_eq_true rfl) ?_
  intro p e s m below meth c C0 hE ls hl hP
  have hS : va_S (gA Γ) s.heap s.heap [] := va_S.rf
  have hl : lv_has ls 2 [(0, .ref (gB Γ + 0)), (1, .int a1)] := hl
  obtain ⟨hx, hb, hml, hr, hown, hts, hK, hlk, hX⟩ := id C0
  refine lv_aload_n hx hb dX9_open_0 rfl (lv_at hl 0 rfl) ?_
  refine lv_iload_n hx hb dX9_open_1 rfl (lv_at hl 1 rfl) ?_
  refine gXCVv (rest := []) C0 hE cal_X9_requireTeam wl_X9_170 wi_X9_requireTeam ws_X9_requireTeam ⟨Nat.le_of_ble_eq_true rfl, Nat.le_of_ble_eq_true rfl⟩ ⟨Nat.le_of_ble_eq_true rfl, Nat.le_of_ble_eq_true rfl⟩ ⟨Nat.le_of_ble_eq_true rfl, Nat.le_of_ble_eq_true rfl⟩ grv_9 [.int a1] rfl (Nat.le_of_ble_eq_true rfl) hP hS hl.1 dX9_open_2 h (fun u hu => m_X9_requireTeam l hst Γ a1 g u hu) (fun g1 H locs h hP hS => ?_) rfl
  refine lv_aload_n hx hb dX9_open_5 rfl (lv_at hl 0 rfl) ?_
  refine gf_9_3 hx hb hown hts hK hP wf_X9_35 dX9_open_6 ?_
  refine lv_iload_n hx hb dX9_open_9 rfl (lv_at hl 1 rfl) ?_
  refine gCVi (rest := []) C0 cal_X5_openTo wl_X9_197 wi_X5_openTo ws_X5_openTo ⟨Nat.le_of_ble_eq_true rfl, Nat.le_of_ble_eq_true rfl⟩ ⟨Nat.le_of_ble_eq_true rfl, Nat.le_of_ble_eq_true rfl⟩ (grv_5 isSt_c16) [.int a1] rfl (Nat.le_of_ble_eq_true rfl) hP hS hl.1 dX9_open_10 h (fun u hu => m_X5_openTo l Γ isSt_c16 a1 g1 u hu) (fun u2 H locs h hP hS => ?_) rfl
  exact gxiret hx hb hr hlk hP hS (Nat.le_of_ble_eq_true rfl) (Nat.le_of_ble_eq_true rfl) dX9_open_13 h
set_option maxHeartbeats 2000000 in
set_option maxRecDepth 20000 in
theorem m_X9_addTeam (l : Launch) (hst : l.stackTraces = false) (Γ : gE)    (g : gG) (z : (Int32 ⊕ Nat) × gG) (h : f_X9_addTeam g = some z) : gXi l yX9_addTeam cX9_addTeam 1 (some .int) 6 82 1 6 Γ [.ref (gB Γ + 0)] g z := by
  unfold f_X9_addTeam at h
  refine gStartX (own := RX9) (by decide +kernel) rfl (Nat.le_of_ble_eq_true rfl) ?_
  intro p e s m below meth c C0 hE ls hl hP
  have hS : va_S (gA Γ) s.heap s.heap [] := va_S.rf
  have hl : lv_has ls 1 [(0, .ref (gB Γ + 0))] := hl
  obtain ⟨hx, hb, hml, hr, hown, hts, hK, hlk, hX⟩ := id C0
  refine lv_aload_n hx hb dX9_addTeam_0 rfl (lv_at hl 0 rfl) ?_
  refine gf_9_3 hx hb hown hts hK hP wf_X9_35 dX9_addTeam_1 ?_
  refine gCVi (rest := []) C0 cal_X5_hasRoom wl_X9_200 wi_X5_hasRoom ws_X5_hasRoom ⟨Nat.le_of_ble_eq_true rfl, Nat.le_of_ble_eq_true rfl⟩ ⟨Nat.le_of_ble_eq_true rfl, Nat.le_of_ble_eq_true rfl⟩ (grv_5 isSt_c16) [] rfl (Nat.le_of_ble_eq_true rfl) hP hS hl.1 dX9_addTeam_4 h (fun u hu => m_X5_hasRoom l Γ isSt_c16 g u hu) (fun u1 H locs h hP hS => ?_) rfl
  refine lv_if_ne (tgt := 20) hx hb dX9_addTeam_7 (by decide) (fun c2 => ?_) (fun c2 => ?_)
  · replace h := gneg c2 h
    refine lv_aload_n hx hb dX9_addTeam_20 rfl (lv_at hl 0 rfl) ?_
    refine gf_9_4 hx hb hown hts hK hP wf_X9_42 dX9_addTeam_21 ?_
    refine lv_aload_n hx hb dX9_addTeam_24 rfl (lv_at hl 0 rfl) ?_
    refine gf_9_3 hx hb hown hts hK hP wf_X9_35 dX9_addTeam_25 ?_
    refine gCVv (rest := []) C0 cal_X1_keep wl_X9_205 wi_X1_keep ws_X1_keep ⟨Nat.le_of_ble_eq_true rfl, Nat.le_of_ble_eq_true rfl⟩ ⟨Nat.le_of_ble_eq_true rfl, Nat.le_of_ble_eq_true rfl⟩ grv_1 [.ref (gB Γ + 16)] rfl (Nat.le_of_ble_eq_true rfl) hP hS hl.1 dX9_addTeam_28 h (fun u hu => m_X1_keep l Γ isSt_c16 u1.2 u hu) (fun u3 H locs h hP hS => ?_) rfl
    refine lv_aload_n hx hb dX9_addTeam_31 rfl (lv_at hl 0 rfl) ?_
    refine gf_9_3 hx hb hown hts hK hP wf_X9_35 dX9_addTeam_32 ?_
    refine gCVi (rest := []) C0 cal_X5_enrol wl_X9_209 wi_X5_enrol ws_X5_enrol ⟨Nat.le_of_ble_eq_true rfl, Nat.le_of_ble_eq_true rfl⟩ ⟨Nat.le_of_ble_eq_true rfl, Nat.le_of_ble_eq_true rfl⟩ (grv_5 isSt_c16) [] rfl (Nat.le_of_ble_eq_true rfl) hP hS hl.1 dX9_addTeam_35 h (fun u hu => m_X5_enrol l Γ isSt_c16 u3.2 u hu) (fun u4 H locs h hP hS => ?_) rfl
    exact gxiret hx hb hr hlk hP hS (Nat.le_of_ble_eq_true rfl) (Nat.le_of_ble_eq_true rfl) dX9_addTeam_38 h
  · replace h := gpos c2 h
    exact gThrow C0 hE hst 2 (gth_2 gst_203) rfl hP hS hl.1 dX9_addTeam_10 dX9_addTeam_13 dX9_addTeam_14 dX9_addTeam_16 dX9_addTeam_19 (Nat.le_of_ble_eq_true rfl) (Nat.le_of_ble_eq_true rfl) (Nat.le_of_ble_eq_true rfl) (Nat.le_of_ble_eq_true rfl) (Nat.le_of_ble_eq_true rfl) (Nat.le_of_ble_eq_true rfl) h
set_option maxHeartbeats 2000000 in
set_option maxRecDepth 20000 in
theorem m_X9_go (l : Launch) (hst : l.stackTraces = false) (Γ : gE)   (a1 : Int32) (a2 : Int32) (g : gG) (z : (Int32 ⊕ Nat) × gG) (h : f_X9_go a1 a2 g = some z) : gXi l yX9_go cX9_go 3 (some .int) 7 103 3 18 Γ [.ref (gB Γ + 0), .int a1, .int a2] g z := by
  unfold f_X9_go at h
  refine gStartX (own := RX9) (by decide +kernel) rfl (Nat.le_of_ble_eq_true rfl) ?_
  intro p e s m below meth c C0 hE ls hl hP
  have hS : va_S (gA Γ) s.heap s.heap [] := va_S.rf
  have hl : lv_has ls 3 [(0, .ref (gB Γ + 0)), (1, .int a1), (2, .int a2)] := hl
  obtain ⟨hx, hb, hml, hr, hown, hts, hK, hlk, hX⟩ := id C0
  refine lv_aload_n hx hb dX9_go_0 rfl (lv_at hl 0 rfl) ?_
  refine lv_iload_n hx hb dX9_go_1 rfl (lv_at hl 1 rfl) ?_
  refine gXCVv (rest := []) C0 hE cal_X9_requireTeam wl_X9_170 wi_X9_requireTeam ws_X9_requireTeam ⟨Nat.le_of_ble_eq_true rfl, Nat.le_of_ble_eq_true rfl⟩ ⟨Nat.le_of_ble_eq_true rfl, Nat.le_of_ble_eq_true rfl⟩ ⟨Nat.le_of_ble_eq_true rfl, Nat.le_of_ble_eq_true rfl⟩ grv_9 [.int a1] rfl (Nat.le_of_ble_eq_true rfl) hP hS hl.1 dX9_go_2 h (fun u hu => m_X9_requireTeam l hst Γ a1 g u hu) (fun g1 H locs h hP hS => ?_) rfl
  refine lv_aload_n hx hb dX9_go_5 rfl (lv_at hl 0 rfl) ?_
  refine lv_iload_n hx hb dX9_go_6 rfl (lv_at hl 2 rfl) ?_
  refine gXCVv (rest := []) C0 hE cal_X9_requirePlace wl_X9_145 wi_X9_requirePlace ws_X9_requirePlace ⟨Nat.le_of_ble_eq_true rfl, Nat.le_of_ble_eq_true rfl⟩ ⟨Nat.le_of_ble_eq_true rfl, Nat.le_of_ble_eq_true rfl⟩ ⟨Nat.le_of_ble_eq_true rfl, Nat.le_of_ble_eq_true rfl⟩ grv_9 [.int a2] rfl (Nat.le_of_ble_eq_true rfl) hP hS hl.1 dX9_go_7 h (fun u hu => m_X9_requirePlace l hst Γ a2 g1 u hu) (fun g2 H locs h hP hS => ?_) rfl
  refine lv_aload_n hx hb dX9_go_10 rfl (lv_at hl 0 rfl) ?_
  refine gf_9_3 hx hb hown hts hK hP wf_X9_35 dX9_go_11 ?_
  refine lv_iload_n hx hb dX9_go_14 rfl (lv_at hl 1 rfl) ?_
  refine lv_iload_n hx hb dX9_go_15 rfl (lv_at hl 2 rfl) ?_
  refine gCVi (rest := []) C0 cal_X5_canVisit wl_X9_212 wi_X5_canVisit ws_X5_canVisit ⟨Nat.le_of_ble_eq_true rfl, Nat.le_of_ble_eq_true rfl⟩ ⟨Nat.le_of_ble_eq_true rfl, Nat.le_of_ble_eq_true rfl⟩ (grv_5 isSt_c16) [.int a1, .int a2] rfl (Nat.le_of_ble_eq_true rfl) hP hS hl.1 dX9_go_16 h (fun u hu => m_X5_canVisit l Γ isSt_c16 a1 a2 g2 u hu) (fun u3 H locs h hP hS => ?_) rfl
  refine lv_if_ne (tgt := 32) hx hb dX9_go_19 (by decide) (fun c4 => ?_) (fun c4 => ?_)
  · replace h := gneg c4 h
    refine lv_aload_n hx hb dX9_go_32 rfl (lv_at hl 0 rfl) ?_
    refine gf_9_4 hx hb hown hts hK hP wf_X9_42 dX9_go_33 ?_
    refine lv_aload_n hx hb dX9_go_36 rfl (lv_at hl 0 rfl) ?_
    refine gf_9_3 hx hb hown hts hK hP wf_X9_35 dX9_go_37 ?_
    refine gCVv (rest := []) C0 cal_X1_keep wl_X9_205 wi_X1_keep ws_X1_keep ⟨Nat.le_of_ble_eq_true rfl, Nat.le_of_ble_eq_true rfl⟩ ⟨Nat.le_of_ble_eq_true rfl, Nat.le_of_ble_eq_true rfl⟩ grv_1 [.ref (gB Γ + 16)] rfl (Nat.le_of_ble_eq_true rfl) hP hS hl.1 dX9_go_40 h (fun u hu => m_X1_keep l Γ isSt_c16 u3.2 u hu) (fun u5 H locs h hP hS => ?_) rfl
    refine lv_aload_n hx hb dX9_go_43 rfl (lv_at hl 0 rfl) ?_
    refine gf_9_3 hx hb hown hts hK hP wf_X9_35 dX9_go_44 ?_
    refine lv_iload_n hx hb dX9_go_47 rfl (lv_at hl 1 rfl) ?_
    refine lv_iload_n hx hb dX9_go_48 rfl (lv_at hl 2 rfl) ?_
    refine gCVi (rest := []) C0 cal_X5_visit wl_X9_218 wi_X5_visit ws_X5_visit ⟨Nat.le_of_ble_eq_true rfl, Nat.le_of_ble_eq_true rfl⟩ ⟨Nat.le_of_ble_eq_true rfl, Nat.le_of_ble_eq_true rfl⟩ (grv_5 isSt_c16) [.int a1, .int a2] rfl (Nat.le_of_ble_eq_true rfl) hP hS hl.1 dX9_go_49 h (fun u hu => m_X5_visit l Γ isSt_c16 a1 a2 u5.2 u hu) (fun u6 H locs h hP hS => ?_) rfl
    exact gxiret hx hb hr hlk hP hS (Nat.le_of_ble_eq_true rfl) (Nat.le_of_ble_eq_true rfl) dX9_go_52 h
  · replace h := gpos c4 h
    exact gThrow C0 hE hst 2 (gth_2 gst_216) rfl hP hS hl.1 dX9_go_22 dX9_go_25 dX9_go_26 dX9_go_28 dX9_go_31 (Nat.le_of_ble_eq_true rfl) (Nat.le_of_ble_eq_true rfl) (Nat.le_of_ble_eq_true rfl) (Nat.le_of_ble_eq_true rfl) (Nat.le_of_ble_eq_true rfl) (Nat.le_of_ble_eq_true rfl) h
set_option maxHeartbeats 2000000 in
set_option maxRecDepth 20000 in
theorem m_X9_hint (l : Launch) (hst : l.stackTraces = false) (Γ : gE)   (a1 : Int32) (g : gG) (z : (Int32 ⊕ Nat) × gG) (h : f_X9_hint a1 g = some z) : gXi l yX9_hint cX9_hint 3 (some .int) 7 103 2 12 Γ [.ref (gB Γ + 0), .int a1] g z := by
  unfold f_X9_hint at h
  refine gStartX (own := RX9) (by decide +kernel) rfl (Nat.le_of_ble_eq_true rfl) ?_
  intro p e s m below meth c C0 hE ls hl hP
  have hS : va_S (gA Γ) s.heap s.heap [] := va_S.rf
  have hl : lv_has ls 3 [(0, .ref (gB Γ + 0)), (1, .int a1)] := hl
  obtain ⟨hx, hb, hml, hr, hown, hts, hK, hlk, hX⟩ := id C0
  refine lv_aload_n hx hb dX9_hint_0 rfl (lv_at hl 0 rfl) ?_
  refine lv_iload_n hx hb dX9_hint_1 rfl (lv_at hl 1 rfl) ?_
  refine gXCVv (rest := []) C0 hE cal_X9_requireTeam wl_X9_170 wi_X9_requireTeam ws_X9_requireTeam ⟨Nat.le_of_ble_eq_true rfl, Nat.le_of_ble_eq_true rfl⟩ ⟨Nat.le_of_ble_eq_true rfl, Nat.le_of_ble_eq_true rfl⟩ ⟨Nat.le_of_ble_eq_true rfl, Nat.le_of_ble_eq_true rfl⟩ grv_9 [.int a1] rfl (Nat.le_of_ble_eq_true rfl) hP hS hl.1 dX9_hint_2 h (fun u hu => m_X9_requireTeam l hst Γ a1 g u hu) (fun g1 H locs h hP hS => ?_) rfl
  refine lv_aload_n hx hb dX9_hint_5 rfl (lv_at hl 0 rfl) ?_
  refine gf_9_7 hx hb hown hts hK hP wf_X9_57 dX9_hint_6 ?_
  refine lv_aload_n hx hb dX9_hint_9 rfl (lv_at hl 0 rfl) ?_
  refine gf_9_3 hx hb hown hts hK hP wf_X9_35 dX9_hint_10 ?_
  refine lv_iload_n hx hb dX9_hint_13 rfl (lv_at hl 1 rfl) ?_
  refine gCVi (rest := []) C0 cal_X8_safeFor wl_X9_221 wi_X8_safeFor ws_X8_safeFor ⟨Nat.le_of_ble_eq_true rfl, Nat.le_of_ble_eq_true rfl⟩ ⟨Nat.le_of_ble_eq_true rfl, Nat.le_of_ble_eq_true rfl⟩ grv_8 [.ref (gB Γ + 16), .int a1] rfl (Nat.le_of_ble_eq_true rfl) hP hS hl.1 dX9_hint_14 h (fun u hu => m_X8_safeFor l Γ isSt_c16 a1 g1 u hu) (fun u2 H locs h hP hS => ?_) rfl
  refine lv_topi (fun x3 ex3 => ?_)
  replace h := gLetI ex3 h
  refine lv_istore_n (lv' := [(2, .int x3), (0, .ref (gB Γ + 0)), (1, .int a1)]) hx hb dX9_hint_17 rfl hl (by decide) rfl (fun ls hl => ?_)
  refine lv_iload_n hx hb dX9_hint_18 rfl (lv_at hl 0 rfl) ?_
  refine lv_if_ne (tgt := 32) hx hb dX9_hint_19 (by decide) (fun c4 => ?_) (fun c4 => ?_)
  · replace h := gneg c4 h
    refine lv_aload_n hx hb dX9_hint_32 rfl (lv_at hl 1 rfl) ?_
    refine gf_9_4 hx hb hown hts hK hP wf_X9_42 dX9_hint_33 ?_
    refine lv_aload_n hx hb dX9_hint_36 rfl (lv_at hl 1 rfl) ?_
    refine gf_9_3 hx hb hown hts hK hP wf_X9_35 dX9_hint_37 ?_
    refine gCVv (rest := []) C0 cal_X1_keep wl_X9_205 wi_X1_keep ws_X1_keep ⟨Nat.le_of_ble_eq_true rfl, Nat.le_of_ble_eq_true rfl⟩ ⟨Nat.le_of_ble_eq_true rfl, Nat.le_of_ble_eq_true rfl⟩ grv_1 [.ref (gB Γ + 16)] rfl (Nat.le_of_ble_eq_true rfl) hP hS hl.1 dX9_hint_40 h (fun u hu => m_X1_keep l Γ isSt_c16 u2.2 u hu) (fun u5 H locs h hP hS => ?_) rfl
    refine lv_aload_n hx hb dX9_hint_43 rfl (lv_at hl 1 rfl) ?_
    refine gf_9_3 hx hb hown hts hK hP wf_X9_35 dX9_hint_44 ?_
    refine lv_iload_n hx hb dX9_hint_47 rfl (lv_at hl 2 rfl) ?_
    refine gCVv (rest := []) C0 cal_X5_countHint wl_X9_227 wi_X5_countHint ws_X5_countHint ⟨Nat.le_of_ble_eq_true rfl, Nat.le_of_ble_eq_true rfl⟩ ⟨Nat.le_of_ble_eq_true rfl, Nat.le_of_ble_eq_true rfl⟩ (grv_5 isSt_c16) [.int a1] rfl (Nat.le_of_ble_eq_true rfl) hP hS hl.1 dX9_hint_48 h (fun u hu => m_X5_countHint l Γ isSt_c16 a1 u5.2 u hu) (fun u6 H locs h hP hS => ?_) rfl
    refine lv_iload_n hx hb dX9_hint_51 rfl (lv_at hl 0 rfl) ?_
    refine gCSi (rest := []) C0 cal_X9_smallestOf wl_X9_230 wt_X9_smallestOf ⟨Nat.le_of_ble_eq_true rfl, Nat.le_of_ble_eq_true rfl⟩ ⟨Nat.le_of_ble_eq_true rfl, Nat.le_of_ble_eq_true rfl⟩ [.int x3] rfl (Nat.le_of_ble_eq_true rfl) hP hS hl.1 dX9_hint_52 h (fun u hu => m_X9_smallestOf l Γ x3 u6.2 u hu) (fun u7 H locs h hP hS => ?_) rfl
    exact gxiret hx hb hr hlk hP hS (Nat.le_of_ble_eq_true rfl) (Nat.le_of_ble_eq_true rfl) dX9_hint_55 h
  · replace h := gpos c4 h
    exact gThrow C0 hE hst 2 (gth_2 gst_225) rfl hP hS hl.1 dX9_hint_22 dX9_hint_25 dX9_hint_26 dX9_hint_28 dX9_hint_31 (Nat.le_of_ble_eq_true rfl) (Nat.le_of_ble_eq_true rfl) (Nat.le_of_ble_eq_true rfl) (Nat.le_of_ble_eq_true rfl) (Nat.le_of_ble_eq_true rfl) (Nat.le_of_ble_eq_true rfl) h
set_option maxHeartbeats 2000000 in
set_option maxRecDepth 20000 in
theorem m_X9_giveUp (l : Launch) (hst : l.stackTraces = false) (Γ : gE)   (a1 : Int32) (g : gG) (z : (Int32 ⊕ Nat) × gG) (h : f_X9_giveUp a1 g = some z) : gXi l yX9_giveUp cX9_giveUp 2 (some .int) 7 103 1 6 Γ [.ref (gB Γ + 0), .int a1] g z := by
  unfold f_X9_giveUp at h
  refine gStartX (own := RX9) (by decide +kernel) rfl (Nat.le_of_ble_eq_true rfl) ?_
  intro p e s m below meth c C0 hE ls hl hP
  have hS : va_S (gA Γ) s.heap s.heap [] := va_S.rf
  have hl : lv_has ls 2 [(0, .ref (gB Γ + 0)), (1, .int a1)] := hl
  obtain ⟨hx, hb, hml, hr, hown, hts, hK, hlk, hX⟩ := id C0
  refine lv_aload_n hx hb dX9_giveUp_0 rfl (lv_at hl 0 rfl) ?_
  refine lv_iload_n hx hb dX9_giveUp_1 rfl (lv_at hl 1 rfl) ?_
  refine gXCVv (rest := []) C0 hE cal_X9_requireTeam wl_X9_170 wi_X9_requireTeam ws_X9_requireTeam ⟨Nat.le_of_ble_eq_true rfl, Nat.le_of_ble_eq_true rfl⟩ ⟨Nat.le_of_ble_eq_true rfl, Nat.le_of_ble_eq_true rfl⟩ ⟨Nat.le_of_ble_eq_true rfl, Nat.le_of_ble_eq_true rfl⟩ grv_9 [.int a1] rfl (Nat.le_of_ble_eq_true rfl) hP hS hl.1 dX9_giveUp_2 h (fun u hu => m_X9_requireTeam l hst Γ a1 g u hu) (fun g1 H locs h hP hS => ?_) rfl
  refine lv_aload_n hx hb dX9_giveUp_5 rfl (lv_at hl 0 rfl) ?_
  refine gf_9_4 hx hb hown hts hK hP wf_X9_42 dX9_giveUp_6 ?_
  refine lv_aload_n hx hb dX9_giveUp_9 rfl (lv_at hl 0 rfl) ?_
  refine gf_9_3 hx hb hown hts hK hP wf_X9_35 dX9_giveUp_10 ?_
  refine gCVv (rest := []) C0 cal_X1_keep wl_X9_205 wi_X1_keep ws_X1_keep ⟨Nat.le_of_ble_eq_true rfl, Nat.le_of_ble_eq_true rfl⟩ ⟨Nat.le_of_ble_eq_true rfl, Nat.le_of_ble_eq_true rfl⟩ grv_1 [.ref (gB Γ + 16)] rfl (Nat.le_of_ble_eq_true rfl) hP hS hl.1 dX9_giveUp_13 h (fun u hu => m_X1_keep l Γ isSt_c16 g1 u hu) (fun u2 H locs h hP hS => ?_) rfl
  refine lv_aload_n hx hb dX9_giveUp_16 rfl (lv_at hl 0 rfl) ?_
  refine gf_9_3 hx hb hown hts hK hP wf_X9_35 dX9_giveUp_17 ?_
  refine lv_iload_n hx hb dX9_giveUp_20 rfl (lv_at hl 1 rfl) ?_
  refine gCVi (rest := []) C0 cal_X5_dismiss wl_X9_233 wi_X5_dismiss ws_X5_dismiss ⟨Nat.le_of_ble_eq_true rfl, Nat.le_of_ble_eq_true rfl⟩ ⟨Nat.le_of_ble_eq_true rfl, Nat.le_of_ble_eq_true rfl⟩ (grv_5 isSt_c16) [.int a1] rfl (Nat.le_of_ble_eq_true rfl) hP hS hl.1 dX9_giveUp_21 h (fun u hu => m_X5_dismiss l Γ isSt_c16 a1 u2.2 u hu) (fun u3 H locs h hP hS => ?_) rfl
  exact gxiret hx hb hr hlk hP hS (Nat.le_of_ble_eq_true rfl) (Nat.le_of_ble_eq_true rfl) dX9_giveUp_24 h
set_option maxHeartbeats 2000000 in
set_option maxRecDepth 20000 in
theorem bs_X9_move_25 {p : Program} {l : Launch} {e : Env} {s : State} {m : MethodId} {args : Array Value} {below : List Frame} {meth : Method} {c : Code} {Γ : gE} (C0 : gCx p s m args meth c Γ RX9 cX9_move 4 (some .int)) (hE : ∀ x ∈ c.exceptionTable.toList, False) (hst : l.stackTraces = false)   {z : (Int32 ⊕ Nat) × gG}   {g : gG} {H : Heap} {locs : List Loc} {ls : Array Slot}  (h : fs_X9_move_25 g = some z) (hP : va_P (gD Γ) gcls (lay Γ g) H) (hS : va_S (gA Γ) s.heap H locs) (hl : lv_has ls 4 []) : W p l e (gRx 7 103 2 12) s m args below meth c H locs 1 6 (vx_MQ below (gQxi Γ z) (gXC Γ z) args s 2 12 (gA Γ)) (F0 m 25 ls []) := by
  unfold fs_X9_move_25 at h
  obtain ⟨hx, hb, hml, hr, hown, hts, hK, hlk, hX⟩ := id C0
  exact gThrow C0 hE hst 1 (gth_1 gst_236) rfl hP hS hl.1 dX9_move_25 dX9_move_28 dX9_move_29 dX9_move_31 dX9_move_34 (Nat.le_of_ble_eq_true rfl) (Nat.le_of_ble_eq_true rfl) (Nat.le_of_ble_eq_true rfl) (Nat.le_of_ble_eq_true rfl) (Nat.le_of_ble_eq_true rfl) (Nat.le_of_ble_eq_true rfl) h
set_option maxHeartbeats 2000000 in
set_option maxRecDepth 20000 in
theorem m_X9_move (l : Launch) (hst : l.stackTraces = false) (Γ : gE)   (a1 : Int32) (a2 : Int32) (a3 : Int32) (g : gG) (z : (Int32 ⊕ Nat) × gG) (h : f_X9_move a1 a2 a3 g = some z) : gXi l yX9_move cX9_move 4 (some .int) 7 103 2 12 Γ [.ref (gB Γ + 0), .int a1, .int a2, .int a3] g z := by
  unfold f_X9_move at h
  refine gStartX (own := RX9) (by decide +kernel) rfl (Nat.le_of_ble_eq_true rfl) ?_
  intro p e s m below meth c C0 hE ls hl hP
  have hS : va_S (gA Γ) s.heap s.heap [] := va_S.rf
  have hl : lv_has ls 4 [(0, .ref (gB Γ + 0)), (1, .int a1), (2, .int a2), (3, .int a3)] := hl
  obtain ⟨hx, hb, hml, hr, hown, hts, hK, hlk, hX⟩ := id C0
  refine lv_aload_n hx hb dX9_move_0 rfl (lv_at hl 0 rfl) ?_
  refine lv_iload_n hx hb dX9_move_1 rfl (lv_at hl 1 rfl) ?_
  refine gXCVv (rest := []) C0 hE cal_X9_requirePlace wl_X9_145 wi_X9_requirePlace ws_X9_requirePlace ⟨Nat.le_of_ble_eq_true rfl, Nat.le_of_ble_eq_true rfl⟩ ⟨Nat.le_of_ble_eq_true rfl, Nat.le_of_ble_eq_true rfl⟩ ⟨Nat.le_of_ble_eq_true rfl, Nat.le_of_ble_eq_true rfl⟩ grv_9 [.int a1] rfl (Nat.le_of_ble_eq_true rfl) hP hS hl.1 dX9_move_2 h (fun u hu => m_X9_requirePlace l hst Γ a1 g u hu) (fun g1 H locs h hP hS => ?_) rfl
  refine lv_iload_n hx hb dX9_move_5 rfl (lv_at hl 2 rfl) ?_
  refine lv_if_lt (tgt := 25) hx hb dX9_move_6 (by decide) (fun c2 => ?_) (fun c2 => ?_)
  · replace h := gpos c2 h
    exact bs_X9_move_25 C0 hE hst  h hP hS (lv_sub hl [] rfl)
  · replace h := gneg c2 h
    refine lv_iload_n hx hb dX9_move_9 rfl (lv_at hl 2 rfl) ?_
    refine lv_bipush (v := 9) hx hb dX9_move_10 (by decide) ?_
    refine lv_icmp_gt (tgt := 25) hx hb dX9_move_12 (by decide) (fun c3 => ?_) (fun c3 => ?_)
    · replace h := gpos c3 h
      exact bs_X9_move_25 C0 hE hst  h hP hS (lv_sub hl [] rfl)
    · replace h := gneg c3 h
      refine lv_iload_n hx hb dX9_move_15 rfl (lv_at hl 3 rfl) ?_
      refine lv_if_lt (tgt := 25) hx hb dX9_move_16 (by decide) (fun c4 => ?_) (fun c4 => ?_)
      · replace h := gpos c4 h
        exact bs_X9_move_25 C0 hE hst  h hP hS (lv_sub hl [] rfl)
      · replace h := gneg c4 h
        refine lv_iload_n hx hb dX9_move_19 rfl (lv_at hl 3 rfl) ?_
        refine lv_bipush (v := 9) hx hb dX9_move_20 (by decide) ?_
        refine lv_icmp_le (tgt := 35) hx hb dX9_move_22 (by decide) (fun c5 => ?_) (fun c5 => ?_)
        · replace h := gpos c5 h
          refine lv_aload_n hx hb dX9_move_35 rfl (lv_at hl 0 rfl) ?_
          refine gf_9_4 hx hb hown hts hK hP wf_X9_42 dX9_move_36 ?_
          refine lv_aload_n hx hb dX9_move_39 rfl (lv_at hl 0 rfl) ?_
          refine gf_9_3 hx hb hown hts hK hP wf_X9_35 dX9_move_40 ?_
          refine gCVv (rest := []) C0 cal_X1_keep wl_X9_205 wi_X1_keep ws_X1_keep ⟨Nat.le_of_ble_eq_true rfl, Nat.le_of_ble_eq_true rfl⟩ ⟨Nat.le_of_ble_eq_true rfl, Nat.le_of_ble_eq_true rfl⟩ grv_1 [.ref (gB Γ + 16)] rfl (Nat.le_of_ble_eq_true rfl) hP hS hl.1 dX9_move_43 h (fun u hu => m_X1_keep l Γ isSt_c16 g1 u hu) (fun u6 H locs h hP hS => ?_) rfl
          refine lv_aload_n hx hb dX9_move_46 rfl (lv_at hl 0 rfl) ?_
          refine gf_9_3 hx hb hown hts hK hP wf_X9_35 dX9_move_47 ?_
          refine lv_iload_n hx hb dX9_move_50 rfl (lv_at hl 1 rfl) ?_
          refine lv_iload_n hx hb dX9_move_51 rfl (lv_at hl 2 rfl) ?_
          refine lv_iload_n hx hb dX9_move_52 rfl (lv_at hl 3 rfl) ?_
          refine gCVi (rest := []) C0 cal_X5_put wl_X9_238 wi_X5_put ws_X5_put ⟨Nat.le_of_ble_eq_true rfl, Nat.le_of_ble_eq_true rfl⟩ ⟨Nat.le_of_ble_eq_true rfl, Nat.le_of_ble_eq_true rfl⟩ (grv_5 isSt_c16) [.int a1, .int a2, .int a3] rfl (Nat.le_of_ble_eq_true rfl) hP hS hl.1 dX9_move_53 h (fun u hu => m_X5_put l Γ isSt_c16 a1 a2 a3 u6.2 u hu) (fun u7 H locs h hP hS => ?_) rfl
          exact gxiret hx hb hr hlk hP hS (Nat.le_of_ble_eq_true rfl) (Nat.le_of_ble_eq_true rfl) dX9_move_56 h
        · replace h := gneg c5 h
          exact bs_X9_move_25 C0 hE hst  h hP hS (lv_sub hl [] rfl)
set_option maxHeartbeats 2000000 in
set_option maxRecDepth 20000 in
theorem m_X9_ease (l : Launch) (hst : l.stackTraces = false) (Γ : gE)   (a1 : Int32) (g : gG) (z : (Int32 ⊕ Nat) × gG) (h : f_X9_ease a1 g = some z) : gXi l yX9_ease cX9_ease 3 (some .int) 7 103 1 6 Γ [.ref (gB Γ + 0), .int a1] g z := by
  unfold f_X9_ease at h
  refine gStartX (own := RX9) (by decide +kernel) rfl (Nat.le_of_ble_eq_true rfl) ?_
  intro p e s m below meth c C0 hE ls hl hP
  have hS : va_S (gA Γ) s.heap s.heap [] := va_S.rf
  have hl : lv_has ls 3 [(0, .ref (gB Γ + 0)), (1, .int a1)] := hl
  obtain ⟨hx, hb, hml, hr, hown, hts, hK, hlk, hX⟩ := id C0
  refine lv_aload_n hx hb dX9_ease_0 rfl (lv_at hl 0 rfl) ?_
  refine lv_iload_n hx hb dX9_ease_1 rfl (lv_at hl 1 rfl) ?_
  refine gXCVv (rest := []) C0 hE cal_X9_requirePlace wl_X9_145 wi_X9_requirePlace ws_X9_requirePlace ⟨Nat.le_of_ble_eq_true rfl, Nat.le_of_ble_eq_true rfl⟩ ⟨Nat.le_of_ble_eq_true rfl, Nat.le_of_ble_eq_true rfl⟩ ⟨Nat.le_of_ble_eq_true rfl, Nat.le_of_ble_eq_true rfl⟩ grv_9 [.int a1] rfl (Nat.le_of_ble_eq_true rfl) hP hS hl.1 dX9_ease_2 h (fun u hu => m_X9_requirePlace l hst Γ a1 g u hu) (fun g1 H locs h hP hS => ?_) rfl
  refine lv_aload_n hx hb dX9_ease_5 rfl (lv_at hl 0 rfl) ?_
  refine gf_9_4 hx hb hown hts hK hP wf_X9_42 dX9_ease_6 ?_
  refine lv_aload_n hx hb dX9_ease_9 rfl (lv_at hl 0 rfl) ?_
  refine gf_9_3 hx hb hown hts hK hP wf_X9_35 dX9_ease_10 ?_
  refine gCVv (rest := []) C0 cal_X1_keep wl_X9_205 wi_X1_keep ws_X1_keep ⟨Nat.le_of_ble_eq_true rfl, Nat.le_of_ble_eq_true rfl⟩ ⟨Nat.le_of_ble_eq_true rfl, Nat.le_of_ble_eq_true rfl⟩ grv_1 [.ref (gB Γ + 16)] rfl (Nat.le_of_ble_eq_true rfl) hP hS hl.1 dX9_ease_13 h (fun u hu => m_X1_keep l Γ isSt_c16 g1 u hu) (fun u2 H locs h hP hS => ?_) rfl
  refine lv_aload_n hx hb dX9_ease_16 rfl (lv_at hl 0 rfl) ?_
  refine gf_9_3 hx hb hown hts hK hP wf_X9_35 dX9_ease_17 ?_
  refine lv_iload_n hx hb dX9_ease_20 rfl (lv_at hl 1 rfl) ?_
  refine gCVi (rest := []) C0 cal_X5_setsThatOpen wl_X9_155 wi_X5_setsThatOpen ws_X5_setsThatOpen ⟨Nat.le_of_ble_eq_true rfl, Nat.le_of_ble_eq_true rfl⟩ ⟨Nat.le_of_ble_eq_true rfl, Nat.le_of_ble_eq_true rfl⟩ (grv_5 isSt_c16) [.int a1] rfl (Nat.le_of_ble_eq_true rfl) hP hS hl.1 dX9_ease_21 h (fun u hu => m_X5_setsThatOpen l Γ isSt_c16 a1 u2.2 u hu) (fun u3 H locs h hP hS => ?_) rfl
  refine lv_topi (fun x4 ex4 => ?_)
  replace h := gLetI ex4 h
  refine lv_istore_n (lv' := [(2, .int x4), (0, .ref (gB Γ + 0)), (1, .int a1)]) hx hb dX9_ease_24 rfl hl (by decide) rfl (fun ls hl => ?_)
  refine lv_aload_n hx hb dX9_ease_25 rfl (lv_at hl 1 rfl) ?_
  refine gf_9_3 hx hb hown hts hK hP wf_X9_35 dX9_ease_26 ?_
  refine lv_iload_n hx hb dX9_ease_29 rfl (lv_at hl 2 rfl) ?_
  refine gCVv (rest := []) C0 cal_X5_makeEasy wl_X9_242 wi_X5_makeEasy ws_X5_makeEasy ⟨Nat.le_of_ble_eq_true rfl, Nat.le_of_ble_eq_true rfl⟩ ⟨Nat.le_of_ble_eq_true rfl, Nat.le_of_ble_eq_true rfl⟩ (grv_5 isSt_c16) [.int a1] rfl (Nat.le_of_ble_eq_true rfl) hP hS hl.1 dX9_ease_30 h (fun u hu => m_X5_makeEasy l Γ isSt_c16 a1 u3.2 u hu) (fun u5 H locs h hP hS => ?_) rfl
  refine lv_iload_n hx hb dX9_ease_33 rfl (lv_at hl 0 rfl) ?_
  exact gxiret hx hb hr hlk hP hS (Nat.le_of_ble_eq_true rfl) (Nat.le_of_ble_eq_true rfl) dX9_ease_34 h
set_option maxHeartbeats 2000000 in
set_option maxRecDepth 20000 in
theorem m_X9_undo (l : Launch) (hst : l.stackTraces = false) (Γ : gE)    (g : gG) (z : (Int32 ⊕ Nat) × gG) (h : f_X9_undo g = some z) : gXi l yX9_undo cX9_undo 1 (some .int) 6 82 1 6 Γ [.ref (gB Γ + 0)] g z := by
  unfold f_X9_undo at h
  refine gStartX (own := RX9) (by decide +kernel) rfl (Nat.le_of_ble_eq_true rfl) ?_
  intro p e s m below meth c C0 hE ls hl hP
  have hS : va_S (gA Γ) s.heap s.heap [] := va_S.rf
  have hl : lv_has ls 1 [(0, .ref (gB Γ + 0))] := hl
  obtain ⟨hx, hb, hml, hr, hown, hts, hK, hlk, hX⟩ := id C0
  refine lv_aload_n hx hb dX9_undo_0 rfl (lv_at hl 0 rfl) ?_
  refine gf_9_4 hx hb hown hts hK hP wf_X9_42 dX9_undo_1 ?_
  refine gCVi (rest := []) C0 cal_X1_isEmpty wl_X9_245 wi_X1_isEmpty ws_X1_isEmpty ⟨Nat.le_of_ble_eq_true rfl, Nat.le_of_ble_eq_true rfl⟩ ⟨Nat.le_of_ble_eq_true rfl, Nat.le_of_ble_eq_true rfl⟩ grv_1 [] rfl (Nat.le_of_ble_eq_true rfl) hP hS hl.1 dX9_undo_4 h (fun u hu => m_X1_isEmpty l Γ g u hu) (fun u1 H locs h hP hS => ?_) rfl
  refine lv_if_eq (tgt := 20) hx hb dX9_undo_7 (by decide) (fun c2 => ?_) (fun c2 => ?_)
  · replace h := gpos c2 h
    refine lv_aload_n hx hb dX9_undo_20 rfl (lv_at hl 0 rfl) ?_
    refine gf_9_4 hx hb hown hts hK hP wf_X9_42 dX9_undo_21 ?_
    refine lv_aload_n hx hb dX9_undo_24 rfl (lv_at hl 0 rfl) ?_
    refine gf_9_3 hx hb hown hts hK hP wf_X9_35 dX9_undo_25 ?_
    refine gCVi (rest := []) C0 cal_X1_takeBack wl_X9_250 wi_X1_takeBack ws_X1_takeBack ⟨Nat.le_of_ble_eq_true rfl, Nat.le_of_ble_eq_true rfl⟩ ⟨Nat.le_of_ble_eq_true rfl, Nat.le_of_ble_eq_true rfl⟩ grv_1 [.ref (gB Γ + 16)] rfl (Nat.le_of_ble_eq_true rfl) hP hS hl.1 dX9_undo_28 h (fun u hu => m_X1_takeBack l Γ isSt_c16 u1.2 u hu) (fun u3 H locs h hP hS => ?_) rfl
    exact gxiret hx hb hr hlk hP hS (Nat.le_of_ble_eq_true rfl) (Nat.le_of_ble_eq_true rfl) dX9_undo_31 h
  · replace h := gneg c2 h
    exact gThrow C0 hE hst 2 (gth_2 gst_248) rfl hP hS hl.1 dX9_undo_10 dX9_undo_13 dX9_undo_14 dX9_undo_16 dX9_undo_19 (Nat.le_of_ble_eq_true rfl) (Nat.le_of_ble_eq_true rfl) (Nat.le_of_ble_eq_true rfl) (Nat.le_of_ble_eq_true rfl) (Nat.le_of_ble_eq_true rfl) (Nat.le_of_ble_eq_true rfl) h
set_option maxHeartbeats 2000000 in
set_option maxRecDepth 20000 in
theorem m_X9_requireZeroOrOne (l : Launch) (hst : l.stackTraces = false) (Γ : gE)   (a0 : Int32) (g : gG) (z : (Unit ⊕ Nat) × gG) (h : f_X9_requireZeroOrOne a0 g = some z) : gXv l yX9_requireZeroOrOne cX9_requireZeroOrOne 1 none 6 82 1 6 Γ [.int a0] g z := by
  unfold f_X9_requireZeroOrOne at h
  refine gStartX (own := RX9) (by decide +kernel) rfl (Nat.le_of_ble_eq_true rfl) ?_
  intro p e s m below meth c C0 hE ls hl hP
  have hS : va_S (gA Γ) s.heap s.heap [] := va_S.rf
  have hl : lv_has ls 1 [(0, .int a0)] := hl
  obtain ⟨hx, hb, hml, hr, hown, hts, hK, hlk, hX⟩ := id C0
  refine lv_iload_n hx hb dX9_requireZeroOrOne_0 rfl (lv_at hl 0 rfl) ?_
  refine lv_if_eq (tgt := 19) hx hb dX9_requireZeroOrOne_1 (by decide) (fun c1 => ?_) (fun c1 => ?_)
  · replace h := gpos c1 h
    exact gxvret hx hb hr hlk hP hS (Nat.le_of_ble_eq_true rfl) (Nat.le_of_ble_eq_true rfl) dX9_requireZeroOrOne_19 h
  · replace h := gneg c1 h
    refine lv_iload_n hx hb dX9_requireZeroOrOne_4 rfl (lv_at hl 0 rfl) ?_
    refine lv_iconst (v := 1) hx hb dX9_requireZeroOrOne_5 (by decide) ?_
    refine lv_icmp_eq (tgt := 19) hx hb dX9_requireZeroOrOne_6 (by decide) (fun c2 => ?_) (fun c2 => ?_)
    · replace h := gpos c2 h
      exact gxvret hx hb hr hlk hP hS (Nat.le_of_ble_eq_true rfl) (Nat.le_of_ble_eq_true rfl) dX9_requireZeroOrOne_19 h
    · replace h := gneg c2 h
      exact gThrow C0 hE hst 1 (gth_1 gst_143) rfl hP hS hl.1 dX9_requireZeroOrOne_9 dX9_requireZeroOrOne_12 dX9_requireZeroOrOne_13 dX9_requireZeroOrOne_15 dX9_requireZeroOrOne_18 (Nat.le_of_ble_eq_true rfl) (Nat.le_of_ble_eq_true rfl) (Nat.le_of_ble_eq_true rfl) (Nat.le_of_ble_eq_true rfl) (Nat.le_of_ble_eq_true rfl) (Nat.le_of_ble_eq_true rfl) h
set_option maxHeartbeats 2000000 in
set_option maxRecDepth 20000 in
theorem m_X9_shortest (l : Launch) (hst : l.stackTraces = false) (Γ : gE)   (a1 : Int32) (a2 : Int32) (g : gG) (z : (Int32 ⊕ Nat) × gG) (h : f_X9_shortest a1 a2 g = some z) : gXi l yX9_shortest cX9_shortest 3 (some .int) 7 103 2 12 Γ [.ref (gB Γ + 0), .int a1, .int a2] g z := by
  unfold f_X9_shortest at h
  refine gStartX (own := RX9) (by decide +kernel) rfl (Nat.le_of_ble_eq_true rfl) ?_
  intro p e s m below meth c C0 hE ls hl hP
  have hS : va_S (gA Γ) s.heap s.heap [] := va_S.rf
  have hl : lv_has ls 3 [(0, .ref (gB Γ + 0)), (1, .int a1), (2, .int a2)] := hl
  obtain ⟨hx, hb, hml, hr, hown, hts, hK, hlk, hX⟩ := id C0
  refine lv_aload_n hx hb dX9_shortest_0 rfl (lv_at hl 0 rfl) ?_
  refine lv_iload_n hx hb dX9_shortest_1 rfl (lv_at hl 1 rfl) ?_
  refine gXCVv (rest := []) C0 hE cal_X9_requireTeam wl_X9_170 wi_X9_requireTeam ws_X9_requireTeam ⟨Nat.le_of_ble_eq_true rfl, Nat.le_of_ble_eq_true rfl⟩ ⟨Nat.le_of_ble_eq_true rfl, Nat.le_of_ble_eq_true rfl⟩ ⟨Nat.le_of_ble_eq_true rfl, Nat.le_of_ble_eq_true rfl⟩ grv_9 [.int a1] rfl (Nat.le_of_ble_eq_true rfl) hP hS hl.1 dX9_shortest_2 h (fun u hu => m_X9_requireTeam l hst Γ a1 g u hu) (fun g1 H locs h hP hS => ?_) rfl
  refine lv_iload_n hx hb dX9_shortest_5 rfl (lv_at hl 2 rfl) ?_
  refine gXCSv (rest := []) C0 hE cal_X9_requireZeroOrOne wl_X9_254 wt_X9_requireZeroOrOne ⟨Nat.le_of_ble_eq_true rfl, Nat.le_of_ble_eq_true rfl⟩ ⟨Nat.le_of_ble_eq_true rfl, Nat.le_of_ble_eq_true rfl⟩ ⟨Nat.le_of_ble_eq_true rfl, Nat.le_of_ble_eq_true rfl⟩ [.int a2] rfl (Nat.le_of_ble_eq_true rfl) hP hS hl.1 dX9_shortest_6 h (fun u hu => m_X9_requireZeroOrOne l hst Γ a2 g1 u hu) (fun g2 H locs h hP hS => ?_) rfl
  refine lv_iload_n hx hb dX9_shortest_9 rfl (lv_at hl 2 rfl) ?_
  refine lv_if_ne (tgt := 28) hx hb dX9_shortest_10 (by decide) (fun c3 => ?_) (fun c3 => ?_)
  · replace h := gneg c3 h
    refine lv_aload_n hx hb dX9_shortest_28 rfl (lv_at hl 0 rfl) ?_
    refine gf_9_7 hx hb hown hts hK hP wf_X9_57 dX9_shortest_29 ?_
    refine lv_aload_n hx hb dX9_shortest_32 rfl (lv_at hl 0 rfl) ?_
    refine gf_9_3 hx hb hown hts hK hP wf_X9_35 dX9_shortest_33 ?_
    refine lv_iload_n hx hb dX9_shortest_36 rfl (lv_at hl 1 rfl) ?_
    refine gCVi (rest := []) C0 cal_X8_firstOfShortest wl_X9_260 wi_X8_firstOfShortest ws_X8_firstOfShortest ⟨Nat.le_of_ble_eq_true rfl, Nat.le_of_ble_eq_true rfl⟩ ⟨Nat.le_of_ble_eq_true rfl, Nat.le_of_ble_eq_true rfl⟩ grv_8 [.ref (gB Γ + 16), .int a1] rfl (Nat.le_of_ble_eq_true rfl) hP hS hl.1 dX9_shortest_37 h (fun u hu => m_X8_firstOfShortest l Γ isSt_c16 a1 g2 u hu) (fun u4 H locs h hP hS => ?_) rfl
    exact gxiret hx hb hr hlk hP hS (Nat.le_of_ble_eq_true rfl) (Nat.le_of_ble_eq_true rfl) dX9_shortest_40 h
  · replace h := gpos c3 h
    refine lv_aload_n hx hb dX9_shortest_13 rfl (lv_at hl 0 rfl) ?_
    refine gf_9_7 hx hb hown hts hK hP wf_X9_57 dX9_shortest_14 ?_
    refine lv_aload_n hx hb dX9_shortest_17 rfl (lv_at hl 0 rfl) ?_
    refine gf_9_3 hx hb hown hts hK hP wf_X9_35 dX9_shortest_18 ?_
    refine lv_iload_n hx hb dX9_shortest_21 rfl (lv_at hl 1 rfl) ?_
    refine gCVi (rest := []) C0 cal_X8_fewestVisits wl_X9_257 wi_X8_fewestVisits ws_X8_fewestVisits ⟨Nat.le_of_ble_eq_true rfl, Nat.le_of_ble_eq_true rfl⟩ ⟨Nat.le_of_ble_eq_true rfl, Nat.le_of_ble_eq_true rfl⟩ grv_8 [.ref (gB Γ + 16), .int a1] rfl (Nat.le_of_ble_eq_true rfl) hP hS hl.1 dX9_shortest_22 h (fun u hu => m_X8_fewestVisits l Γ isSt_c16 a1 g2 u hu) (fun u5 H locs h hP hS => ?_) rfl
    refine lv_goto (tgt := 40) hx hb dX9_shortest_25 (by decide) ?_
    exact gxiret hx hb hr hlk hP hS (Nat.le_of_ble_eq_true rfl) (Nat.le_of_ble_eq_true rfl) dX9_shortest_40 h
set_option maxHeartbeats 2000000 in
set_option maxRecDepth 20000 in
theorem m_X9_quickest (l : Launch) (hst : l.stackTraces = false) (Γ : gE)   (a1 : Int32) (a2 : Int32) (g : gG) (z : (Int32 ⊕ Nat) × gG) (h : f_X9_quickest a1 a2 g = some z) : gXi l yX9_quickest cX9_quickest 3 (some .int) 7 124 2 12 Γ [.ref (gB Γ + 0), .int a1, .int a2] g z := by
  unfold f_X9_quickest at h
  refine gStartX (own := RX9) (by decide +kernel) rfl (Nat.le_of_ble_eq_true rfl) ?_
  intro p e s m below meth c C0 hE ls hl hP
  have hS : va_S (gA Γ) s.heap s.heap [] := va_S.rf
  have hl : lv_has ls 3 [(0, .ref (gB Γ + 0)), (1, .int a1), (2, .int a2)] := hl
  obtain ⟨hx, hb, hml, hr, hown, hts, hK, hlk, hX⟩ := id C0
  refine lv_aload_n hx hb dX9_quickest_0 rfl (lv_at hl 0 rfl) ?_
  refine lv_iload_n hx hb dX9_quickest_1 rfl (lv_at hl 1 rfl) ?_
  refine gXCVv (rest := []) C0 hE cal_X9_requireTeam wl_X9_170 wi_X9_requireTeam ws_X9_requireTeam ⟨Nat.le_of_ble_eq_true rfl, Nat.le_of_ble_eq_true rfl⟩ ⟨Nat.le_of_ble_eq_true rfl, Nat.le_of_ble_eq_true rfl⟩ ⟨Nat.le_of_ble_eq_true rfl, Nat.le_of_ble_eq_true rfl⟩ grv_9 [.int a1] rfl (Nat.le_of_ble_eq_true rfl) hP hS hl.1 dX9_quickest_2 h (fun u hu => m_X9_requireTeam l hst Γ a1 g u hu) (fun g1 H locs h hP hS => ?_) rfl
  refine lv_iload_n hx hb dX9_quickest_5 rfl (lv_at hl 2 rfl) ?_
  refine gXCSv (rest := []) C0 hE cal_X9_requireZeroOrOne wl_X9_254 wt_X9_requireZeroOrOne ⟨Nat.le_of_ble_eq_true rfl, Nat.le_of_ble_eq_true rfl⟩ ⟨Nat.le_of_ble_eq_true rfl, Nat.le_of_ble_eq_true rfl⟩ ⟨Nat.le_of_ble_eq_true rfl, Nat.le_of_ble_eq_true rfl⟩ [.int a2] rfl (Nat.le_of_ble_eq_true rfl) hP hS hl.1 dX9_quickest_6 h (fun u hu => m_X9_requireZeroOrOne l hst Γ a2 g1 u hu) (fun g2 H locs h hP hS => ?_) rfl
  refine lv_iload_n hx hb dX9_quickest_9 rfl (lv_at hl 2 rfl) ?_
  refine lv_if_ne (tgt := 28) hx hb dX9_quickest_10 (by decide) (fun c3 => ?_) (fun c3 => ?_)
  · replace h := gneg c3 h
    refine lv_aload_n hx hb dX9_quickest_28 rfl (lv_at hl 0 rfl) ?_
    refine gf_9_7 hx hb hown hts hK hP wf_X9_57 dX9_quickest_29 ?_
    refine lv_aload_n hx hb dX9_quickest_32 rfl (lv_at hl 0 rfl) ?_
    refine gf_9_3 hx hb hown hts hK hP wf_X9_35 dX9_quickest_33 ?_
    refine lv_iload_n hx hb dX9_quickest_36 rfl (lv_at hl 1 rfl) ?_
    refine gCVi (rest := []) C0 cal_X8_firstOfQuickest wl_X9_266 wi_X8_firstOfQuickest ws_X8_firstOfQuickest ⟨Nat.le_of_ble_eq_true rfl, Nat.le_of_ble_eq_true rfl⟩ ⟨Nat.le_of_ble_eq_true rfl, Nat.le_of_ble_eq_true rfl⟩ grv_8 [.ref (gB Γ + 16), .int a1] rfl (Nat.le_of_ble_eq_true rfl) hP hS hl.1 dX9_quickest_37 h (fun u hu => m_X8_firstOfQuickest l Γ isSt_c16 a1 g2 u hu) (fun u4 H locs h hP hS => ?_) rfl
    exact gxiret hx hb hr hlk hP hS (Nat.le_of_ble_eq_true rfl) (Nat.le_of_ble_eq_true rfl) dX9_quickest_40 h
  · replace h := gpos c3 h
    refine lv_aload_n hx hb dX9_quickest_13 rfl (lv_at hl 0 rfl) ?_
    refine gf_9_7 hx hb hown hts hK hP wf_X9_57 dX9_quickest_14 ?_
    refine lv_aload_n hx hb dX9_quickest_17 rfl (lv_at hl 0 rfl) ?_
    refine gf_9_3 hx hb hown hts hK hP wf_X9_35 dX9_quickest_18 ?_
    refine lv_iload_n hx hb dX9_quickest_21 rfl (lv_at hl 1 rfl) ?_
    refine gCVi (rest := []) C0 cal_X8_fewestMinutes wl_X9_263 wi_X8_fewestMinutes ws_X8_fewestMinutes ⟨Nat.le_of_ble_eq_true rfl, Nat.le_of_ble_eq_true rfl⟩ ⟨Nat.le_of_ble_eq_true rfl, Nat.le_of_ble_eq_true rfl⟩ grv_8 [.ref (gB Γ + 16), .int a1] rfl (Nat.le_of_ble_eq_true rfl) hP hS hl.1 dX9_quickest_22 h (fun u hu => m_X8_fewestMinutes l Γ isSt_c16 a1 g2 u hu) (fun u5 H locs h hP hS => ?_) rfl
    refine lv_goto (tgt := 40) hx hb dX9_quickest_25 (by decide) ?_
    exact gxiret hx hb hr hlk hP hS (Nat.le_of_ble_eq_true rfl) (Nat.le_of_ble_eq_true rfl) dX9_quickest_40 h
set_option maxHeartbeats 2000000 in
set_option maxRecDepth 20000 in
theorem m_X9_orders (l : Launch) (hst : l.stackTraces = false) (Γ : gE)   (a1 : Int32) (g : gG) (z : (Int32 ⊕ Nat) × gG) (h : f_X9_orders a1 g = some z) : gXi l yX9_orders cX9_orders 2 (some .int) 7 103 1 6 Γ [.ref (gB Γ + 0), .int a1] g z := by
  unfold f_X9_orders at h
  refine gStartX (own := RX9) (by decide +kernel) rfl (Nat.le_of_ble_eq_true rfl) ?_
  intro p e s m below meth c C0 hE ls hl hP
  have hS : va_S (gA Γ) s.heap s.heap [] := va_S.rf
  have hl : lv_has ls 2 [(0, .ref (gB Γ + 0)), (1, .int a1)] := hl
  obtain ⟨hx, hb, hml, hr, hown, hts, hK, hlk, hX⟩ := id C0
  refine lv_aload_n hx hb dX9_orders_0 rfl (lv_at hl 0 rfl) ?_
  refine lv_iload_n hx hb dX9_orders_1 rfl (lv_at hl 1 rfl) ?_
  refine gXCVv (rest := []) C0 hE cal_X9_requireTeam wl_X9_170 wi_X9_requireTeam ws_X9_requireTeam ⟨Nat.le_of_ble_eq_true rfl, Nat.le_of_ble_eq_true rfl⟩ ⟨Nat.le_of_ble_eq_true rfl, Nat.le_of_ble_eq_true rfl⟩ ⟨Nat.le_of_ble_eq_true rfl, Nat.le_of_ble_eq_true rfl⟩ grv_9 [.int a1] rfl (Nat.le_of_ble_eq_true rfl) hP hS hl.1 dX9_orders_2 h (fun u hu => m_X9_requireTeam l hst Γ a1 g u hu) (fun g1 H locs h hP hS => ?_) rfl
  refine lv_aload_n hx hb dX9_orders_5 rfl (lv_at hl 0 rfl) ?_
  refine gf_9_7 hx hb hown hts hK hP wf_X9_57 dX9_orders_6 ?_
  refine lv_aload_n hx hb dX9_orders_9 rfl (lv_at hl 0 rfl) ?_
  refine gf_9_3 hx hb hown hts hK hP wf_X9_35 dX9_orders_10 ?_
  refine lv_iload_n hx hb dX9_orders_13 rfl (lv_at hl 1 rfl) ?_
  refine gCVi (rest := []) C0 cal_X8_ordersOf wl_X9_269 wi_X8_ordersOf ws_X8_ordersOf ⟨Nat.le_of_ble_eq_true rfl, Nat.le_of_ble_eq_true rfl⟩ ⟨Nat.le_of_ble_eq_true rfl, Nat.le_of_ble_eq_true rfl⟩ grv_8 [.ref (gB Γ + 16), .int a1] rfl (Nat.le_of_ble_eq_true rfl) hP hS hl.1 dX9_orders_14 h (fun u hu => m_X8_ordersOf l Γ isSt_c16 a1 g1 u hu) (fun u2 H locs h hP hS => ?_) rfl
  exact gxiret hx hb hr hlk hP hS (Nat.le_of_ble_eq_true rfl) (Nat.le_of_ble_eq_true rfl) dX9_orders_17 h
set_option maxHeartbeats 2000000 in
set_option maxRecDepth 20000 in
theorem m_X9_safe (l : Launch) (hst : l.stackTraces = false) (Γ : gE)   (a1 : Int32) (g : gG) (z : (Int32 ⊕ Nat) × gG) (h : f_X9_safe a1 g = some z) : gXi l yX9_safe cX9_safe 2 (some .int) 7 103 1 6 Γ [.ref (gB Γ + 0), .int a1] g z := by
  unfold f_X9_safe at h
  refine gStartX (own := RX9) (by decide +kernel) rfl (Nat.le_of_ble_eq_true rfl) ?_
  intro p e s m below meth c C0 hE ls hl hP
  have hS : va_S (gA Γ) s.heap s.heap [] := va_S.rf
  have hl : lv_has ls 2 [(0, .ref (gB Γ + 0)), (1, .int a1)] := hl
  obtain ⟨hx, hb, hml, hr, hown, hts, hK, hlk, hX⟩ := id C0
  refine lv_aload_n hx hb dX9_safe_0 rfl (lv_at hl 0 rfl) ?_
  refine lv_iload_n hx hb dX9_safe_1 rfl (lv_at hl 1 rfl) ?_
  refine gXCVv (rest := []) C0 hE cal_X9_requireTeam wl_X9_170 wi_X9_requireTeam ws_X9_requireTeam ⟨Nat.le_of_ble_eq_true rfl, Nat.le_of_ble_eq_true rfl⟩ ⟨Nat.le_of_ble_eq_true rfl, Nat.le_of_ble_eq_true rfl⟩ ⟨Nat.le_of_ble_eq_true rfl, Nat.le_of_ble_eq_true rfl⟩ grv_9 [.int a1] rfl (Nat.le_of_ble_eq_true rfl) hP hS hl.1 dX9_safe_2 h (fun u hu => m_X9_requireTeam l hst Γ a1 g u hu) (fun g1 H locs h hP hS => ?_) rfl
  refine lv_aload_n hx hb dX9_safe_5 rfl (lv_at hl 0 rfl) ?_
  refine gf_9_7 hx hb hown hts hK hP wf_X9_57 dX9_safe_6 ?_
  refine lv_aload_n hx hb dX9_safe_9 rfl (lv_at hl 0 rfl) ?_
  refine gf_9_3 hx hb hown hts hK hP wf_X9_35 dX9_safe_10 ?_
  refine lv_iload_n hx hb dX9_safe_13 rfl (lv_at hl 1 rfl) ?_
  refine gCVi (rest := []) C0 cal_X8_safeFor wl_X9_221 wi_X8_safeFor ws_X8_safeFor ⟨Nat.le_of_ble_eq_true rfl, Nat.le_of_ble_eq_true rfl⟩ ⟨Nat.le_of_ble_eq_true rfl, Nat.le_of_ble_eq_true rfl⟩ grv_8 [.ref (gB Γ + 16), .int a1] rfl (Nat.le_of_ble_eq_true rfl) hP hS hl.1 dX9_safe_14 h (fun u hu => m_X8_safeFor l Γ isSt_c16 a1 g1 u hu) (fun u2 H locs h hP hS => ?_) rfl
  exact gxiret hx hb hr hlk hP hS (Nat.le_of_ble_eq_true rfl) (Nat.le_of_ble_eq_true rfl) dX9_safe_17 h
set_option maxHeartbeats 2000000 in
set_option maxRecDepth 20000 in
theorem m_X9_needed (l : Launch) (hst : l.stackTraces = false) (Γ : gE)   (a1 : Int32) (g : gG) (z : (Int32 ⊕ Nat) × gG) (h : f_X9_needed a1 g = some z) : gXi l yX9_needed cX9_needed 2 (some .int) 7 103 1 6 Γ [.ref (gB Γ + 0), .int a1] g z := by
  unfold f_X9_needed at h
  refine gStartX (own := RX9) (by decide +kernel) rfl (Nat.le_of_ble_eq_true rfl) ?_
  intro p e s m below meth c C0 hE ls hl hP
  have hS : va_S (gA Γ) s.heap s.heap [] := va_S.rf
  have hl : lv_has ls 2 [(0, .ref (gB Γ + 0)), (1, .int a1)] := hl
  obtain ⟨hx, hb, hml, hr, hown, hts, hK, hlk, hX⟩ := id C0
  refine lv_aload_n hx hb dX9_needed_0 rfl (lv_at hl 0 rfl) ?_
  refine lv_iload_n hx hb dX9_needed_1 rfl (lv_at hl 1 rfl) ?_
  refine gXCVv (rest := []) C0 hE cal_X9_requireTeam wl_X9_170 wi_X9_requireTeam ws_X9_requireTeam ⟨Nat.le_of_ble_eq_true rfl, Nat.le_of_ble_eq_true rfl⟩ ⟨Nat.le_of_ble_eq_true rfl, Nat.le_of_ble_eq_true rfl⟩ ⟨Nat.le_of_ble_eq_true rfl, Nat.le_of_ble_eq_true rfl⟩ grv_9 [.int a1] rfl (Nat.le_of_ble_eq_true rfl) hP hS hl.1 dX9_needed_2 h (fun u hu => m_X9_requireTeam l hst Γ a1 g u hu) (fun g1 H locs h hP hS => ?_) rfl
  refine lv_aload_n hx hb dX9_needed_5 rfl (lv_at hl 0 rfl) ?_
  refine gf_9_7 hx hb hown hts hK hP wf_X9_57 dX9_needed_6 ?_
  refine lv_aload_n hx hb dX9_needed_9 rfl (lv_at hl 0 rfl) ?_
  refine gf_9_3 hx hb hown hts hK hP wf_X9_35 dX9_needed_10 ?_
  refine lv_iload_n hx hb dX9_needed_13 rfl (lv_at hl 1 rfl) ?_
  refine gCVi (rest := []) C0 cal_X8_neededBy wl_X9_272 wi_X8_neededBy ws_X8_neededBy ⟨Nat.le_of_ble_eq_true rfl, Nat.le_of_ble_eq_true rfl⟩ ⟨Nat.le_of_ble_eq_true rfl, Nat.le_of_ble_eq_true rfl⟩ grv_8 [.ref (gB Γ + 16), .int a1] rfl (Nat.le_of_ble_eq_true rfl) hP hS hl.1 dX9_needed_14 h (fun u hu => m_X8_neededBy l Γ isSt_c16 a1 g1 u hu) (fun u2 H locs h hP hS => ?_) rfl
  exact gxiret hx hb hr hlk hP hS (Nat.le_of_ble_eq_true rfl) (Nat.le_of_ble_eq_true rfl) dX9_needed_17 h
set_option maxHeartbeats 2000000 in
set_option maxRecDepth 20000 in
theorem bs_X9_runScript_10 {p : Program} {l : Launch} {e : Env} {s : State} {m : MethodId} {args : Array Value} {below : List Frame} {meth : Method} {c : Code} {Γ : gE} (C0 : gCx p s m args meth c Γ RX9 cX9_runScript 5 (some .int)) (hE : ∀ x ∈ c.exceptionTable.toList, False) (hst : l.stackTraces = false)   {z : (Int32 ⊕ Nat) × gG}   {g : gG} {H : Heap} {locs : List Loc} {ls : Array Slot}  (h : fs_X9_runScript_10 g = some z) (hP : va_P (gD Γ) gcls (lay Γ g) H) (hS : va_S (gA Γ) s.heap H locs) (hl : lv_has ls 5 []) : W p l e (gRx 6 142 1 6) s m args below meth c H locs 0 0 (vx_MQ below (gQxi Γ z) (gXC Γ z) args s 1 6 (gA Γ)) (F0 m 10 ls []) := by
  unfold fs_X9_runScript_10 at h
  obtain ⟨hx, hb, hml, hr, hown, hts, hK, hlk, hX⟩ := id C0
  exact gThrowW C0 hE hst 1 (gth_1 gst_278) rfl hP hS hl.1 dX9_runScript_10 dX9_runScript_13 dX9_runScript_14 dX9_runScript_17 dX9_runScript_20 (Nat.le_of_ble_eq_true rfl) (Nat.le_of_ble_eq_true rfl) (Nat.le_of_ble_eq_true rfl) (Nat.le_of_ble_eq_true rfl) (Nat.le_of_ble_eq_true rfl) (Nat.le_of_ble_eq_true rfl) h
set_option maxHeartbeats 2000000 in
set_option maxRecDepth 20000 in
theorem bs_X9_runScript_36 {p : Program} {l : Launch} {e : Env} {s : State} {m : MethodId} {args : Array Value} {below : List Frame} {meth : Method} {c : Code} {Γ : gE} (C0 : gCx p s m args meth c Γ RX9 cX9_runScript 5 (some .int)) (hE : ∀ x ∈ c.exceptionTable.toList, False) (hst : l.stackTraces = false)   {z : (Int32 ⊕ Nat) × gG}   {g : gG} {H : Heap} {locs : List Loc} {ls : Array Slot}  (h : fs_X9_runScript_36 g = some z) (hP : va_P (gD Γ) gcls (lay Γ g) H) (hS : va_S (gA Γ) s.heap H locs) (hl : lv_has ls 5 []) : W p l e (gRx 6 142 1 6) s m args below meth c H locs 0 0 (vx_MQ below (gQxi Γ z) (gXC Γ z) args s 1 6 (gA Γ)) (F0 m 36 ls []) := by
  unfold fs_X9_runScript_36 at h
  obtain ⟨hx, hb, hml, hr, hown, hts, hK, hlk, hX⟩ := id C0
  exact gThrowW C0 hE hst 1 (gth_1 gst_284) rfl hP hS hl.1 dX9_runScript_36 dX9_runScript_39 dX9_runScript_40 dX9_runScript_43 dX9_runScript_46 (Nat.le_of_ble_eq_true rfl) (Nat.le_of_ble_eq_true rfl) (Nat.le_of_ble_eq_true rfl) (Nat.le_of_ble_eq_true rfl) (Nat.le_of_ble_eq_true rfl) (Nat.le_of_ble_eq_true rfl) h
set_option maxHeartbeats 2000000 in
set_option maxRecDepth 20000 in
theorem bs_X9_runScript_61 {p : Program} {l : Launch} {e : Env} {s : State} {m : MethodId} {args : Array Value} {below : List Frame} {meth : Method} {c : Code} {Γ : gE} (C0 : gCx p s m args meth c Γ RX9 cX9_runScript 5 (some .int)) (hE : ∀ x ∈ c.exceptionTable.toList, False) (hst : l.stackTraces = false)   {z : (Int32 ⊕ Nat) × gG} {F61 : Int32 → Int64 → Int32 → gG → Option ((Int32 ⊕ Nat) × gG)} {l1 : Int32} {l2 : Int64} {l4 : Int32} {g : gG} {H : Heap} {locs : List Loc} {ls : Array Slot} (hF61 : ∀ (l1 : Int32) (l2 : Int64) (l4 : Int32) (g : gG) (H : Heap) (locs : List Loc) (ls : Array Slot), F61 l1 l2 l4 g = some z → va_P (gD Γ) gcls (lay Γ g) H → va_S (gA Γ) s.heap H locs → lv_has ls 5 [(0, .ref (gB Γ + 0)), (1, .int l1), (2, .long l2), (4, .int l4)] → W p l e (gRx 6 142 1 6) s m args below meth c H locs 0 0 (vx_MQ below (gQxi Γ z) (gXC Γ z) args s 1 6 (gA Γ)) (F0 m 61 ls [])) (h : fs_X9_runScript_61 F61 l1 l2 l4 g = some z) (hP : va_P (gD Γ) gcls (lay Γ g) H) (hS : va_S (gA Γ) s.heap H locs) (hl : lv_has ls 5 [(0, .ref (gB Γ + 0)), (1, .int l1), (2, .long l2), (4, .int l4)]) : W p l e (gRx 6 142 1 6) s m args below meth c H locs 0 0 (vx_MQ below (gQxi Γ z) (gXC Γ z) args s 1 6 (gA Γ)) (F0 m 61 ls []) := by
  unfold fs_X9_runScript_61 at h
  obtain ⟨hx, hb, hml, hr, hown, hts, hK, hlk, hX⟩ := id C0
  refine lv_iload hx hb dX9_runScript_61 (lv_at hl 3 rfl) ?_
  refine lv_iload_n hx hb dX9_runScript_63 rfl (lv_at hl 1 rfl) ?_
  refine lv_icmp_ge (tgt := 93) hx hb dX9_runScript_64 (by decide) (fun c1 => ?_) (fun c1 => ?_)
  · replace h := gpos c1 h
    refine lv_bipush (v := -9) hx hb dX9_runScript_93 (by decide) ?_
    exact gxiret hx hb hr hlk hP hS (Nat.le_of_ble_eq_true rfl) (Nat.le_of_ble_eq_true rfl) dX9_runScript_95 h
  · replace h := gneg c1 h
    refine lv_aload_n hx hb dX9_runScript_67 rfl (lv_at hl 0 rfl) ?_
    refine gf_9_8 hx hb hown hts hK hP wf_X9_66 dX9_runScript_68 ?_
    refine lv_iload hx hb dX9_runScript_71 (lv_at hl 3 rfl) ?_
    refine lv_iload_n hx hb dX9_runScript_73 rfl (lv_at hl 1 rfl) ?_
    refine lv_lload_n hx hb dX9_runScript_74 rfl (lv_at hl 2 rfl) ?_
    refine gCSi (rest := [.ref (gB Γ + 164)]) C0 cal_X3_groupAt wl_X9_288 wt_X3_groupAt ⟨Nat.le_of_ble_eq_true rfl, Nat.le_of_ble_eq_true rfl⟩ ⟨Nat.le_of_ble_eq_true rfl, Nat.le_of_ble_eq_true rfl⟩ [.int l4, .int l1, .long l2] rfl (Nat.le_of_ble_eq_true rfl) hP hS hl.1 dX9_runScript_75 h (fun u hu => m_X3_groupAt l Γ l4 l1 l2 g u hu) (fun u2 H locs h hP hS => ?_) rfl
    refine gCVi (rest := []) C0 cal_X3_succeeds wl_X9_292 wi_X3_succeeds ws_X3_succeeds ⟨Nat.le_of_ble_eq_true rfl, Nat.le_of_ble_eq_true rfl⟩ ⟨Nat.le_of_ble_eq_true rfl, Nat.le_of_ble_eq_true rfl⟩ grv_3 [.int u2.1] rfl (Nat.le_of_ble_eq_true rfl) hP hS hl.1 dX9_runScript_78 h (fun u hu => m_X3_succeeds l Γ u2.1 u2.2 u hu) (fun u3 H locs h hP hS => ?_) rfl
    refine lv_if_ne (tgt := 87) hx hb dX9_runScript_81 (by decide) (fun c4 => ?_) (fun c4 => ?_)
    · replace h := gneg c4 h
      obtain ⟨x5, ex5⟩ : ∃ y : Int32, y = l4 + (1 : Int32) := ⟨_, rfl⟩
      replace h := gLetI ex5 h
      refine lv_iinc (v := x5) (lv' := [(4, .int x5), (0, .ref (gB Γ + 0)), (1, .int l1), (2, .long l2)]) hx hb dX9_runScript_87 hl (k := 3) rfl (by rw [ex5]; rfl) (by decide) rfl (fun ls hl => ?_)
      refine lv_goto (tgt := 61) hx hb dX9_runScript_90 (by decide) ?_
      exact hF61 _ _ _ _ _ _ _ h hP hS (lv_sub hl [1, 2, 3, 0] rfl)
    · replace h := gpos c4 h
      refine lv_iload hx hb dX9_runScript_84 (lv_at hl 3 rfl) ?_
      exact gxiret hx hb hr hlk hP hS (Nat.le_of_ble_eq_true rfl) (Nat.le_of_ble_eq_true rfl) dX9_runScript_86 h
set_option maxHeartbeats 2000000 in
set_option maxRecDepth 20000 in
theorem bk_X9_runScript_61 {p : Program} {l : Launch} {e : Env} {s : State} {m : MethodId} {args : Array Value} {below : List Frame} {meth : Method} {c : Code} {Γ : gE} (C0 : gCx p s m args meth c Γ RX9 cX9_runScript 5 (some .int)) (hE : ∀ x ∈ c.exceptionTable.toList, False) (hst : l.stackTraces = false)   {z : (Int32 ⊕ Nat) × gG}   : ∀ (n : Nat) (l1 : Int32) (l2 : Int64) (l4 : Int32) (g : gG) (H : Heap) (locs : List Loc) (ls : Array Slot), fb_X9_runScript_61 n l1 l2 l4 g = some z → va_P (gD Γ) gcls (lay Γ g) H → va_S (gA Γ) s.heap H locs → lv_has ls 5 [(0, .ref (gB Γ + 0)), (1, .int l1), (2, .long l2), (4, .int l4)] → W p l e (gRx 6 142 1 6) s m args below meth c H locs 0 0 (vx_MQ below (gQxi Γ z) (gXC Γ z) args s 1 6 (gA Γ)) (F0 m 61 ls []) := by
  intro n
  induction n with
  | zero => intro l1 l2 l4 g H locs ls h hP hS hl; cases h
  | succ n ih => intro l1 l2 l4 g H locs ls h hP hS hl; exact bs_X9_runScript_61 C0 hE hst  ih h hP hS hl
set_option maxHeartbeats 2000000 in
set_option maxRecDepth 20000 in
theorem m_X9_runScript (l : Launch) (hst : l.stackTraces = false) (Γ : gE)   (a1 : Int32) (a2 : Int64) (g : gG) (z : (Int32 ⊕ Nat) × gG) (h : f_X9_runScript a1 a2 g = some z) : gXi l yX9_runScript cX9_runScript 5 (some .int) 6 142 1 6 Γ [.ref (gB Γ + 0), .int a1, .long a2] g z := by
  unfold f_X9_runScript at h
  refine gStartX (own := RX9) (by decide +kernel) rfl (Nat.le_of_ble_eq_true rfl) ?_
  intro p e s m below meth c C0 hE ls hl hP
  have hS : va_S (gA Γ) s.heap s.heap [] := va_S.rf
  have hl : lv_has ls 5 [(0, .ref (gB Γ + 0)), (1, .int a1), (2, .long a2)] := hl
  obtain ⟨hx, hb, hml, hr, hown, hts, hK, hlk, hX⟩ := id C0
  refine lv_iload_n hx hb dX9_runScript_0 rfl (lv_at hl 1 rfl) ?_
  refine lv_iconst (v := 1) hx hb dX9_runScript_1 (by decide) ?_
  refine lv_icmp_lt (tgt := 10) hx hb dX9_runScript_2 (by decide) (fun c1 => ?_) (fun c1 => ?_)
  · replace h := gpos c1 h
    exact bs_X9_runScript_10 C0 hE hst  h hP hS (lv_sub hl [] rfl)
  · replace h := gneg c1 h
    refine lv_iload_n hx hb dX9_runScript_5 rfl (lv_at hl 1 rfl) ?_
    refine lv_iconst (v := 4) hx hb dX9_runScript_6 (by decide) ?_
    refine lv_icmp_le (tgt := 21) hx hb dX9_runScript_7 (by decide) (fun c2 => ?_) (fun c2 => ?_)
    · replace h := gpos c2 h
      refine lv_lload_n hx hb dX9_runScript_21 rfl (lv_at hl 2 rfl) ?_
      refine lv_lconst (v := 0) hx hb dX9_runScript_22 (by decide) ?_
      refine W.lcmp hx hb dX9_runScript_23 ?_
      refine lv_if_lt (tgt := 36) hx hb dX9_runScript_24 (by decide) (fun c3 => ?_) (fun c3 => ?_)
      · replace h := gpos c3 h
        exact bs_X9_runScript_36 C0 hE hst  h hP hS (lv_sub hl [] rfl)
      · replace h := gneg c3 h
        refine lv_lload_n hx hb dX9_runScript_27 rfl (lv_at hl 2 rfl) ?_
        refine lv_iload_n hx hb dX9_runScript_28 rfl (lv_at hl 1 rfl) ?_
        refine gCSl (rest := [.long a2]) C0 cal_X3_pastEnd wl_X9_280 wt_X3_pastEnd ⟨Nat.le_of_ble_eq_true rfl, Nat.le_of_ble_eq_true rfl⟩ ⟨Nat.le_of_ble_eq_true rfl, Nat.le_of_ble_eq_true rfl⟩ [.int a1] rfl (Nat.le_of_ble_eq_true rfl) hP hS hl.1 dX9_runScript_29 h (fun u hu => m_X3_pastEnd l Γ a1 g u hu) (fun u4 H locs h hP hS => ?_) rfl
        refine W.lcmp hx hb dX9_runScript_32 ?_
        refine lv_if_lt (tgt := 47) hx hb dX9_runScript_33 (by decide) (fun c5 => ?_) (fun c5 => ?_)
        · replace h := gpos c5 h
          refine lv_aload_n hx hb dX9_runScript_47 rfl (lv_at hl 0 rfl) ?_
          refine gf_9_8 hx hb hown hts hK hP wf_X9_66 dX9_runScript_48 ?_
          refine lv_aload_n hx hb dX9_runScript_51 rfl (lv_at hl 0 rfl) ?_
          refine gf_9_3 hx hb hown hts hK hP wf_X9_35 dX9_runScript_52 ?_
          refine gCVv (rest := []) C0 cal_X3_begin wl_X9_286 wi_X3_begin ws_X3_begin ⟨Nat.le_of_ble_eq_true rfl, Nat.le_of_ble_eq_true rfl⟩ ⟨Nat.le_of_ble_eq_true rfl, Nat.le_of_ble_eq_true rfl⟩ grv_3 [.ref (gB Γ + 16)] rfl (Nat.le_of_ble_eq_true rfl) hP hS hl.1 dX9_runScript_55 h (fun u hu => m_X3_begin l Γ isSt_c16 u4.2 u hu) (fun u6 H locs h hP hS => ?_) rfl
          refine lv_iconst (v := 0) hx hb dX9_runScript_58 (by decide) ?_
          refine lv_istore (lv' := [(4, .int (0 : Int32)), (0, .ref (gB Γ + 0)), (1, .int a1), (2, .long a2)]) hx hb dX9_runScript_59 hl (by decide) rfl (fun ls hl => ?_)
          exact bk_X9_runScript_61 C0 hE hst  gFuel _ _ _ _ _ _ _ h hP hS (lv_sub hl [1, 2, 3, 0] rfl)
        · replace h := gneg c5 h
          exact bs_X9_runScript_36 C0 hE hst  h hP hS (lv_sub hl [] rfl)
    · replace h := gneg c2 h
      exact bs_X9_runScript_10 C0 hE hst  h hP hS (lv_sub hl [] rfl)
set_option maxHeartbeats 2000000 in
set_option maxRecDepth 20000 in
theorem bs_X9_simulate_11 {p : Program} {l : Launch} {e : Env} {s : State} {m : MethodId} {args : Array Value} {below : List Frame} {meth : Method} {c : Code} {Γ : gE} (C0 : gCx p s m args meth c Γ RX9 cX9_simulate 4 (some .int)) (hE : ∀ x ∈ c.exceptionTable.toList, False) (hst : l.stackTraces = false)   {z : (Int32 ⊕ Nat) × gG}   {g : gG} {H : Heap} {locs : List Loc} {ls : Array Slot}  (h : fs_X9_simulate_11 g = some z) (hP : va_P (gD Γ) gcls (lay Γ g) H) (hS : va_S (gA Γ) s.heap H locs) (hl : lv_has ls 4 []) : W p l e (gRx 6 122 1 6) s m args below meth c H locs 0 0 (vx_MQ below (gQxi Γ z) (gXC Γ z) args s 1 6 (gA Γ)) (F0 m 11 ls []) := by
  unfold fs_X9_simulate_11 at h
  obtain ⟨hx, hb, hml, hr, hown, hts, hK, hlk, hX⟩ := id C0
  exact gThrowW C0 hE hst 1 (gth_1 gst_296) rfl hP hS hl.1 dX9_simulate_11 dX9_simulate_14 dX9_simulate_15 dX9_simulate_18 dX9_simulate_21 (Nat.le_of_ble_eq_true rfl) (Nat.le_of_ble_eq_true rfl) (Nat.le_of_ble_eq_true rfl) (Nat.le_of_ble_eq_true rfl) (Nat.le_of_ble_eq_true rfl) (Nat.le_of_ble_eq_true rfl) h
set_option maxHeartbeats 2000000 in
set_option maxRecDepth 20000 in
theorem m_X9_simulate (l : Launch) (hst : l.stackTraces = false) (Γ : gE)   (a1 : Int64) (a3 : Int32) (g : gG) (z : (Int32 ⊕ Nat) × gG) (h : f_X9_simulate a1 a3 g = some z) : gXi l yX9_simulate cX9_simulate 4 (some .int) 6 122 1 6 Γ [.ref (gB Γ + 0), .long a1, .int a3] g z := by
  unfold f_X9_simulate at h
  refine gStartX (own := RX9) (by decide +kernel) rfl (Nat.le_of_ble_eq_true rfl) ?_
  intro p e s m below meth c C0 hE ls hl hP
  have hS : va_S (gA Γ) s.heap s.heap [] := va_S.rf
  have hl : lv_has ls 4 [(0, .ref (gB Γ + 0)), (1, .long a1), (3, .int a3)] := hl
  obtain ⟨hx, hb, hml, hr, hown, hts, hK, hlk, hX⟩ := id C0
  refine lv_iload_n hx hb dX9_simulate_0 rfl (lv_at hl 2 rfl) ?_
  refine lv_iconst (v := 1) hx hb dX9_simulate_1 (by decide) ?_
  refine lv_icmp_lt (tgt := 11) hx hb dX9_simulate_2 (by decide) (fun c1 => ?_) (fun c1 => ?_)
  · replace h := gpos c1 h
    exact bs_X9_simulate_11 C0 hE hst  h hP hS (lv_sub hl [] rfl)
  · replace h := gneg c1 h
    refine lv_iload_n hx hb dX9_simulate_5 rfl (lv_at hl 2 rfl) ?_
    refine lv_bipush (v := 50) hx hb dX9_simulate_6 (by decide) ?_
    refine lv_icmp_le (tgt := 22) hx hb dX9_simulate_8 (by decide) (fun c2 => ?_) (fun c2 => ?_)
    · replace h := gpos c2 h
      refine lv_aload_n hx hb dX9_simulate_22 rfl (lv_at hl 0 rfl) ?_
      refine gf_9_9 hx hb hown hts hK hP wf_X9_73 dX9_simulate_23 ?_
      refine lv_aload_n hx hb dX9_simulate_26 rfl (lv_at hl 0 rfl) ?_
      refine gf_9_3 hx hb hown hts hK hP wf_X9_35 dX9_simulate_27 ?_
      refine lv_lload_n hx hb dX9_simulate_30 rfl (lv_at hl 1 rfl) ?_
      refine lv_iload_n hx hb dX9_simulate_31 rfl (lv_at hl 2 rfl) ?_
      refine gCVi (rest := []) C0 cal_X4_run wl_X9_298 wi_X4_run ws_X4_run ⟨Nat.le_of_ble_eq_true rfl, Nat.le_of_ble_eq_true rfl⟩ ⟨Nat.le_of_ble_eq_true rfl, Nat.le_of_ble_eq_true rfl⟩ grv_4 [.ref (gB Γ + 16), .long a1, .int a3] rfl (Nat.le_of_ble_eq_true rfl) hP hS hl.1 dX9_simulate_32 h (fun u hu => m_X4_run l Γ isSt_c16 a1 a3 g u hu) (fun u3 H locs h hP hS => ?_) rfl
      exact gxiret hx hb hr hlk hP hS (Nat.le_of_ble_eq_true rfl) (Nat.le_of_ble_eq_true rfl) dX9_simulate_35 h
    · replace h := gneg c2 h
      exact bs_X9_simulate_11 C0 hE hst  h hP hS (lv_sub hl [] rfl)
set_option maxHeartbeats 2000000 in
set_option maxRecDepth 20000 in
theorem bs_X9_requireSlot_9 {p : Program} {l : Launch} {e : Env} {s : State} {m : MethodId} {args : Array Value} {below : List Frame} {meth : Method} {c : Code} {Γ : gE} (C0 : gCx p s m args meth c Γ RX9 cX9_requireSlot 1 none) (hE : ∀ x ∈ c.exceptionTable.toList, False) (hst : l.stackTraces = false)   {z : (Unit ⊕ Nat) × gG}   {g : gG} {H : Heap} {locs : List Loc} {ls : Array Slot}  (h : fs_X9_requireSlot_9 g = some z) (hP : va_P (gD Γ) gcls (lay Γ g) H) (hS : va_S (gA Γ) s.heap H locs) (hl : lv_has ls 1 []) : W p l e (gRx 6 82 1 6) s m args below meth c H locs 0 0 (vx_MQ below (gQxv Γ z) (gXC Γ z) args s 1 6 (gA Γ)) (F0 m 9 ls []) := by
  unfold fs_X9_requireSlot_9 at h
  obtain ⟨hx, hb, hml, hr, hown, hts, hK, hlk, hX⟩ := id C0
  exact gThrowW C0 hE hst 3 (gth_3 gst_323) rfl hP hS hl.1 dX9_requireSlot_9 dX9_requireSlot_12 dX9_requireSlot_13 dX9_requireSlot_16 dX9_requireSlot_19 (Nat.le_of_ble_eq_true rfl) (Nat.le_of_ble_eq_true rfl) (Nat.le_of_ble_eq_true rfl) (Nat.le_of_ble_eq_true rfl) (Nat.le_of_ble_eq_true rfl) (Nat.le_of_ble_eq_true rfl) h
set_option maxHeartbeats 2000000 in
set_option maxRecDepth 20000 in
theorem m_X9_requireSlot (l : Launch) (hst : l.stackTraces = false) (Γ : gE)   (a0 : Int32) (g : gG) (z : (Unit ⊕ Nat) × gG) (h : f_X9_requireSlot a0 g = some z) : gXv l yX9_requireSlot cX9_requireSlot 1 none 6 82 1 6 Γ [.int a0] g z := by
  unfold f_X9_requireSlot at h
  refine gStartX (own := RX9) (by decide +kernel) rfl (Nat.le_of_ble_eq_true rfl) ?_
  intro p e s m below meth c C0 hE ls hl hP
  have hS : va_S (gA Γ) s.heap s.heap [] := va_S.rf
  have hl : lv_has ls 1 [(0, .int a0)] := hl
  obtain ⟨hx, hb, hml, hr, hown, hts, hK, hlk, hX⟩ := id C0
  refine lv_iload_n hx hb dX9_requireSlot_0 rfl (lv_at hl 0 rfl) ?_
  refine lv_if_lt (tgt := 9) hx hb dX9_requireSlot_1 (by decide) (fun c1 => ?_) (fun c1 => ?_)
  · replace h := gpos c1 h
    exact bs_X9_requireSlot_9 C0 hE hst  h hP hS (lv_sub hl [] rfl)
  · replace h := gneg c1 h
    refine lv_iload_n hx hb dX9_requireSlot_4 rfl (lv_at hl 0 rfl) ?_
    refine lv_iconst (v := 2) hx hb dX9_requireSlot_5 (by decide) ?_
    refine lv_icmp_lt (tgt := 20) hx hb dX9_requireSlot_6 (by decide) (fun c2 => ?_) (fun c2 => ?_)
    · replace h := gpos c2 h
      exact gxvret hx hb hr hlk hP hS (Nat.le_of_ble_eq_true rfl) (Nat.le_of_ble_eq_true rfl) dX9_requireSlot_20 h
    · replace h := gneg c2 h
      exact bs_X9_requireSlot_9 C0 hE hst  h hP hS (lv_sub hl [] rfl)
set_option maxHeartbeats 2000000 in
set_option maxRecDepth 20000 in
theorem m_X9_save (l : Launch) (hst : l.stackTraces = false) (Γ : gE)   (a1 : Int32) (g : gG) (z : (Int32 ⊕ Nat) × gG) (h : f_X9_save a1 g = some z) : gXi l yX9_save cX9_save 2 (some .int) 7 102 1 6 Γ [.ref (gB Γ + 0), .int a1] g z := by
  unfold f_X9_save at h
  refine gStartX (own := RX9) (by decide +kernel) rfl (Nat.le_of_ble_eq_true rfl) ?_
  intro p e s m below meth c C0 hE ls hl hP
  have hS : va_S (gA Γ) s.heap s.heap [] := va_S.rf
  have hl : lv_has ls 2 [(0, .ref (gB Γ + 0)), (1, .int a1)] := hl
  obtain ⟨hx, hb, hml, hr, hown, hts, hK, hlk, hX⟩ := id C0
  refine lv_iload_n hx hb dX9_save_0 rfl (lv_at hl 1 rfl) ?_
  refine gXCSv (rest := []) C0 hE cal_X9_requireSlot wl_X9_302 wt_X9_requireSlot ⟨Nat.le_of_ble_eq_true rfl, Nat.le_of_ble_eq_true rfl⟩ ⟨Nat.le_of_ble_eq_true rfl, Nat.le_of_ble_eq_true rfl⟩ ⟨Nat.le_of_ble_eq_true rfl, Nat.le_of_ble_eq_true rfl⟩ [.int a1] rfl (Nat.le_of_ble_eq_true rfl) hP hS hl.1 dX9_save_1 h (fun u hu => m_X9_requireSlot l hst Γ a1 g u hu) (fun g1 H locs h hP hS => ?_) rfl
  refine lv_aload_n hx hb dX9_save_4 rfl (lv_at hl 0 rfl) ?_
  refine gf_9_5 hx hb hown hts hK hP wf_X9_46 dX9_save_5 ?_
  refine lv_iload_n hx hb dX9_save_8 rfl (lv_at hl 1 rfl) ?_
  refine gSld hx hb hK hP is_138 dX9_save_9 h (fun c2 h => ?_)
  refine lv_aload_n hx hb dX9_save_10 rfl (lv_at hl 0 rfl) ?_
  refine gf_9_3 hx hb hown hts hK hP wf_X9_35 dX9_save_11 ?_
  refine gCVv (rest := []) C0 cal_X5_copyFrom wl_X9_305 wi_X5_copyFrom ws_X5_copyFrom ⟨Nat.le_of_ble_eq_true rfl, Nat.le_of_ble_eq_true rfl⟩ ⟨Nat.le_of_ble_eq_true rfl, Nat.le_of_ble_eq_true rfl⟩ (grv_5 (isSt_slot (inb_lt c2))) [.ref (gB Γ + 16)] rfl (Nat.le_of_ble_eq_true rfl) hP hS hl.1 dX9_save_14 h (fun u hu => m_X5_copyFrom l Γ (isSt_slot (inb_lt c2)) isSt_c16 g1 u hu) (fun u3 H locs h hP hS => ?_) rfl
  refine lv_aload_n hx hb dX9_save_17 rfl (lv_at hl 0 rfl) ?_
  refine gf_9_6 hx hb hown hts hK hP wf_X9_50 dX9_save_18 ?_
  refine lv_iload_n hx hb dX9_save_21 rfl (lv_at hl 1 rfl) ?_
  refine lv_iconst (v := 1) hx hb dX9_save_22 (by decide) ?_
  refine gZst hx hb hK hP hS is_155 dX9_save_23 h (fun H locs g4 h hP hS => ?_)
  refine lv_aload_n hx hb dX9_save_24 rfl (lv_at hl 0 rfl) ?_
  refine gf_9_3 hx hb hown hts hK hP wf_X9_35 dX9_save_25 ?_
  refine gCVi (rest := []) C0 cal_X5_teamCount wl_X9_120 wi_X5_teamCount ws_X5_teamCount ⟨Nat.le_of_ble_eq_true rfl, Nat.le_of_ble_eq_true rfl⟩ ⟨Nat.le_of_ble_eq_true rfl, Nat.le_of_ble_eq_true rfl⟩ (grv_5 isSt_c16) [] rfl (Nat.le_of_ble_eq_true rfl) hP hS hl.1 dX9_save_28 h (fun u hu => m_X5_teamCount l Γ isSt_c16 g4 u hu) (fun u5 H locs h hP hS => ?_) rfl
  exact gxiret hx hb hr hlk hP hS (Nat.le_of_ble_eq_true rfl) (Nat.le_of_ble_eq_true rfl) dX9_save_31 h
set_option maxHeartbeats 2000000 in
set_option maxRecDepth 20000 in
theorem m_X9_restore (l : Launch) (hst : l.stackTraces = false) (Γ : gE)   (a1 : Int32) (g : gG) (z : (Int32 ⊕ Nat) × gG) (h : f_X9_restore a1 g = some z) : gXi l yX9_restore cX9_restore 2 (some .int) 7 102 2 12 Γ [.ref (gB Γ + 0), .int a1] g z := by
  unfold f_X9_restore at h
  refine gStartX (own := RX9) (by decide +kernel) rfl (Nat.le_of_ble_eq_true rfl) ?_
  intro p e s m below meth c C0 hE ls hl hP
  have hS : va_S (gA Γ) s.heap s.heap [] := va_S.rf
  have hl : lv_has ls 2 [(0, .ref (gB Γ + 0)), (1, .int a1)] := hl
  obtain ⟨hx, hb, hml, hr, hown, hts, hK, hlk, hX⟩ := id C0
  refine lv_iload_n hx hb dX9_restore_0 rfl (lv_at hl 1 rfl) ?_
  refine gXCSv (rest := []) C0 hE cal_X9_requireSlot wl_X9_302 wt_X9_requireSlot ⟨Nat.le_of_ble_eq_true rfl, Nat.le_of_ble_eq_true rfl⟩ ⟨Nat.le_of_ble_eq_true rfl, Nat.le_of_ble_eq_true rfl⟩ ⟨Nat.le_of_ble_eq_true rfl, Nat.le_of_ble_eq_true rfl⟩ [.int a1] rfl (Nat.le_of_ble_eq_true rfl) hP hS hl.1 dX9_restore_1 h (fun u hu => m_X9_requireSlot l hst Γ a1 g u hu) (fun g1 H locs h hP hS => ?_) rfl
  refine lv_aload_n hx hb dX9_restore_4 rfl (lv_at hl 0 rfl) ?_
  refine gf_9_6 hx hb hown hts hK hP wf_X9_50 dX9_restore_5 ?_
  refine lv_iload_n hx hb dX9_restore_8 rfl (lv_at hl 1 rfl) ?_
  refine gZld hx hb hK hP is_155 dX9_restore_9 h (fun h => ?_)
  refine lv_if_ne (tgt := 24) hx hb dX9_restore_10 (by decide) (fun c2 => ?_) (fun c2 => ?_)
  · replace h := gneg c2 h
    refine lv_aload_n hx hb dX9_restore_24 rfl (lv_at hl 0 rfl) ?_
    refine gf_9_3 hx hb hown hts hK hP wf_X9_35 dX9_restore_25 ?_
    refine lv_aload_n hx hb dX9_restore_28 rfl (lv_at hl 0 rfl) ?_
    refine gf_9_5 hx hb hown hts hK hP wf_X9_46 dX9_restore_29 ?_
    refine lv_iload_n hx hb dX9_restore_32 rfl (lv_at hl 1 rfl) ?_
    refine gSld hx hb hK hP is_138 dX9_restore_33 h (fun c3 h => ?_)
    refine gCVv (rest := []) C0 cal_X5_copyFrom wl_X9_305 wi_X5_copyFrom ws_X5_copyFrom ⟨Nat.le_of_ble_eq_true rfl, Nat.le_of_ble_eq_true rfl⟩ ⟨Nat.le_of_ble_eq_true rfl, Nat.le_of_ble_eq_true rfl⟩ (grv_5 isSt_c16) [.ref (gB Γ + (139 + 8 * a1.toNatClampNeg))] rfl (Nat.le_of_ble_eq_true rfl) hP hS hl.1 dX9_restore_34 h (fun u hu => m_X5_copyFrom l Γ isSt_c16 (isSt_slot (inb_lt c3)) g1 u hu) (fun u4 H locs h hP hS => ?_) rfl
    refine lv_aload_n hx hb dX9_restore_37 rfl (lv_at hl 0 rfl) ?_
    refine gf_9_4 hx hb hown hts hK hP wf_X9_42 dX9_restore_38 ?_
    refine gCVv (rest := []) C0 cal_X1_forget wl_X9_114 wi_X1_forget ws_X1_forget ⟨Nat.le_of_ble_eq_true rfl, Nat.le_of_ble_eq_true rfl⟩ ⟨Nat.le_of_ble_eq_true rfl, Nat.le_of_ble_eq_true rfl⟩ grv_1 [] rfl (Nat.le_of_ble_eq_true rfl) hP hS hl.1 dX9_restore_41 h (fun u hu => m_X1_forget l Γ u4.2 u hu) (fun u5 H locs h hP hS => ?_) rfl
    refine lv_aload_n hx hb dX9_restore_44 rfl (lv_at hl 0 rfl) ?_
    refine gf_9_3 hx hb hown hts hK hP wf_X9_35 dX9_restore_45 ?_
    refine gCVi (rest := []) C0 cal_X5_teamCount wl_X9_120 wi_X5_teamCount ws_X5_teamCount ⟨Nat.le_of_ble_eq_true rfl, Nat.le_of_ble_eq_true rfl⟩ ⟨Nat.le_of_ble_eq_true rfl, Nat.le_of_ble_eq_true rfl⟩ (grv_5 isSt_c16) [] rfl (Nat.le_of_ble_eq_true rfl) hP hS hl.1 dX9_restore_48 h (fun u hu => m_X5_teamCount l Γ isSt_c16 u5.2 u hu) (fun u6 H locs h hP hS => ?_) rfl
    exact gxiret hx hb hr hlk hP hS (Nat.le_of_ble_eq_true rfl) (Nat.le_of_ble_eq_true rfl) dX9_restore_51 h
  · replace h := gpos c2 h
    exact gThrowW C0 hE hst 2 (gth_2 gst_308) rfl hP hS hl.1 dX9_restore_13 dX9_restore_16 dX9_restore_17 dX9_restore_20 dX9_restore_23 (Nat.le_of_ble_eq_true rfl) (Nat.le_of_ble_eq_true rfl) (Nat.le_of_ble_eq_true rfl) (Nat.le_of_ble_eq_true rfl) (Nat.le_of_ble_eq_true rfl) (Nat.le_of_ble_eq_true rfl) h
