set_option maxHeartbeats 2000000 in
set_option maxRecDepth 20000 in
theorem m_L_append (l : Launch) (hst : l.stackTraces = false) (Γ : gE)   (a1 : Int32) (g : gG) (z : Int64 × gG) (h : f_L_append a1 g = some z) : gHl l yL_append cL_append 3 (some .long) [(0, 6, 7, 15), (0, 6, 12, 19)] 7 103 1 6 Γ [.ref (gB Γ + 0), .int a1] g z := by
  unfold f_L_append at h
  refine gStartH (own := RL) (by decide +kernel) rfl (Nat.le_of_ble_eq_true rfl) ?_
  intro p e s m below meth c C0 hT ls hl hP
  have hS : va_S (gA Γ) s.heap s.heap [] := va_S.rf
  have hl : lv_has ls 3 [(0, .ref (gB Γ + 0)), (1, .int a1)] := hl
  obtain ⟨hx, hb, hml, hr, hown, hts, hK, hlk, hX⟩ := id C0
  refine lv_aload_n hx hb dL_append_0 rfl (lv_at hl 0 rfl) ?_
  refine lv_iload_n hx hb dL_append_1 rfl (lv_at hl 1 rfl) ?_
  refine gHV (rest := []) C0 cal_X9_append wl_L_9 wi_X9_append ws_X9_append ⟨Nat.le_of_ble_eq_true rfl, Nat.le_of_ble_eq_true rfl⟩ ⟨Nat.le_of_ble_eq_true rfl, Nat.le_of_ble_eq_true rfl⟩ grv_9 [.int a1] rfl (Nat.le_of_ble_eq_true rfl) hP hS hl.1 dL_append_2 h (fun u hu => m_X9_append l hst Γ a1 g u hu) (fun n3 g4 H locs q9 ce h hP hS hce hcv hcl => ?_) (fun r2 g1 H locs h hP hS => ?_) rfl
  ·
    by_cases c5 : n3 = 1
    · replace h := gpos c5 h
      subst c5
      refine gCatch1 hown hts hX hT (by decide) (by decide) wcl_L_15 (by decide) hce hcv hcl ?_
      refine lv_astore_n (lv' := [(2, .ref q9), (0, .ref (gB Γ + 0)), (1, .int a1)]) hx hb dL_append_7 rfl hl (by decide) rfl (fun ls hl => ?_)
      refine lv_ldc2 (v := -9000000000000000002) hx hb hown (hts _ wkl_L_17) dL_append_8 ?_
      exact glretW hx hb hr hlk hP hS (Nat.le_of_ble_eq_true rfl) (Nat.le_of_ble_eq_true rfl) dL_append_11 h
    replace h := gneg c5 h
    by_cases c6 : n3 = 2
    · replace h := gpos c6 h
      subst c6
      refine gCatch2 (n1 := 1) hown hts hX hT (by decide) wcl_L_15 (by decide) (by decide) (by decide) wcl_L_19 (by decide) hce hcv hcl ?_
      refine lv_astore_n (lv' := [(2, .ref q9), (0, .ref (gB Γ + 0)), (1, .int a1)]) hx hb dL_append_12 rfl hl (by decide) rfl (fun ls hl => ?_)
      refine lv_ldc2 (v := -9000000000000000003) hx hb hown (hts _ wkl_L_21) dL_append_13 ?_
      exact glretW hx hb hr hlk hP hS (Nat.le_of_ble_eq_true rfl) (Nat.le_of_ble_eq_true rfl) dL_append_16 h
    replace h := gneg c6 h
    cases h
  refine lv_i2l hx hb dL_append_5 rfl ?_
  exact glretW hx hb hr hlk hP hS (Nat.le_of_ble_eq_true rfl) (Nat.le_of_ble_eq_true rfl) dL_append_6 h
set_option maxHeartbeats 2000000 in
set_option maxRecDepth 20000 in
theorem m_L_load (l : Launch) (hst : l.stackTraces = false) (Γ : gE)    (g : gG) (z : Int64 × gG) (h : f_L_load g = some z) : gHl l yL_load cL_load 2 (some .long) [(0, 5, 6, 19)] 7 150 1 6 Γ [.ref (gB Γ + 0)] g z := by
  unfold f_L_load at h
  refine gStartH (own := RL) (by decide +kernel) rfl (Nat.le_of_ble_eq_true rfl) ?_
  intro p e s m below meth c C0 hT ls hl hP
  have hS : va_S (gA Γ) s.heap s.heap [] := va_S.rf
  have hl : lv_has ls 2 [(0, .ref (gB Γ + 0))] := hl
  obtain ⟨hx, hb, hml, hr, hown, hts, hK, hlk, hX⟩ := id C0
  refine lv_aload_n hx hb dL_load_0 rfl (lv_at hl 0 rfl) ?_
  refine gHV (rest := []) C0 cal_X9_load wl_L_23 wi_X9_load ws_X9_load ⟨Nat.le_of_ble_eq_true rfl, Nat.le_of_ble_eq_true rfl⟩ ⟨Nat.le_of_ble_eq_true rfl, Nat.le_of_ble_eq_true rfl⟩ grv_9 [] rfl (Nat.le_of_ble_eq_true rfl) hP hS hl.1 dL_load_1 h (fun u hu => m_X9_load l hst Γ g u hu) (fun n3 g4 H locs q9 ce h hP hS hce hcv hcl => ?_) (fun r2 g1 H locs h hP hS => ?_) rfl
  ·
    by_cases c5 : n3 = 2
    · replace h := gpos c5 h
      subst c5
      refine gCatch1 hown hts hX hT (by decide) (by decide) wcl_L_19 (by decide) hce hcv hcl ?_
      refine lv_astore_n (lv' := [(1, .ref q9), (0, .ref (gB Γ + 0))]) hx hb dL_load_6 rfl hl (by decide) rfl (fun ls hl => ?_)
      refine lv_ldc2 (v := -9000000000000000003) hx hb hown (hts _ wkl_L_21) dL_load_7 ?_
      exact glretW hx hb hr hlk hP hS (Nat.le_of_ble_eq_true rfl) (Nat.le_of_ble_eq_true rfl) dL_load_10 h
    replace h := gneg c5 h
    cases h
  refine lv_i2l hx hb dL_load_4 rfl ?_
  exact glretW hx hb hr hlk hP hS (Nat.le_of_ble_eq_true rfl) (Nat.le_of_ble_eq_true rfl) dL_load_5 h
set_option maxHeartbeats 2000000 in
set_option maxRecDepth 20000 in
theorem m_L_about (l : Launch) (hst : l.stackTraces = false) (Γ : gE)   (a1 : Int32) (g : gG) (z : Int64 × gG) (h : f_L_about a1 g = some z) : gHl l yL_about cL_about 3 (some .long) [(0, 6, 7, 15)] 7 106 1 6 Γ [.ref (gB Γ + 0), .int a1] g z := by
  unfold f_L_about at h
  refine gStartH (own := RL) (by decide +kernel) rfl (Nat.le_of_ble_eq_true rfl) ?_
  intro p e s m below meth c C0 hT ls hl hP
  have hS : va_S (gA Γ) s.heap s.heap [] := va_S.rf
  have hl : lv_has ls 3 [(0, .ref (gB Γ + 0)), (1, .int a1)] := hl
  obtain ⟨hx, hb, hml, hr, hown, hts, hK, hlk, hX⟩ := id C0
  refine lv_aload_n hx hb dL_about_0 rfl (lv_at hl 0 rfl) ?_
  refine lv_iload_n hx hb dL_about_1 rfl (lv_at hl 1 rfl) ?_
  refine gHV (rest := []) C0 cal_X9_about wl_L_27 wi_X9_about ws_X9_about ⟨Nat.le_of_ble_eq_true rfl, Nat.le_of_ble_eq_true rfl⟩ ⟨Nat.le_of_ble_eq_true rfl, Nat.le_of_ble_eq_true rfl⟩ grv_9 [.int a1] rfl (Nat.le_of_ble_eq_true rfl) hP hS hl.1 dL_about_2 h (fun u hu => m_X9_about l hst Γ a1 g u hu) (fun n3 g4 H locs q9 ce h hP hS hce hcv hcl => ?_) (fun r2 g1 H locs h hP hS => ?_) rfl
  ·
    by_cases c5 : n3 = 1
    · replace h := gpos c5 h
      subst c5
      refine gCatch1 hown hts hX hT (by decide) (by decide) wcl_L_15 (by decide) hce hcv hcl ?_
      refine lv_astore_n (lv' := [(2, .ref q9), (0, .ref (gB Γ + 0)), (1, .int a1)]) hx hb dL_about_7 rfl hl (by decide) rfl (fun ls hl => ?_)
      refine lv_ldc2 (v := -9000000000000000002) hx hb hown (hts _ wkl_L_17) dL_about_8 ?_
      exact glretW hx hb hr hlk hP hS (Nat.le_of_ble_eq_true rfl) (Nat.le_of_ble_eq_true rfl) dL_about_11 h
    replace h := gneg c5 h
    cases h
  refine lv_i2l hx hb dL_about_5 rfl ?_
  exact glretW hx hb hr hlk hP hS (Nat.le_of_ble_eq_true rfl) (Nat.le_of_ble_eq_true rfl) dL_about_6 h
set_option maxHeartbeats 2000000 in
set_option maxRecDepth 20000 in
theorem m_L_place (l : Launch) (hst : l.stackTraces = false) (Γ : gE)   (a1 : Int32) (a2 : Int32) (g : gG) (z : Int64 × gG) (h : f_L_place a1 a2 g = some z) : gHl l yL_place cL_place 4 (some .long) [(0, 7, 8, 34), (0, 7, 13, 15)] 8 125 2 12 Γ [.ref (gB Γ + 0), .int a1, .int a2] g z := by
  unfold f_L_place at h
  refine gStartH (own := RL) (by decide +kernel) rfl (Nat.le_of_ble_eq_true rfl) ?_
  intro p e s m below meth c C0 hT ls hl hP
  have hS : va_S (gA Γ) s.heap s.heap [] := va_S.rf
  have hl : lv_has ls 4 [(0, .ref (gB Γ + 0)), (1, .int a1), (2, .int a2)] := hl
  obtain ⟨hx, hb, hml, hr, hown, hts, hK, hlk, hX⟩ := id C0
  refine lv_aload_n hx hb dL_place_0 rfl (lv_at hl 0 rfl) ?_
  refine lv_iload_n hx hb dL_place_1 rfl (lv_at hl 1 rfl) ?_
  refine lv_iload_n hx hb dL_place_2 rfl (lv_at hl 2 rfl) ?_
  refine gHV (rest := []) C0 cal_X9_place wl_L_30 wi_X9_place ws_X9_place ⟨Nat.le_of_ble_eq_true rfl, Nat.le_of_ble_eq_true rfl⟩ ⟨Nat.le_of_ble_eq_true rfl, Nat.le_of_ble_eq_true rfl⟩ grv_9 [.int a1, .int a2] rfl (Nat.le_of_ble_eq_true rfl) hP hS hl.1 dL_place_3 h (fun u hu => m_X9_place l hst Γ a1 a2 g u hu) (fun n3 g4 H locs q9 ce h hP hS hce hcv hcl => ?_) (fun r2 g1 H locs h hP hS => ?_) rfl
  ·
    by_cases c5 : n3 = 3
    · replace h := gpos c5 h
      subst c5
      refine gCatch1 hown hts hX hT (by decide) (by decide) wcl_L_34 (by decide) hce hcv hcl ?_
      refine lv_astore_n (lv' := [(3, .ref q9), (0, .ref (gB Γ + 0)), (1, .int a1), (2, .int a2)]) hx hb dL_place_8 rfl hl (by decide) rfl (fun ls hl => ?_)
      refine lv_ldc2 (v := -9000000000000000001) hx hb hown (hts _ wkl_L_36) dL_place_9 ?_
      exact glretW hx hb hr hlk hP hS (Nat.le_of_ble_eq_true rfl) (Nat.le_of_ble_eq_true rfl) dL_place_12 h
    replace h := gneg c5 h
    by_cases c6 : n3 = 1
    · replace h := gpos c6 h
      subst c6
      refine gCatch2 (n1 := 3) hown hts hX hT (by decide) wcl_L_34 (by decide) (by decide) (by decide) wcl_L_15 (by decide) hce hcv hcl ?_
      refine lv_astore_n (lv' := [(3, .ref q9), (0, .ref (gB Γ + 0)), (1, .int a1), (2, .int a2)]) hx hb dL_place_13 rfl hl (by decide) rfl (fun ls hl => ?_)
      refine lv_ldc2 (v := -9000000000000000002) hx hb hown (hts _ wkl_L_17) dL_place_14 ?_
      exact glretW hx hb hr hlk hP hS (Nat.le_of_ble_eq_true rfl) (Nat.le_of_ble_eq_true rfl) dL_place_17 h
    replace h := gneg c6 h
    cases h
  refine lv_i2l hx hb dL_place_6 rfl ?_
  exact glretW hx hb hr hlk hP hS (Nat.le_of_ble_eq_true rfl) (Nat.le_of_ble_eq_true rfl) dL_place_7 h
set_option maxHeartbeats 2000000 in
set_option maxRecDepth 20000 in
theorem m_L_holds (l : Launch) (hst : l.stackTraces = false) (Γ : gE)   (a1 : Int32) (a2 : Int32) (g : gG) (z : Int64 × gG) (h : f_L_holds a1 a2 g = some z) : gHl l yL_holds cL_holds 4 (some .long) [(0, 14, 15, 34), (0, 14, 20, 15)] 8 125 2 12 Γ [.ref (gB Γ + 0), .int a1, .int a2] g z := by
  unfold f_L_holds at h
  refine gStartH (own := RL) (by decide +kernel) rfl (Nat.le_of_ble_eq_true rfl) ?_
  intro p e s m below meth c C0 hT ls hl hP
  have hS : va_S (gA Γ) s.heap s.heap [] := va_S.rf
  have hl : lv_has ls 4 [(0, .ref (gB Γ + 0)), (1, .int a1), (2, .int a2)] := hl
  obtain ⟨hx, hb, hml, hr, hown, hts, hK, hlk, hX⟩ := id C0
  refine lv_aload_n hx hb dL_holds_0 rfl (lv_at hl 0 rfl) ?_
  refine lv_iload_n hx hb dL_holds_1 rfl (lv_at hl 1 rfl) ?_
  refine lv_iload_n hx hb dL_holds_2 rfl (lv_at hl 2 rfl) ?_
  refine gHV (rest := []) C0 cal_X9_holds wl_L_38 wi_X9_holds ws_X9_holds ⟨Nat.le_of_ble_eq_true rfl, Nat.le_of_ble_eq_true rfl⟩ ⟨Nat.le_of_ble_eq_true rfl, Nat.le_of_ble_eq_true rfl⟩ grv_9 [.int a1, .int a2] rfl (Nat.le_of_ble_eq_true rfl) hP hS hl.1 dL_holds_3 h (fun u hu => m_X9_holds l hst Γ a1 a2 g u hu) (fun n3 g4 H locs q9 ce h hP hS hce hcv hcl => ?_) (fun r2 g1 H locs h hP hS => ?_) rfl
  ·
    by_cases c5 : n3 = 3
    · replace h := gpos c5 h
      subst c5
      refine gCatch1 hown hts hX hT (by decide) (by decide) wcl_L_34 (by decide) hce hcv hcl ?_
      refine lv_astore_n (lv' := [(3, .ref q9), (0, .ref (gB Γ + 0)), (1, .int a1), (2, .int a2)]) hx hb dL_holds_15 rfl hl (by decide) rfl (fun ls hl => ?_)
      refine lv_ldc2 (v := -9000000000000000001) hx hb hown (hts _ wkl_L_36) dL_holds_16 ?_
      exact glretW hx hb hr hlk hP hS (Nat.le_of_ble_eq_true rfl) (Nat.le_of_ble_eq_true rfl) dL_holds_19 h
    replace h := gneg c5 h
    by_cases c6 : n3 = 1
    · replace h := gpos c6 h
      subst c6
      refine gCatch2 (n1 := 3) hown hts hX hT (by decide) wcl_L_34 (by decide) (by decide) (by decide) wcl_L_15 (by decide) hce hcv hcl ?_
      refine lv_astore_n (lv' := [(3, .ref q9), (0, .ref (gB Γ + 0)), (1, .int a1), (2, .int a2)]) hx hb dL_holds_20 rfl hl (by decide) rfl (fun ls hl => ?_)
      refine lv_ldc2 (v := -9000000000000000002) hx hb hown (hts _ wkl_L_17) dL_holds_21 ?_
      exact glretW hx hb hr hlk hP hS (Nat.le_of_ble_eq_true rfl) (Nat.le_of_ble_eq_true rfl) dL_holds_24 h
    replace h := gneg c6 h
    cases h
  refine lv_if_eq (tgt := 13) hx hb dL_holds_6 (by decide) (fun c7 => ?_) (fun c7 => ?_)
  · replace h := gpos c7 h
    refine lv_lconst (v := 0) hx hb dL_holds_13 (by decide) ?_
    exact glretW hx hb hr hlk hP hS (Nat.le_of_ble_eq_true rfl) (Nat.le_of_ble_eq_true rfl) dL_holds_14 h
  · replace h := gneg c7 h
    refine lv_lconst (v := 1) hx hb dL_holds_9 (by decide) ?_
    refine lv_goto (tgt := 14) hx hb dL_holds_10 (by decide) ?_
    exact glretW hx hb hr hlk hP hS (Nat.le_of_ble_eq_true rfl) (Nat.le_of_ble_eq_true rfl) dL_holds_14 h
set_option maxHeartbeats 2000000 in
set_option maxRecDepth 20000 in
theorem m_L_team (l : Launch) (hst : l.stackTraces = false) (Γ : gE)   (a1 : Int32) (a2 : Int32) (g : gG) (z : Int64 × gG) (h : f_L_team a1 a2 g = some z) : gHl l yL_team cL_team 4 (some .long) [(0, 7, 8, 34), (0, 7, 13, 15)] 8 125 2 12 Γ [.ref (gB Γ + 0), .int a1, .int a2] g z := by
  unfold f_L_team at h
  refine gStartH (own := RL) (by decide +kernel) rfl (Nat.le_of_ble_eq_true rfl) ?_
  intro p e s m below meth c C0 hT ls hl hP
  have hS : va_S (gA Γ) s.heap s.heap [] := va_S.rf
  have hl : lv_has ls 4 [(0, .ref (gB Γ + 0)), (1, .int a1), (2, .int a2)] := hl
  obtain ⟨hx, hb, hml, hr, hown, hts, hK, hlk, hX⟩ := id C0
  refine lv_aload_n hx hb dL_team_0 rfl (lv_at hl 0 rfl) ?_
  refine lv_iload_n hx hb dL_team_1 rfl (lv_at hl 1 rfl) ?_
  refine lv_iload_n hx hb dL_team_2 rfl (lv_at hl 2 rfl) ?_
  refine gHV (rest := []) C0 cal_X9_team wl_L_42 wi_X9_team ws_X9_team ⟨Nat.le_of_ble_eq_true rfl, Nat.le_of_ble_eq_true rfl⟩ ⟨Nat.le_of_ble_eq_true rfl, Nat.le_of_ble_eq_true rfl⟩ grv_9 [.int a1, .int a2] rfl (Nat.le_of_ble_eq_true rfl) hP hS hl.1 dL_team_3 h (fun u hu => m_X9_team l hst Γ a1 a2 g u hu) (fun n3 g4 H locs q9 ce h hP hS hce hcv hcl => ?_) (fun r2 g1 H locs h hP hS => ?_) rfl
  ·
    by_cases c5 : n3 = 3
    · replace h := gpos c5 h
      subst c5
      refine gCatch1 hown hts hX hT (by decide) (by decide) wcl_L_34 (by decide) hce hcv hcl ?_
      refine lv_astore_n (lv' := [(3, .ref q9), (0, .ref (gB Γ + 0)), (1, .int a1), (2, .int a2)]) hx hb dL_team_8 rfl hl (by decide) rfl (fun ls hl => ?_)
      refine lv_ldc2 (v := -9000000000000000001) hx hb hown (hts _ wkl_L_36) dL_team_9 ?_
      exact glretW hx hb hr hlk hP hS (Nat.le_of_ble_eq_true rfl) (Nat.le_of_ble_eq_true rfl) dL_team_12 h
    replace h := gneg c5 h
    by_cases c6 : n3 = 1
    · replace h := gpos c6 h
      subst c6
      refine gCatch2 (n1 := 3) hown hts hX hT (by decide) wcl_L_34 (by decide) (by decide) (by decide) wcl_L_15 (by decide) hce hcv hcl ?_
      refine lv_astore_n (lv' := [(3, .ref q9), (0, .ref (gB Γ + 0)), (1, .int a1), (2, .int a2)]) hx hb dL_team_13 rfl hl (by decide) rfl (fun ls hl => ?_)
      refine lv_ldc2 (v := -9000000000000000002) hx hb hown (hts _ wkl_L_17) dL_team_14 ?_
      exact glretW hx hb hr hlk hP hS (Nat.le_of_ble_eq_true rfl) (Nat.le_of_ble_eq_true rfl) dL_team_17 h
    replace h := gneg c6 h
    cases h
  refine lv_i2l hx hb dL_team_6 rfl ?_
  exact glretW hx hb hr hlk hP hS (Nat.le_of_ble_eq_true rfl) (Nat.le_of_ble_eq_true rfl) dL_team_7 h
set_option maxHeartbeats 2000000 in
set_option maxRecDepth 20000 in
theorem m_L_trail (l : Launch) (hst : l.stackTraces = false) (Γ : gE)   (a1 : Int32) (a2 : Int32) (g : gG) (z : Int64 × gG) (h : f_L_trail a1 a2 g = some z) : gHl l yL_trail cL_trail 4 (some .long) [(0, 7, 8, 34), (0, 7, 13, 15)] 8 125 2 12 Γ [.ref (gB Γ + 0), .int a1, .int a2] g z := by
  unfold f_L_trail at h
  refine gStartH (own := RL) (by decide +kernel) rfl (Nat.le_of_ble_eq_true rfl) ?_
  intro p e s m below meth c C0 hT ls hl hP
  have hS : va_S (gA Γ) s.heap s.heap [] := va_S.rf
  have hl : lv_has ls 4 [(0, .ref (gB Γ + 0)), (1, .int a1), (2, .int a2)] := hl
  obtain ⟨hx, hb, hml, hr, hown, hts, hK, hlk, hX⟩ := id C0
  refine lv_aload_n hx hb dL_trail_0 rfl (lv_at hl 0 rfl) ?_
  refine lv_iload_n hx hb dL_trail_1 rfl (lv_at hl 1 rfl) ?_
  refine lv_iload_n hx hb dL_trail_2 rfl (lv_at hl 2 rfl) ?_
  refine gHV (rest := []) C0 cal_X9_trail wl_L_45 wi_X9_trail ws_X9_trail ⟨Nat.le_of_ble_eq_true rfl, Nat.le_of_ble_eq_true rfl⟩ ⟨Nat.le_of_ble_eq_true rfl, Nat.le_of_ble_eq_true rfl⟩ grv_9 [.int a1, .int a2] rfl (Nat.le_of_ble_eq_true rfl) hP hS hl.1 dL_trail_3 h (fun u hu => m_X9_trail l hst Γ a1 a2 g u hu) (fun n3 g4 H locs q9 ce h hP hS hce hcv hcl => ?_) (fun r2 g1 H locs h hP hS => ?_) rfl
  ·
    by_cases c5 : n3 = 3
    · replace h := gpos c5 h
      subst c5
      refine gCatch1 hown hts hX hT (by decide) (by decide) wcl_L_34 (by decide) hce hcv hcl ?_
      refine lv_astore_n (lv' := [(3, .ref q9), (0, .ref (gB Γ + 0)), (1, .int a1), (2, .int a2)]) hx hb dL_trail_8 rfl hl (by decide) rfl (fun ls hl => ?_)
      refine lv_ldc2 (v := -9000000000000000001) hx hb hown (hts _ wkl_L_36) dL_trail_9 ?_
      exact glretW hx hb hr hlk hP hS (Nat.le_of_ble_eq_true rfl) (Nat.le_of_ble_eq_true rfl) dL_trail_12 h
    replace h := gneg c5 h
    by_cases c6 : n3 = 1
    · replace h := gpos c6 h
      subst c6
      refine gCatch2 (n1 := 3) hown hts hX hT (by decide) wcl_L_34 (by decide) (by decide) (by decide) wcl_L_15 (by decide) hce hcv hcl ?_
      refine lv_astore_n (lv' := [(3, .ref q9), (0, .ref (gB Γ + 0)), (1, .int a1), (2, .int a2)]) hx hb dL_trail_13 rfl hl (by decide) rfl (fun ls hl => ?_)
      refine lv_ldc2 (v := -9000000000000000002) hx hb hown (hts _ wkl_L_17) dL_trail_14 ?_
      exact glretW hx hb hr hlk hP hS (Nat.le_of_ble_eq_true rfl) (Nat.le_of_ble_eq_true rfl) dL_trail_17 h
    replace h := gneg c6 h
    cases h
  refine lv_i2l hx hb dL_trail_6 rfl ?_
  exact glretW hx hb hr hlk hP hS (Nat.le_of_ble_eq_true rfl) (Nat.le_of_ble_eq_true rfl) dL_trail_7 h
set_option maxHeartbeats 2000000 in
set_option maxRecDepth 20000 in
theorem m_L_open (l : Launch) (hst : l.stackTraces = false) (Γ : gE)   (a1 : Int32) (g : gG) (z : Int64 × gG) (h : f_L_open a1 g = some z) : gHl l yL_open cL_open 3 (some .long) [(0, 6, 7, 34)] 8 124 1 6 Γ [.ref (gB Γ + 0), .int a1] g z := by
  unfold f_L_open at h
  refine gStartH (own := RL) (by decide +kernel) rfl (Nat.le_of_ble_eq_true rfl) ?_
  intro p e s m below meth c C0 hT ls hl hP
  have hS : va_S (gA Γ) s.heap s.heap [] := va_S.rf
  have hl : lv_has ls 3 [(0, .ref (gB Γ + 0)), (1, .int a1)] := hl
  obtain ⟨hx, hb, hml, hr, hown, hts, hK, hlk, hX⟩ := id C0
  refine lv_aload_n hx hb dL_open_0 rfl (lv_at hl 0 rfl) ?_
  refine lv_iload_n hx hb dL_open_1 rfl (lv_at hl 1 rfl) ?_
  refine gHV (rest := []) C0 cal_X9_open wl_L_48 wi_X9_open ws_X9_open ⟨Nat.le_of_ble_eq_true rfl, Nat.le_of_ble_eq_true rfl⟩ ⟨Nat.le_of_ble_eq_true rfl, Nat.le_of_ble_eq_true rfl⟩ grv_9 [.int a1] rfl (Nat.le_of_ble_eq_true rfl) hP hS hl.1 dL_open_2 h (fun u hu => m_X9_open l hst Γ a1 g u hu) (fun n3 g4 H locs q9 ce h hP hS hce hcv hcl => ?_) (fun r2 g1 H locs h hP hS => ?_) rfl
  ·
    by_cases c5 : n3 = 3
    · replace h := gpos c5 h
      subst c5
      refine gCatch1 hown hts hX hT (by decide) (by decide) wcl_L_34 (by decide) hce hcv hcl ?_
      refine lv_astore_n (lv' := [(2, .ref q9), (0, .ref (gB Γ + 0)), (1, .int a1)]) hx hb dL_open_7 rfl hl (by decide) rfl (fun ls hl => ?_)
      refine lv_ldc2 (v := -9000000000000000001) hx hb hown (hts _ wkl_L_36) dL_open_8 ?_
      exact glretW hx hb hr hlk hP hS (Nat.le_of_ble_eq_true rfl) (Nat.le_of_ble_eq_true rfl) dL_open_11 h
    replace h := gneg c5 h
    cases h
  refine lv_i2l hx hb dL_open_5 rfl ?_
  exact glretW hx hb hr hlk hP hS (Nat.le_of_ble_eq_true rfl) (Nat.le_of_ble_eq_true rfl) dL_open_6 h
set_option maxHeartbeats 2000000 in
set_option maxRecDepth 20000 in
theorem m_L_addTeam (l : Launch) (hst : l.stackTraces = false) (Γ : gE)    (g : gG) (z : Int64 × gG) (h : f_L_addTeam g = some z) : gHl l yL_addTeam cL_addTeam 2 (some .long) [(0, 5, 6, 19)] 7 102 1 6 Γ [.ref (gB Γ + 0)] g z := by
  unfold f_L_addTeam at h
  refine gStartH (own := RL) (by decide +kernel) rfl (Nat.le_of_ble_eq_true rfl) ?_
  intro p e s m below meth c C0 hT ls hl hP
  have hS : va_S (gA Γ) s.heap s.heap [] := va_S.rf
  have hl : lv_has ls 2 [(0, .ref (gB Γ + 0))] := hl
  obtain ⟨hx, hb, hml, hr, hown, hts, hK, hlk, hX⟩ := id C0
  refine lv_aload_n hx hb dL_addTeam_0 rfl (lv_at hl 0 rfl) ?_
  refine gHV (rest := []) C0 cal_X9_addTeam wl_L_51 wi_X9_addTeam ws_X9_addTeam ⟨Nat.le_of_ble_eq_true rfl, Nat.le_of_ble_eq_true rfl⟩ ⟨Nat.le_of_ble_eq_true rfl, Nat.le_of_ble_eq_true rfl⟩ grv_9 [] rfl (Nat.le_of_ble_eq_true rfl) hP hS hl.1 dL_addTeam_1 h (fun u hu => m_X9_addTeam l hst Γ g u hu) (fun n3 g4 H locs q9 ce h hP hS hce hcv hcl => ?_) (fun r2 g1 H locs h hP hS => ?_) rfl
  ·
    by_cases c5 : n3 = 2
    · replace h := gpos c5 h
      subst c5
      refine gCatch1 hown hts hX hT (by decide) (by decide) wcl_L_19 (by decide) hce hcv hcl ?_
      refine lv_astore_n (lv' := [(1, .ref q9), (0, .ref (gB Γ + 0))]) hx hb dL_addTeam_6 rfl hl (by decide) rfl (fun ls hl => ?_)
      refine lv_ldc2 (v := -9000000000000000003) hx hb hown (hts _ wkl_L_21) dL_addTeam_7 ?_
      exact glretW hx hb hr hlk hP hS (Nat.le_of_ble_eq_true rfl) (Nat.le_of_ble_eq_true rfl) dL_addTeam_10 h
    replace h := gneg c5 h
    cases h
  refine lv_i2l hx hb dL_addTeam_4 rfl ?_
  exact glretW hx hb hr hlk hP hS (Nat.le_of_ble_eq_true rfl) (Nat.le_of_ble_eq_true rfl) dL_addTeam_5 h
set_option maxHeartbeats 2000000 in
set_option maxRecDepth 20000 in
theorem m_L_go (l : Launch) (hst : l.stackTraces = false) (Γ : gE)   (a1 : Int32) (a2 : Int32) (g : gG) (z : Int64 × gG) (h : f_L_go a1 a2 g = some z) : gHl l yL_go cL_go 4 (some .long) [(0, 7, 8, 34), (0, 7, 13, 19)] 8 125 3 18 Γ [.ref (gB Γ + 0), .int a1, .int a2] g z := by
  unfold f_L_go at h
  refine gStartH (own := RL) (by decide +kernel) rfl (Nat.le_of_ble_eq_true rfl) ?_
  intro p e s m below meth c C0 hT ls hl hP
  have hS : va_S (gA Γ) s.heap s.heap [] := va_S.rf
  have hl : lv_has ls 4 [(0, .ref (gB Γ + 0)), (1, .int a1), (2, .int a2)] := hl
  obtain ⟨hx, hb, hml, hr, hown, hts, hK, hlk, hX⟩ := id C0
  refine lv_aload_n hx hb dL_go_0 rfl (lv_at hl 0 rfl) ?_
  refine lv_iload_n hx hb dL_go_1 rfl (lv_at hl 1 rfl) ?_
  refine lv_iload_n hx hb dL_go_2 rfl (lv_at hl 2 rfl) ?_
  refine gHV (rest := []) C0 cal_X9_go wl_L_54 wi_X9_go ws_X9_go ⟨Nat.le_of_ble_eq_true rfl, Nat.le_of_ble_eq_true rfl⟩ ⟨Nat.le_of_ble_eq_true rfl, Nat.le_of_ble_eq_true rfl⟩ grv_9 [.int a1, .int a2] rfl (Nat.le_of_ble_eq_true rfl) hP hS hl.1 dL_go_3 h (fun u hu => m_X9_go l hst Γ a1 a2 g u hu) (fun n3 g4 H locs q9 ce h hP hS hce hcv hcl => ?_) (fun r2 g1 H locs h hP hS => ?_) rfl
  ·
    by_cases c5 : n3 = 3
    · replace h := gpos c5 h
      subst c5
      refine gCatch1 hown hts hX hT (by decide) (by decide) wcl_L_34 (by decide) hce hcv hcl ?_
      refine lv_astore_n (lv' := [(3, .ref q9), (0, .ref (gB Γ + 0)), (1, .int a1), (2, .int a2)]) hx hb dL_go_8 rfl hl (by decide) rfl (fun ls hl => ?_)
      refine lv_ldc2 (v := -9000000000000000001) hx hb hown (hts _ wkl_L_36) dL_go_9 ?_
      exact glretW hx hb hr hlk hP hS (Nat.le_of_ble_eq_true rfl) (Nat.le_of_ble_eq_true rfl) dL_go_12 h
    replace h := gneg c5 h
    by_cases c6 : n3 = 2
    · replace h := gpos c6 h
      subst c6
      refine gCatch2 (n1 := 3) hown hts hX hT (by decide) wcl_L_34 (by decide) (by decide) (by decide) wcl_L_19 (by decide) hce hcv hcl ?_
      refine lv_astore_n (lv' := [(3, .ref q9), (0, .ref (gB Γ + 0)), (1, .int a1), (2, .int a2)]) hx hb dL_go_13 rfl hl (by decide) rfl (fun ls hl => ?_)
      refine lv_ldc2 (v := -9000000000000000003) hx hb hown (hts _ wkl_L_21) dL_go_14 ?_
      exact glretW hx hb hr hlk hP hS (Nat.le_of_ble_eq_true rfl) (Nat.le_of_ble_eq_true rfl) dL_go_17 h
    replace h := gneg c6 h
    cases h
  refine lv_i2l hx hb dL_go_6 rfl ?_
  exact glretW hx hb hr hlk hP hS (Nat.le_of_ble_eq_true rfl) (Nat.le_of_ble_eq_true rfl) dL_go_7 h
set_option maxHeartbeats 2000000 in
set_option maxRecDepth 20000 in
theorem m_L_hint (l : Launch) (hst : l.stackTraces = false) (Γ : gE)   (a1 : Int32) (g : gG) (z : Int64 × gG) (h : f_L_hint a1 g = some z) : gHl l yL_hint cL_hint 3 (some .long) [(0, 6, 7, 34), (0, 6, 12, 19)] 8 125 2 12 Γ [.ref (gB Γ + 0), .int a1] g z := by
  unfold f_L_hint at h
  refine gStartH (own := RL) (by decide +kernel) rfl (Nat.le_of_ble_eq_true rfl) ?_
  intro p e s m below meth c C0 hT ls hl hP
  have hS : va_S (gA Γ) s.heap s.heap [] := va_S.rf
  have hl : lv_has ls 3 [(0, .ref (gB Γ + 0)), (1, .int a1)] := hl
  obtain ⟨hx, hb, hml, hr, hown, hts, hK, hlk, hX⟩ := id C0
  refine lv_aload_n hx hb dL_hint_0 rfl (lv_at hl 0 rfl) ?_
  refine lv_iload_n hx hb dL_hint_1 rfl (lv_at hl 1 rfl) ?_
  refine gHV (rest := []) C0 cal_X9_hint wl_L_57 wi_X9_hint ws_X9_hint ⟨Nat.le_of_ble_eq_true rfl, Nat.le_of_ble_eq_true rfl⟩ ⟨Nat.le_of_ble_eq_true rfl, Nat.le_of_ble_eq_true rfl⟩ grv_9 [.int a1] rfl (Nat.le_of_ble_eq_true rfl) hP hS hl.1 dL_hint_2 h (fun u hu => m_X9_hint l hst Γ a1 g u hu) (fun n3 g4 H locs q9 ce h hP hS hce hcv hcl => ?_) (fun r2 g1 H locs h hP hS => ?_) rfl
  ·
    by_cases c5 : n3 = 3
    · replace h := gpos c5 h
      subst c5
      refine gCatch1 hown hts hX hT (by decide) (by decide) wcl_L_34 (by decide) hce hcv hcl ?_
      refine lv_astore_n (lv' := [(2, .ref q9), (0, .ref (gB Γ + 0)), (1, .int a1)]) hx hb dL_hint_7 rfl hl (by decide) rfl (fun ls hl => ?_)
      refine lv_ldc2 (v := -9000000000000000001) hx hb hown (hts _ wkl_L_36) dL_hint_8 ?_
      exact glretW hx hb hr hlk hP hS (Nat.le_of_ble_eq_true rfl) (Nat.le_of_ble_eq_true rfl) dL_hint_11 h
    replace h := gneg c5 h
    by_cases c6 : n3 = 2
    · replace h := gpos c6 h
      subst c6
      refine gCatch2 (n1 := 3) hown hts hX hT (by decide) wcl_L_34 (by decide) (by decide) (by decide) wcl_L_19 (by decide) hce hcv hcl ?_
      refine lv_astore_n (lv' := [(2, .ref q9), (0, .ref (gB Γ + 0)), (1, .int a1)]) hx hb dL_hint_12 rfl hl (by decide) rfl (fun ls hl => ?_)
      refine lv_ldc2 (v := -9000000000000000003) hx hb hown (hts _ wkl_L_21) dL_hint_13 ?_
      exact glretW hx hb hr hlk hP hS (Nat.le_of_ble_eq_true rfl) (Nat.le_of_ble_eq_true rfl) dL_hint_16 h
    replace h := gneg c6 h
    cases h
  refine lv_i2l hx hb dL_hint_5 rfl ?_
  exact glretW hx hb hr hlk hP hS (Nat.le_of_ble_eq_true rfl) (Nat.le_of_ble_eq_true rfl) dL_hint_6 h
set_option maxHeartbeats 2000000 in
set_option maxRecDepth 20000 in
theorem m_L_giveUp (l : Launch) (hst : l.stackTraces = false) (Γ : gE)   (a1 : Int32) (g : gG) (z : Int64 × gG) (h : f_L_giveUp a1 g = some z) : gHl l yL_giveUp cL_giveUp 3 (some .long) [(0, 6, 7, 34)] 8 124 1 6 Γ [.ref (gB Γ + 0), .int a1] g z := by
  unfold f_L_giveUp at h
  refine gStartH (own := RL) (by decide +kernel) rfl (Nat.le_of_ble_eq_true rfl) ?_
  intro p e s m below meth c C0 hT ls hl hP
  have hS : va_S (gA Γ) s.heap s.heap [] := va_S.rf
  have hl : lv_has ls 3 [(0, .ref (gB Γ + 0)), (1, .int a1)] := hl
  obtain ⟨hx, hb, hml, hr, hown, hts, hK, hlk, hX⟩ := id C0
  refine lv_aload_n hx hb dL_giveUp_0 rfl (lv_at hl 0 rfl) ?_
  refine lv_iload_n hx hb dL_giveUp_1 rfl (lv_at hl 1 rfl) ?_
  refine gHV (rest := []) C0 cal_X9_giveUp wl_L_60 wi_X9_giveUp ws_X9_giveUp ⟨Nat.le_of_ble_eq_true rfl, Nat.le_of_ble_eq_true rfl⟩ ⟨Nat.le_of_ble_eq_true rfl, Nat.le_of_ble_eq_true rfl⟩ grv_9 [.int a1] rfl (Nat.le_of_ble_eq_true rfl) hP hS hl.1 dL_giveUp_2 h (fun u hu => m_X9_giveUp l hst Γ a1 g u hu) (fun n3 g4 H locs q9 ce h hP hS hce hcv hcl => ?_) (fun r2 g1 H locs h hP hS => ?_) rfl
  ·
    by_cases c5 : n3 = 3
    · replace h := gpos c5 h
      subst c5
      refine gCatch1 hown hts hX hT (by decide) (by decide) wcl_L_34 (by decide) hce hcv hcl ?_
      refine lv_astore_n (lv' := [(2, .ref q9), (0, .ref (gB Γ + 0)), (1, .int a1)]) hx hb dL_giveUp_7 rfl hl (by decide) rfl (fun ls hl => ?_)
      refine lv_ldc2 (v := -9000000000000000001) hx hb hown (hts _ wkl_L_36) dL_giveUp_8 ?_
      exact glretW hx hb hr hlk hP hS (Nat.le_of_ble_eq_true rfl) (Nat.le_of_ble_eq_true rfl) dL_giveUp_11 h
    replace h := gneg c5 h
    cases h
  refine lv_i2l hx hb dL_giveUp_5 rfl ?_
  exact glretW hx hb hr hlk hP hS (Nat.le_of_ble_eq_true rfl) (Nat.le_of_ble_eq_true rfl) dL_giveUp_6 h
set_option maxHeartbeats 2000000 in
set_option maxRecDepth 20000 in
theorem m_L_move (l : Launch) (hst : l.stackTraces = false) (Γ : gE)   (a1 : Int32) (a2 : Int32) (a3 : Int32) (g : gG) (z : Int64 × gG) (h : f_L_move a1 a2 a3 g = some z) : gHl l yL_move cL_move 5 (some .long) [(0, 8, 9, 34), (0, 8, 15, 15)] 8 126 2 12 Γ [.ref (gB Γ + 0), .int a1, .int a2, .int a3] g z := by
  unfold f_L_move at h
  refine gStartH (own := RL) (by decide +kernel) rfl (Nat.le_of_ble_eq_true rfl) ?_
  intro p e s m below meth c C0 hT ls hl hP
  have hS : va_S (gA Γ) s.heap s.heap [] := va_S.rf
  have hl : lv_has ls 5 [(0, .ref (gB Γ + 0)), (1, .int a1), (2, .int a2), (3, .int a3)] := hl
  obtain ⟨hx, hb, hml, hr, hown, hts, hK, hlk, hX⟩ := id C0
  refine lv_aload_n hx hb dL_move_0 rfl (lv_at hl 0 rfl) ?_
  refine lv_iload_n hx hb dL_move_1 rfl (lv_at hl 1 rfl) ?_
  refine lv_iload_n hx hb dL_move_2 rfl (lv_at hl 2 rfl) ?_
  refine lv_iload_n hx hb dL_move_3 rfl (lv_at hl 3 rfl) ?_
  refine gHV (rest := []) C0 cal_X9_move wl_L_63 wi_X9_move ws_X9_move ⟨Nat.le_of_ble_eq_true rfl, Nat.le_of_ble_eq_true rfl⟩ ⟨Nat.le_of_ble_eq_true rfl, Nat.le_of_ble_eq_true rfl⟩ grv_9 [.int a1, .int a2, .int a3] rfl (Nat.le_of_ble_eq_true rfl) hP hS hl.1 dL_move_4 h (fun u hu => m_X9_move l hst Γ a1 a2 a3 g u hu) (fun n3 g4 H locs q9 ce h hP hS hce hcv hcl => ?_) (fun r2 g1 H locs h hP hS => ?_) rfl
  ·
    by_cases c5 : n3 = 3
    · replace h := gpos c5 h
      subst c5
      refine gCatch1 hown hts hX hT (by decide) (by decide) wcl_L_34 (by decide) hce hcv hcl ?_
      refine lv_astore (lv' := [(4, .ref q9), (0, .ref (gB Γ + 0)), (1, .int a1), (2, .int a2), (3, .int a3)]) hx hb dL_move_9 hl (by decide) rfl (fun ls hl => ?_)
      refine lv_ldc2 (v := -9000000000000000001) hx hb hown (hts _ wkl_L_36) dL_move_11 ?_
      exact glretW hx hb hr hlk hP hS (Nat.le_of_ble_eq_true rfl) (Nat.le_of_ble_eq_true rfl) dL_move_14 h
    replace h := gneg c5 h
    by_cases c6 : n3 = 1
    · replace h := gpos c6 h
      subst c6
      refine gCatch2 (n1 := 3) hown hts hX hT (by decide) wcl_L_34 (by decide) (by decide) (by decide) wcl_L_15 (by decide) hce hcv hcl ?_
      refine lv_astore (lv' := [(4, .ref q9), (0, .ref (gB Γ + 0)), (1, .int a1), (2, .int a2), (3, .int a3)]) hx hb dL_move_15 hl (by decide) rfl (fun ls hl => ?_)
      refine lv_ldc2 (v := -9000000000000000002) hx hb hown (hts _ wkl_L_17) dL_move_17 ?_
      exact glretW hx hb hr hlk hP hS (Nat.le_of_ble_eq_true rfl) (Nat.le_of_ble_eq_true rfl) dL_move_20 h
    replace h := gneg c6 h
    cases h
  refine lv_i2l hx hb dL_move_7 rfl ?_
  exact glretW hx hb hr hlk hP hS (Nat.le_of_ble_eq_true rfl) (Nat.le_of_ble_eq_true rfl) dL_move_8 h
set_option maxHeartbeats 2000000 in
set_option maxRecDepth 20000 in
theorem m_L_ease (l : Launch) (hst : l.stackTraces = false) (Γ : gE)   (a1 : Int32) (g : gG) (z : Int64 × gG) (h : f_L_ease a1 g = some z) : gHl l yL_ease cL_ease 3 (some .long) [(0, 6, 7, 34)] 8 125 1 6 Γ [.ref (gB Γ + 0), .int a1] g z := by
  unfold f_L_ease at h
  refine gStartH (own := RL) (by decide +kernel) rfl (Nat.le_of_ble_eq_true rfl) ?_
  intro p e s m below meth c C0 hT ls hl hP
  have hS : va_S (gA Γ) s.heap s.heap [] := va_S.rf
  have hl : lv_has ls 3 [(0, .ref (gB Γ + 0)), (1, .int a1)] := hl
  obtain ⟨hx, hb, hml, hr, hown, hts, hK, hlk, hX⟩ := id C0
  refine lv_aload_n hx hb dL_ease_0 rfl (lv_at hl 0 rfl) ?_
  refine lv_iload_n hx hb dL_ease_1 rfl (lv_at hl 1 rfl) ?_
  refine gHV (rest := []) C0 cal_X9_ease wl_L_67 wi_X9_ease ws_X9_ease ⟨Nat.le_of_ble_eq_true rfl, Nat.le_of_ble_eq_true rfl⟩ ⟨Nat.le_of_ble_eq_true rfl, Nat.le_of_ble_eq_true rfl⟩ grv_9 [.int a1] rfl (Nat.le_of_ble_eq_true rfl) hP hS hl.1 dL_ease_2 h (fun u hu => m_X9_ease l hst Γ a1 g u hu) (fun n3 g4 H locs q9 ce h hP hS hce hcv hcl => ?_) (fun r2 g1 H locs h hP hS => ?_) rfl
  ·
    by_cases c5 : n3 = 3
    · replace h := gpos c5 h
      subst c5
      refine gCatch1 hown hts hX hT (by decide) (by decide) wcl_L_34 (by decide) hce hcv hcl ?_
      refine lv_astore_n (lv' := [(2, .ref q9), (0, .ref (gB Γ + 0)), (1, .int a1)]) hx hb dL_ease_7 rfl hl (by decide) rfl (fun ls hl => ?_)
      refine lv_ldc2 (v := -9000000000000000001) hx hb hown (hts _ wkl_L_36) dL_ease_8 ?_
      exact glretW hx hb hr hlk hP hS (Nat.le_of_ble_eq_true rfl) (Nat.le_of_ble_eq_true rfl) dL_ease_11 h
    replace h := gneg c5 h
    cases h
  refine lv_i2l hx hb dL_ease_5 rfl ?_
  exact glretW hx hb hr hlk hP hS (Nat.le_of_ble_eq_true rfl) (Nat.le_of_ble_eq_true rfl) dL_ease_6 h
set_option maxHeartbeats 2000000 in
set_option maxRecDepth 20000 in
theorem m_L_undo (l : Launch) (hst : l.stackTraces = false) (Γ : gE)    (g : gG) (z : Int64 × gG) (h : f_L_undo g = some z) : gHl l yL_undo cL_undo 2 (some .long) [(0, 5, 6, 19)] 7 102 1 6 Γ [.ref (gB Γ + 0)] g z := by
  unfold f_L_undo at h
  refine gStartH (own := RL) (by decide +kernel) rfl (Nat.le_of_ble_eq_true rfl) ?_
  intro p e s m below meth c C0 hT ls hl hP
  have hS : va_S (gA Γ) s.heap s.heap [] := va_S.rf
  have hl : lv_has ls 2 [(0, .ref (gB Γ + 0))] := hl
  obtain ⟨hx, hb, hml, hr, hown, hts, hK, hlk, hX⟩ := id C0
  refine lv_aload_n hx hb dL_undo_0 rfl (lv_at hl 0 rfl) ?_
  refine gHV (rest := []) C0 cal_X9_undo wl_L_70 wi_X9_undo ws_X9_undo ⟨Nat.le_of_ble_eq_true rfl, Nat.le_of_ble_eq_true rfl⟩ ⟨Nat.le_of_ble_eq_true rfl, Nat.le_of_ble_eq_true rfl⟩ grv_9 [] rfl (Nat.le_of_ble_eq_true rfl) hP hS hl.1 dL_undo_1 h (fun u hu => m_X9_undo l hst Γ g u hu) (fun n3 g4 H locs q9 ce h hP hS hce hcv hcl => ?_) (fun r2 g1 H locs h hP hS => ?_) rfl
  ·
    by_cases c5 : n3 = 2
    · replace h := gpos c5 h
      subst c5
      refine gCatch1 hown hts hX hT (by decide) (by decide) wcl_L_19 (by decide) hce hcv hcl ?_
      refine lv_astore_n (lv' := [(1, .ref q9), (0, .ref (gB Γ + 0))]) hx hb dL_undo_6 rfl hl (by decide) rfl (fun ls hl => ?_)
      refine lv_ldc2 (v := -9000000000000000003) hx hb hown (hts _ wkl_L_21) dL_undo_7 ?_
      exact glretW hx hb hr hlk hP hS (Nat.le_of_ble_eq_true rfl) (Nat.le_of_ble_eq_true rfl) dL_undo_10 h
    replace h := gneg c5 h
    cases h
  refine lv_i2l hx hb dL_undo_4 rfl ?_
  exact glretW hx hb hr hlk hP hS (Nat.le_of_ble_eq_true rfl) (Nat.le_of_ble_eq_true rfl) dL_undo_5 h
set_option maxHeartbeats 2000000 in
set_option maxRecDepth 20000 in
theorem m_L_shortest (l : Launch) (hst : l.stackTraces = false) (Γ : gE)   (a1 : Int32) (a2 : Int32) (g : gG) (z : Int64 × gG) (h : f_L_shortest a1 a2 g = some z) : gHl l yL_shortest cL_shortest 4 (some .long) [(0, 7, 8, 34), (0, 7, 13, 15)] 8 125 2 12 Γ [.ref (gB Γ + 0), .int a1, .int a2] g z := by
  unfold f_L_shortest at h
  refine gStartH (own := RL) (by decide +kernel) rfl (Nat.le_of_ble_eq_true rfl) ?_
  intro p e s m below meth c C0 hT ls hl hP
  have hS : va_S (gA Γ) s.heap s.heap [] := va_S.rf
  have hl : lv_has ls 4 [(0, .ref (gB Γ + 0)), (1, .int a1), (2, .int a2)] := hl
  obtain ⟨hx, hb, hml, hr, hown, hts, hK, hlk, hX⟩ := id C0
  refine lv_aload_n hx hb dL_shortest_0 rfl (lv_at hl 0 rfl) ?_
  refine lv_iload_n hx hb dL_shortest_1 rfl (lv_at hl 1 rfl) ?_
  refine lv_iload_n hx hb dL_shortest_2 rfl (lv_at hl 2 rfl) ?_
  refine gHV (rest := []) C0 cal_X9_shortest wl_L_73 wi_X9_shortest ws_X9_shortest ⟨Nat.le_of_ble_eq_true rfl, Nat.le_of_ble_eq_true rfl⟩ ⟨Nat.le_of_ble_eq_true rfl, Nat.le_of_ble_eq_true rfl⟩ grv_9 [.int a1, .int a2] rfl (Nat.le_of_ble_eq_true rfl) hP hS hl.1 dL_shortest_3 h (fun u hu => m_X9_shortest l hst Γ a1 a2 g u hu) (fun n3 g4 H locs q9 ce h hP hS hce hcv hcl => ?_) (fun r2 g1 H locs h hP hS => ?_) rfl
  ·
    by_cases c5 : n3 = 3
    · replace h := gpos c5 h
      subst c5
      refine gCatch1 hown hts hX hT (by decide) (by decide) wcl_L_34 (by decide) hce hcv hcl ?_
      refine lv_astore_n (lv' := [(3, .ref q9), (0, .ref (gB Γ + 0)), (1, .int a1), (2, .int a2)]) hx hb dL_shortest_8 rfl hl (by decide) rfl (fun ls hl => ?_)
      refine lv_ldc2 (v := -9000000000000000001) hx hb hown (hts _ wkl_L_36) dL_shortest_9 ?_
      exact glretW hx hb hr hlk hP hS (Nat.le_of_ble_eq_true rfl) (Nat.le_of_ble_eq_true rfl) dL_shortest_12 h
    replace h := gneg c5 h
    by_cases c6 : n3 = 1
    · replace h := gpos c6 h
      subst c6
      refine gCatch2 (n1 := 3) hown hts hX hT (by decide) wcl_L_34 (by decide) (by decide) (by decide) wcl_L_15 (by decide) hce hcv hcl ?_
      refine lv_astore_n (lv' := [(3, .ref q9), (0, .ref (gB Γ + 0)), (1, .int a1), (2, .int a2)]) hx hb dL_shortest_13 rfl hl (by decide) rfl (fun ls hl => ?_)
      refine lv_ldc2 (v := -9000000000000000002) hx hb hown (hts _ wkl_L_17) dL_shortest_14 ?_
      exact glretW hx hb hr hlk hP hS (Nat.le_of_ble_eq_true rfl) (Nat.le_of_ble_eq_true rfl) dL_shortest_17 h
    replace h := gneg c6 h
    cases h
  refine lv_i2l hx hb dL_shortest_6 rfl ?_
  exact glretW hx hb hr hlk hP hS (Nat.le_of_ble_eq_true rfl) (Nat.le_of_ble_eq_true rfl) dL_shortest_7 h
set_option maxHeartbeats 2000000 in
set_option maxRecDepth 20000 in
theorem m_L_quickest (l : Launch) (hst : l.stackTraces = false) (Γ : gE)   (a1 : Int32) (a2 : Int32) (g : gG) (z : Int64 × gG) (h : f_L_quickest a1 a2 g = some z) : gHl l yL_quickest cL_quickest 4 (some .long) [(0, 7, 8, 34), (0, 7, 13, 15)] 8 146 2 12 Γ [.ref (gB Γ + 0), .int a1, .int a2] g z := by
  unfold f_L_quickest at h
  refine gStartH (own := RL) (by decide +kernel) rfl (Nat.le_of_ble_eq_true rfl) ?_
  intro p e s m below meth c C0 hT ls hl hP
  have hS : va_S (gA Γ) s.heap s.heap [] := va_S.rf
  have hl : lv_has ls 4 [(0, .ref (gB Γ + 0)), (1, .int a1), (2, .int a2)] := hl
  obtain ⟨hx, hb, hml, hr, hown, hts, hK, hlk, hX⟩ := id C0
  refine lv_aload_n hx hb dL_quickest_0 rfl (lv_at hl 0 rfl) ?_
  refine lv_iload_n hx hb dL_quickest_1 rfl (lv_at hl 1 rfl) ?_
  refine lv_iload_n hx hb dL_quickest_2 rfl (lv_at hl 2 rfl) ?_
  refine gHV (rest := []) C0 cal_X9_quickest wl_L_76 wi_X9_quickest ws_X9_quickest ⟨Nat.le_of_ble_eq_true rfl, Nat.le_of_ble_eq_true rfl⟩ ⟨Nat.le_of_ble_eq_true rfl, Nat.le_of_ble_eq_true rfl⟩ grv_9 [.int a1, .int a2] rfl (Nat.le_of_ble_eq_true rfl) hP hS hl.1 dL_quickest_3 h (fun u hu => m_X9_quickest l hst Γ a1 a2 g u hu) (fun n3 g4 H locs q9 ce h hP hS hce hcv hcl => ?_) (fun r2 g1 H locs h hP hS => ?_) rfl
  ·
    by_cases c5 : n3 = 3
    · replace h := gpos c5 h
      subst c5
      refine gCatch1 hown hts hX hT (by decide) (by decide) wcl_L_34 (by decide) hce hcv hcl ?_
      refine lv_astore_n (lv' := [(3, .ref q9), (0, .ref (gB Γ + 0)), (1, .int a1), (2, .int a2)]) hx hb dL_quickest_8 rfl hl (by decide) rfl (fun ls hl => ?_)
      refine lv_ldc2 (v := -9000000000000000001) hx hb hown (hts _ wkl_L_36) dL_quickest_9 ?_
      exact glretW hx hb hr hlk hP hS (Nat.le_of_ble_eq_true rfl) (Nat.le_of_ble_eq_true rfl) dL_quickest_12 h
    replace h := gneg c5 h
    by_cases c6 : n3 = 1
    · replace h := gpos c6 h
      subst c6
      refine gCatch2 (n1 := 3) hown hts hX hT (by decide) wcl_L_34 (by decide) (by decide) (by decide) wcl_L_15 (by decide) hce hcv hcl ?_
      refine lv_astore_n (lv' := [(3, .ref q9), (0, .ref (gB Γ + 0)), (1, .int a1), (2, .int a2)]) hx hb dL_quickest_13 rfl hl (by decide) rfl (fun ls hl => ?_)
      refine lv_ldc2 (v := -9000000000000000002) hx hb hown (hts _ wkl_L_17) dL_quickest_14 ?_
      exact glretW hx hb hr hlk hP hS (Nat.le_of_ble_eq_true rfl) (Nat.le_of_ble_eq_true rfl) dL_quickest_17 h
    replace h := gneg c6 h
    cases h
  refine lv_i2l hx hb dL_quickest_6 rfl ?_
  exact glretW hx hb hr hlk hP hS (Nat.le_of_ble_eq_true rfl) (Nat.le_of_ble_eq_true rfl) dL_quickest_7 h
set_option maxHeartbeats 2000000 in
set_option maxRecDepth 20000 in
theorem m_L_orders (l : Launch) (hst : l.stackTraces = false) (Γ : gE)   (a1 : Int32) (g : gG) (z : Int64 × gG) (h : f_L_orders a1 g = some z) : gHl l yL_orders cL_orders 3 (some .long) [(0, 6, 7, 34)] 8 124 1 6 Γ [.ref (gB Γ + 0), .int a1] g z := by
  unfold f_L_orders at h
  refine gStartH (own := RL) (by decide +kernel) rfl (Nat.le_of_ble_eq_true rfl) ?_
  intro p e s m below meth c C0 hT ls hl hP
  have hS : va_S (gA Γ) s.heap s.heap [] := va_S.rf
  have hl : lv_has ls 3 [(0, .ref (gB Γ + 0)), (1, .int a1)] := hl
  obtain ⟨hx, hb, hml, hr, hown, hts, hK, hlk, hX⟩ := id C0
  refine lv_aload_n hx hb dL_orders_0 rfl (lv_at hl 0 rfl) ?_
  refine lv_iload_n hx hb dL_orders_1 rfl (lv_at hl 1 rfl) ?_
  refine gHV (rest := []) C0 cal_X9_orders wl_L_79 wi_X9_orders ws_X9_orders ⟨Nat.le_of_ble_eq_true rfl, Nat.le_of_ble_eq_true rfl⟩ ⟨Nat.le_of_ble_eq_true rfl, Nat.le_of_ble_eq_true rfl⟩ grv_9 [.int a1] rfl (Nat.le_of_ble_eq_true rfl) hP hS hl.1 dL_orders_2 h (fun u hu => m_X9_orders l hst Γ a1 g u hu) (fun n3 g4 H locs q9 ce h hP hS hce hcv hcl => ?_) (fun r2 g1 H locs h hP hS => ?_) rfl
  ·
    by_cases c5 : n3 = 3
    · replace h := gpos c5 h
      subst c5
      refine gCatch1 hown hts hX hT (by decide) (by decide) wcl_L_34 (by decide) hce hcv hcl ?_
      refine lv_astore_n (lv' := [(2, .ref q9), (0, .ref (gB Γ + 0)), (1, .int a1)]) hx hb dL_orders_7 rfl hl (by decide) rfl (fun ls hl => ?_)
      refine lv_ldc2 (v := -9000000000000000001) hx hb hown (hts _ wkl_L_36) dL_orders_8 ?_
      exact glretW hx hb hr hlk hP hS (Nat.le_of_ble_eq_true rfl) (Nat.le_of_ble_eq_true rfl) dL_orders_11 h
    replace h := gneg c5 h
    cases h
  refine lv_i2l hx hb dL_orders_5 rfl ?_
  exact glretW hx hb hr hlk hP hS (Nat.le_of_ble_eq_true rfl) (Nat.le_of_ble_eq_true rfl) dL_orders_6 h
set_option maxHeartbeats 2000000 in
set_option maxRecDepth 20000 in
theorem m_L_safe (l : Launch) (hst : l.stackTraces = false) (Γ : gE)   (a1 : Int32) (g : gG) (z : Int64 × gG) (h : f_L_safe a1 g = some z) : gHl l yL_safe cL_safe 3 (some .long) [(0, 6, 7, 34)] 8 124 1 6 Γ [.ref (gB Γ + 0), .int a1] g z := by
  unfold f_L_safe at h
  refine gStartH (own := RL) (by decide +kernel) rfl (Nat.le_of_ble_eq_true rfl) ?_
  intro p e s m below meth c C0 hT ls hl hP
  have hS : va_S (gA Γ) s.heap s.heap [] := va_S.rf
  have hl : lv_has ls 3 [(0, .ref (gB Γ + 0)), (1, .int a1)] := hl
  obtain ⟨hx, hb, hml, hr, hown, hts, hK, hlk, hX⟩ := id C0
  refine lv_aload_n hx hb dL_safe_0 rfl (lv_at hl 0 rfl) ?_
  refine lv_iload_n hx hb dL_safe_1 rfl (lv_at hl 1 rfl) ?_
  refine gHV (rest := []) C0 cal_X9_safe wl_L_82 wi_X9_safe ws_X9_safe ⟨Nat.le_of_ble_eq_true rfl, Nat.le_of_ble_eq_true rfl⟩ ⟨Nat.le_of_ble_eq_true rfl, Nat.le_of_ble_eq_true rfl⟩ grv_9 [.int a1] rfl (Nat.le_of_ble_eq_true rfl) hP hS hl.1 dL_safe_2 h (fun u hu => m_X9_safe l hst Γ a1 g u hu) (fun n3 g4 H locs q9 ce h hP hS hce hcv hcl => ?_) (fun r2 g1 H locs h hP hS => ?_) rfl
  ·
    by_cases c5 : n3 = 3
    · replace h := gpos c5 h
      subst c5
      refine gCatch1 hown hts hX hT (by decide) (by decide) wcl_L_34 (by decide) hce hcv hcl ?_
      refine lv_astore_n (lv' := [(2, .ref q9), (0, .ref (gB Γ + 0)), (1, .int a1)]) hx hb dL_safe_7 rfl hl (by decide) rfl (fun ls hl => ?_)
      refine lv_ldc2 (v := -9000000000000000001) hx hb hown (hts _ wkl_L_36) dL_safe_8 ?_
      exact glretW hx hb hr hlk hP hS (Nat.le_of_ble_eq_true rfl) (Nat.le_of_ble_eq_true rfl) dL_safe_11 h
    replace h := gneg c5 h
    cases h
  refine lv_i2l hx hb dL_safe_5 rfl ?_
  exact glretW hx hb hr hlk hP hS (Nat.le_of_ble_eq_true rfl) (Nat.le_of_ble_eq_true rfl) dL_safe_6 h
set_option maxHeartbeats 2000000 in
set_option maxRecDepth 20000 in
theorem m_L_needed (l : Launch) (hst : l.stackTraces = false) (Γ : gE)   (a1 : Int32) (g : gG) (z : Int64 × gG) (h : f_L_needed a1 g = some z) : gHl l yL_needed cL_needed 3 (some .long) [(0, 6, 7, 34)] 8 124 1 6 Γ [.ref (gB Γ + 0), .int a1] g z := by
  unfold f_L_needed at h
  refine gStartH (own := RL) (by decide +kernel) rfl (Nat.le_of_ble_eq_true rfl) ?_
  intro p e s m below meth c C0 hT ls hl hP
  have hS : va_S (gA Γ) s.heap s.heap [] := va_S.rf
  have hl : lv_has ls 3 [(0, .ref (gB Γ + 0)), (1, .int a1)] := hl
  obtain ⟨hx, hb, hml, hr, hown, hts, hK, hlk, hX⟩ := id C0
  refine lv_aload_n hx hb dL_needed_0 rfl (lv_at hl 0 rfl) ?_
  refine lv_iload_n hx hb dL_needed_1 rfl (lv_at hl 1 rfl) ?_
  refine gHV (rest := []) C0 cal_X9_needed wl_L_85 wi_X9_needed ws_X9_needed ⟨Nat.le_of_ble_eq_true rfl, Nat.le_of_ble_eq_true rfl⟩ ⟨Nat.le_of_ble_eq_true rfl, Nat.le_of_ble_eq_true rfl⟩ grv_9 [.int a1] rfl (Nat.le_of_ble_eq_true rfl) hP hS hl.1 dL_needed_2 h (fun u hu => m_X9_needed l hst Γ a1 g u hu) (fun n3 g4 H locs q9 ce h hP hS hce hcv hcl => ?_) (fun r2 g1 H locs h hP hS => ?_) rfl
  ·
    by_cases c5 : n3 = 3
    · replace h := gpos c5 h
      subst c5
      refine gCatch1 hown hts hX hT (by decide) (by decide) wcl_L_34 (by decide) hce hcv hcl ?_
      refine lv_astore_n (lv' := [(2, .ref q9), (0, .ref (gB Γ + 0)), (1, .int a1)]) hx hb dL_needed_7 rfl hl (by decide) rfl (fun ls hl => ?_)
      refine lv_ldc2 (v := -9000000000000000001) hx hb hown (hts _ wkl_L_36) dL_needed_8 ?_
      exact glretW hx hb hr hlk hP hS (Nat.le_of_ble_eq_true rfl) (Nat.le_of_ble_eq_true rfl) dL_needed_11 h
    replace h := gneg c5 h
    cases h
  refine lv_i2l hx hb dL_needed_5 rfl ?_
  exact glretW hx hb hr hlk hP hS (Nat.le_of_ble_eq_true rfl) (Nat.le_of_ble_eq_true rfl) dL_needed_6 h
set_option maxHeartbeats 2000000 in
set_option maxRecDepth 20000 in
theorem m_L_script (l : Launch) (hst : l.stackTraces = false) (Γ : gE)   (a1 : Int32) (a2 : Int64) (g : gG) (z : Int64 × gG) (h : f_L_script a1 a2 g = some z) : gHl l yL_script cL_script 5 (some .long) [(0, 7, 8, 15)] 7 166 1 6 Γ [.ref (gB Γ + 0), .int a1, .long a2] g z := by
  unfold f_L_script at h
  refine gStartH (own := RL) (by decide +kernel) rfl (Nat.le_of_ble_eq_true rfl) ?_
  intro p e s m below meth c C0 hT ls hl hP
  have hS : va_S (gA Γ) s.heap s.heap [] := va_S.rf
  have hl : lv_has ls 5 [(0, .ref (gB Γ + 0)), (1, .int a1), (2, .long a2)] := hl
  obtain ⟨hx, hb, hml, hr, hown, hts, hK, hlk, hX⟩ := id C0
  refine lv_aload_n hx hb dL_script_0 rfl (lv_at hl 0 rfl) ?_
  refine lv_iload_n hx hb dL_script_1 rfl (lv_at hl 1 rfl) ?_
  refine lv_lload_n hx hb dL_script_2 rfl (lv_at hl 2 rfl) ?_
  refine gHV (rest := []) C0 cal_X9_runScript wl_L_88 wi_X9_runScript ws_X9_runScript ⟨Nat.le_of_ble_eq_true rfl, Nat.le_of_ble_eq_true rfl⟩ ⟨Nat.le_of_ble_eq_true rfl, Nat.le_of_ble_eq_true rfl⟩ grv_9 [.int a1, .long a2] rfl (Nat.le_of_ble_eq_true rfl) hP hS hl.1 dL_script_3 h (fun u hu => m_X9_runScript l hst Γ a1 a2 g u hu) (fun n3 g4 H locs q9 ce h hP hS hce hcv hcl => ?_) (fun r2 g1 H locs h hP hS => ?_) rfl
  ·
    by_cases c5 : n3 = 1
    · replace h := gpos c5 h
      subst c5
      refine gCatch1 hown hts hX hT (by decide) (by decide) wcl_L_15 (by decide) hce hcv hcl ?_
      refine lv_astore (lv' := [(4, .ref q9), (0, .ref (gB Γ + 0)), (1, .int a1), (2, .long a2)]) hx hb dL_script_8 hl (by decide) rfl (fun ls hl => ?_)
      refine lv_ldc2 (v := -9000000000000000002) hx hb hown (hts _ wkl_L_17) dL_script_10 ?_
      exact glretW hx hb hr hlk hP hS (Nat.le_of_ble_eq_true rfl) (Nat.le_of_ble_eq_true rfl) dL_script_13 h
    replace h := gneg c5 h
    cases h
  refine lv_i2l hx hb dL_script_6 rfl ?_
  exact glretW hx hb hr hlk hP hS (Nat.le_of_ble_eq_true rfl) (Nat.le_of_ble_eq_true rfl) dL_script_7 h
set_option maxHeartbeats 2000000 in
set_option maxRecDepth 20000 in
theorem m_L_simulate (l : Launch) (hst : l.stackTraces = false) (Γ : gE)   (a1 : Int64) (a3 : Int32) (g : gG) (z : Int64 × gG) (h : f_L_simulate a1 a3 g = some z) : gHl l yL_simulate cL_simulate 5 (some .long) [(0, 7, 8, 15)] 7 145 1 6 Γ [.ref (gB Γ + 0), .long a1, .int a3] g z := by
  unfold f_L_simulate at h
  refine gStartH (own := RL) (by decide +kernel) rfl (Nat.le_of_ble_eq_true rfl) ?_
  intro p e s m below meth c C0 hT ls hl hP
  have hS : va_S (gA Γ) s.heap s.heap [] := va_S.rf
  have hl : lv_has ls 5 [(0, .ref (gB Γ + 0)), (1, .long a1), (3, .int a3)] := hl
  obtain ⟨hx, hb, hml, hr, hown, hts, hK, hlk, hX⟩ := id C0
  refine lv_aload_n hx hb dL_simulate_0 rfl (lv_at hl 0 rfl) ?_
  refine lv_lload_n hx hb dL_simulate_1 rfl (lv_at hl 1 rfl) ?_
  refine lv_iload_n hx hb dL_simulate_2 rfl (lv_at hl 2 rfl) ?_
  refine gHV (rest := []) C0 cal_X9_simulate wl_L_92 wi_X9_simulate ws_X9_simulate ⟨Nat.le_of_ble_eq_true rfl, Nat.le_of_ble_eq_true rfl⟩ ⟨Nat.le_of_ble_eq_true rfl, Nat.le_of_ble_eq_true rfl⟩ grv_9 [.long a1, .int a3] rfl (Nat.le_of_ble_eq_true rfl) hP hS hl.1 dL_simulate_3 h (fun u hu => m_X9_simulate l hst Γ a1 a3 g u hu) (fun n3 g4 H locs q9 ce h hP hS hce hcv hcl => ?_) (fun r2 g1 H locs h hP hS => ?_) rfl
  ·
    by_cases c5 : n3 = 1
    · replace h := gpos c5 h
      subst c5
      refine gCatch1 hown hts hX hT (by decide) (by decide) wcl_L_15 (by decide) hce hcv hcl ?_
      refine lv_astore (lv' := [(4, .ref q9), (0, .ref (gB Γ + 0)), (1, .long a1), (3, .int a3)]) hx hb dL_simulate_8 hl (by decide) rfl (fun ls hl => ?_)
      refine lv_ldc2 (v := -9000000000000000002) hx hb hown (hts _ wkl_L_17) dL_simulate_10 ?_
      exact glretW hx hb hr hlk hP hS (Nat.le_of_ble_eq_true rfl) (Nat.le_of_ble_eq_true rfl) dL_simulate_13 h
    replace h := gneg c5 h
    cases h
  refine lv_i2l hx hb dL_simulate_6 rfl ?_
  exact glretW hx hb hr hlk hP hS (Nat.le_of_ble_eq_true rfl) (Nat.le_of_ble_eq_true rfl) dL_simulate_7 h
set_option maxHeartbeats 2000000 in
set_option maxRecDepth 20000 in
theorem m_L_save (l : Launch) (hst : l.stackTraces = false) (Γ : gE)   (a1 : Int32) (g : gG) (z : Int64 × gG) (h : f_L_save a1 g = some z) : gHl l yL_save cL_save 3 (some .long) [(0, 6, 7, 34)] 8 123 1 6 Γ [.ref (gB Γ + 0), .int a1] g z := by
  unfold f_L_save at h
  refine gStartH (own := RL) (by decide +kernel) rfl (Nat.le_of_ble_eq_true rfl) ?_
  intro p e s m below meth c C0 hT ls hl hP
  have hS : va_S (gA Γ) s.heap s.heap [] := va_S.rf
  have hl : lv_has ls 3 [(0, .ref (gB Γ + 0)), (1, .int a1)] := hl
  obtain ⟨hx, hb, hml, hr, hown, hts, hK, hlk, hX⟩ := id C0
  refine lv_aload_n hx hb dL_save_0 rfl (lv_at hl 0 rfl) ?_
  refine lv_iload_n hx hb dL_save_1 rfl (lv_at hl 1 rfl) ?_
  refine gHV (rest := []) C0 cal_X9_save wl_L_96 wi_X9_save ws_X9_save ⟨Nat.le_of_ble_eq_true rfl, Nat.le_of_ble_eq_true rfl⟩ ⟨Nat.le_of_ble_eq_true rfl, Nat.le_of_ble_eq_true rfl⟩ grv_9 [.int a1] rfl (Nat.le_of_ble_eq_true rfl) hP hS hl.1 dL_save_2 h (fun u hu => m_X9_save l hst Γ a1 g u hu) (fun n3 g4 H locs q9 ce h hP hS hce hcv hcl => ?_) (fun r2 g1 H locs h hP hS => ?_) rfl
  ·
    by_cases c5 : n3 = 3
    · replace h := gpos c5 h
      subst c5
      refine gCatch1 hown hts hX hT (by decide) (by decide) wcl_L_34 (by decide) hce hcv hcl ?_
      refine lv_astore_n (lv' := [(2, .ref q9), (0, .ref (gB Γ + 0)), (1, .int a1)]) hx hb dL_save_7 rfl hl (by decide) rfl (fun ls hl => ?_)
      refine lv_ldc2 (v := -9000000000000000001) hx hb hown (hts _ wkl_L_36) dL_save_8 ?_
      exact glretW hx hb hr hlk hP hS (Nat.le_of_ble_eq_true rfl) (Nat.le_of_ble_eq_true rfl) dL_save_11 h
    replace h := gneg c5 h
    cases h
  refine lv_i2l hx hb dL_save_5 rfl ?_
  exact glretW hx hb hr hlk hP hS (Nat.le_of_ble_eq_true rfl) (Nat.le_of_ble_eq_true rfl) dL_save_6 h
set_option maxHeartbeats 2000000 in
set_option maxRecDepth 20000 in
theorem m_L_restore (l : Launch) (hst : l.stackTraces = false) (Γ : gE)   (a1 : Int32) (g : gG) (z : Int64 × gG) (h : f_L_restore a1 g = some z) : gHl l yL_restore cL_restore 3 (some .long) [(0, 6, 7, 34), (0, 6, 12, 19)] 8 123 2 12 Γ [.ref (gB Γ + 0), .int a1] g z := by
  unfold f_L_restore at h
  refine gStartH (own := RL) (by decide +kernel) rfl (Nat.le_of_ble_eq_true rfl) ?_
  intro p e s m below meth c C0 hT ls hl hP
  have hS : va_S (gA Γ) s.heap s.heap [] := va_S.rf
  have hl : lv_has ls 3 [(0, .ref (gB Γ + 0)), (1, .int a1)] := hl
  obtain ⟨hx, hb, hml, hr, hown, hts, hK, hlk, hX⟩ := id C0
  refine lv_aload_n hx hb dL_restore_0 rfl (lv_at hl 0 rfl) ?_
  refine lv_iload_n hx hb dL_restore_1 rfl (lv_at hl 1 rfl) ?_
  refine gHV (rest := []) C0 cal_X9_restore wl_L_99 wi_X9_restore ws_X9_restore ⟨Nat.le_of_ble_eq_true rfl, Nat.le_of_ble_eq_true rfl⟩ ⟨Nat.le_of_ble_eq_true rfl, Nat.le_of_ble_eq_true rfl⟩ grv_9 [.int a1] rfl (Nat.le_of_ble_eq_true rfl) hP hS hl.1 dL_restore_2 h (fun u hu => m_X9_restore l hst Γ a1 g u hu) (fun n3 g4 H locs q9 ce h hP hS hce hcv hcl => ?_) (fun r2 g1 H locs h hP hS => ?_) rfl
  ·
    by_cases c5 : n3 = 3
    · replace h := gpos c5 h
      subst c5
      refine gCatch1 hown hts hX hT (by decide) (by decide) wcl_L_34 (by decide) hce hcv hcl ?_
      refine lv_astore_n (lv' := [(2, .ref q9), (0, .ref (gB Γ + 0)), (1, .int a1)]) hx hb dL_restore_7 rfl hl (by decide) rfl (fun ls hl => ?_)
      refine lv_ldc2 (v := -9000000000000000001) hx hb hown (hts _ wkl_L_36) dL_restore_8 ?_
      exact glretW hx hb hr hlk hP hS (Nat.le_of_ble_eq_true rfl) (Nat.le_of_ble_eq_true rfl) dL_restore_11 h
    replace h := gneg c5 h
    by_cases c6 : n3 = 2
    · replace h := gpos c6 h
      subst c6
      refine gCatch2 (n1 := 3) hown hts hX hT (by decide) wcl_L_34 (by decide) (by decide) (by decide) wcl_L_19 (by decide) hce hcv hcl ?_
      refine lv_astore_n (lv' := [(2, .ref q9), (0, .ref (gB Γ + 0)), (1, .int a1)]) hx hb dL_restore_12 rfl hl (by decide) rfl (fun ls hl => ?_)
      refine lv_ldc2 (v := -9000000000000000003) hx hb hown (hts _ wkl_L_21) dL_restore_13 ?_
      exact glretW hx hb hr hlk hP hS (Nat.le_of_ble_eq_true rfl) (Nat.le_of_ble_eq_true rfl) dL_restore_16 h
    replace h := gneg c6 h
    cases h
  refine lv_i2l hx hb dL_restore_5 rfl ?_
  exact glretW hx hb hr hlk hP hS (Nat.le_of_ble_eq_true rfl) (Nat.le_of_ble_eq_true rfl) dL_restore_6 h
