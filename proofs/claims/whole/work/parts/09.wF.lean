set_option maxHeartbeats 2000000 in
set_option maxRecDepth 20000 in
theorem m_L_append (l : Launch) (hst : l.stackTraces = false) (Γ : gE)  (hfull : gFull Γ) (a1 : Int32) (g : gG) (z : Int32 × gG) (h : f_L_append a1 g = some z) : gHi l yL_append cL_append 4 (some .int) [(0, 9, 12, 13), (0, 9, 15, 15)] 7 103 1 6 Γ [.ref (gB Γ + 0), .int a1, .ref (gB Γ + 193)] g z := by
  unfold f_L_append at h
  refine gStartH (own := RL) (by decide +kernel) rfl (Nat.le_of_ble_eq_true rfl) ?_
  intro p e s m below meth c C0 hT ls hl hP
  have hS : va_S (gA Γ) s.heap s.heap [] := va_S.rf
  have hl : lv_has ls 4 [(0, .ref (gB Γ + 0)), (1, .int a1), (2, .ref (gB Γ + 193))] := hl
  obtain ⟨hx, hb, hml, hr, hown, hts, hK, hlk, hX⟩ := id C0
  refine lv_aload_n hx hb dL_append_0 rfl (lv_at hl 2 rfl) ?_
  refine lv_iconst (v := 0) hx hb dL_append_1 (by decide) ?_
  refine lv_aload_n hx hb dL_append_2 rfl (lv_at hl 0 rfl) ?_
  refine lv_iload_n hx hb dL_append_3 rfl (lv_at hl 1 rfl) ?_
  refine gHV (rest := [.int (0 : Int32), .ref (gB Γ + 193)]) C0 cal_X9_append wl_L_7 wi_X9_append ws_X9_append ⟨Nat.le_of_ble_eq_true rfl, Nat.le_of_ble_eq_true rfl⟩ ⟨Nat.le_of_ble_eq_true rfl, Nat.le_of_ble_eq_true rfl⟩ grv_9 [.int a1] rfl (Nat.le_of_ble_eq_true rfl) hP hS hl.1 dL_append_4 h (fun u hu => m_X9_append l hst Γ a1 g u hu) (fun n3 g4 H locs q9 ce h hP hS hce hcv hcl => ?_) (fun r2 g1 H locs h hP hS => ?_) rfl
  ·
    by_cases c5 : n3 = 1
    · replace h := gpos c5 h
      subst c5
      refine gCatch1 hown hts hX hT (by decide) (by decide) wcl_L_13 (by decide) hce hcv hcl ?_
      refine lv_astore_n (lv' := [(3, .ref q9), (0, .ref (gB Γ + 0)), (1, .int a1), (2, .ref (gB Γ + 193))]) hx hb dL_append_12 rfl hl (by decide) rfl (fun ls hl => ?_)
      refine lv_iconst (v := 1) hx hb dL_append_13 (by decide) ?_
      exact giretW hx hb hr hlk hP hS (Nat.le_of_ble_eq_true rfl) (Nat.le_of_ble_eq_true rfl) dL_append_14 h
    replace h := gneg c5 h
    by_cases c6 : n3 = 2
    · replace h := gpos c6 h
      subst c6
      refine gCatch2 (n1 := 1) hown hts hX hT (by decide) wcl_L_13 (by decide) (by decide) (by decide) wcl_L_15 (by decide) hce hcv hcl ?_
      refine lv_astore_n (lv' := [(3, .ref q9), (0, .ref (gB Γ + 0)), (1, .int a1), (2, .ref (gB Γ + 193))]) hx hb dL_append_15 rfl hl (by decide) rfl (fun ls hl => ?_)
      refine lv_iconst (v := 2) hx hb dL_append_16 (by decide) ?_
      exact giretW hx hb hr hlk hP hS (Nat.le_of_ble_eq_true rfl) (Nat.le_of_ble_eq_true rfl) dL_append_17 h
    replace h := gneg c6 h
    cases h
  refine lv_i2l hx hb dL_append_7 rfl ?_
  refine gJst hx hb hK hP hS (is_193 hfull) dL_append_8 h (fun H locs g7 h hP hS => ?_)
  refine lv_goto (tgt := 18) hx hb dL_append_9 (by decide) ?_
  refine lv_iconst (v := 0) hx hb dL_append_18 (by decide) ?_
  exact giretW hx hb hr hlk hP hS (Nat.le_of_ble_eq_true rfl) (Nat.le_of_ble_eq_true rfl) dL_append_19 h
set_option maxHeartbeats 2000000 in
set_option maxRecDepth 20000 in
theorem m_L_load (l : Launch) (hst : l.stackTraces = false) (Γ : gE)  (hfull : gFull Γ)  (g : gG) (z : Int32 × gG) (h : f_L_load g = some z) : gHi l yL_load cL_load 3 (some .int) [(0, 8, 11, 15)] 7 150 1 6 Γ [.ref (gB Γ + 0), .ref (gB Γ + 193)] g z := by
  unfold f_L_load at h
  refine gStartH (own := RL) (by decide +kernel) rfl (Nat.le_of_ble_eq_true rfl) ?_
  intro p e s m below meth c C0 hT ls hl hP
  have hS : va_S (gA Γ) s.heap s.heap [] := va_S.rf
  have hl : lv_has ls 3 [(0, .ref (gB Γ + 0)), (1, .ref (gB Γ + 193))] := hl
  obtain ⟨hx, hb, hml, hr, hown, hts, hK, hlk, hX⟩ := id C0
  refine lv_aload_n hx hb dL_load_0 rfl (lv_at hl 1 rfl) ?_
  refine lv_iconst (v := 0) hx hb dL_load_1 (by decide) ?_
  refine lv_aload_n hx hb dL_load_2 rfl (lv_at hl 0 rfl) ?_
  refine gHV (rest := [.int (0 : Int32), .ref (gB Γ + 193)]) C0 cal_X9_load wl_L_17 wi_X9_load ws_X9_load ⟨Nat.le_of_ble_eq_true rfl, Nat.le_of_ble_eq_true rfl⟩ ⟨Nat.le_of_ble_eq_true rfl, Nat.le_of_ble_eq_true rfl⟩ grv_9 [] rfl (Nat.le_of_ble_eq_true rfl) hP hS hl.1 dL_load_3 h (fun u hu => m_X9_load l hst Γ g u hu) (fun n3 g4 H locs q9 ce h hP hS hce hcv hcl => ?_) (fun r2 g1 H locs h hP hS => ?_) rfl
  ·
    by_cases c5 : n3 = 2
    · replace h := gpos c5 h
      subst c5
      refine gCatch1 hown hts hX hT (by decide) (by decide) wcl_L_15 (by decide) hce hcv hcl ?_
      refine lv_astore_n (lv' := [(2, .ref q9), (0, .ref (gB Γ + 0)), (1, .ref (gB Γ + 193))]) hx hb dL_load_11 rfl hl (by decide) rfl (fun ls hl => ?_)
      refine lv_iconst (v := 1) hx hb dL_load_12 (by decide) ?_
      exact giretW hx hb hr hlk hP hS (Nat.le_of_ble_eq_true rfl) (Nat.le_of_ble_eq_true rfl) dL_load_13 h
    replace h := gneg c5 h
    cases h
  refine lv_i2l hx hb dL_load_6 rfl ?_
  refine gJst hx hb hK hP hS (is_193 hfull) dL_load_7 h (fun H locs g6 h hP hS => ?_)
  refine lv_goto (tgt := 14) hx hb dL_load_8 (by decide) ?_
  refine lv_iconst (v := 0) hx hb dL_load_14 (by decide) ?_
  exact giretW hx hb hr hlk hP hS (Nat.le_of_ble_eq_true rfl) (Nat.le_of_ble_eq_true rfl) dL_load_15 h
set_option maxHeartbeats 2000000 in
set_option maxRecDepth 20000 in
theorem m_L_about (l : Launch) (hst : l.stackTraces = false) (Γ : gE)  (hfull : gFull Γ) (a1 : Int32) (g : gG) (z : Int32 × gG) (h : f_L_about a1 g = some z) : gHi l yL_about cL_about 4 (some .int) [(0, 9, 12, 13)] 7 106 1 6 Γ [.ref (gB Γ + 0), .int a1, .ref (gB Γ + 193)] g z := by
  unfold f_L_about at h
  refine gStartH (own := RL) (by decide +kernel) rfl (Nat.le_of_ble_eq_true rfl) ?_
  intro p e s m below meth c C0 hT ls hl hP
  have hS : va_S (gA Γ) s.heap s.heap [] := va_S.rf
  have hl : lv_has ls 4 [(0, .ref (gB Γ + 0)), (1, .int a1), (2, .ref (gB Γ + 193))] := hl
  obtain ⟨hx, hb, hml, hr, hown, hts, hK, hlk, hX⟩ := id C0
  refine lv_aload_n hx hb dL_about_0 rfl (lv_at hl 2 rfl) ?_
  refine lv_iconst (v := 0) hx hb dL_about_1 (by decide) ?_
  refine lv_aload_n hx hb dL_about_2 rfl (lv_at hl 0 rfl) ?_
  refine lv_iload_n hx hb dL_about_3 rfl (lv_at hl 1 rfl) ?_
  refine gHV (rest := [.int (0 : Int32), .ref (gB Γ + 193)]) C0 cal_X9_about wl_L_21 wi_X9_about ws_X9_about ⟨Nat.le_of_ble_eq_true rfl, Nat.le_of_ble_eq_true rfl⟩ ⟨Nat.le_of_ble_eq_true rfl, Nat.le_of_ble_eq_true rfl⟩ grv_9 [.int a1] rfl (Nat.le_of_ble_eq_true rfl) hP hS hl.1 dL_about_4 h (fun u hu => m_X9_about l hst Γ a1 g u hu) (fun n3 g4 H locs q9 ce h hP hS hce hcv hcl => ?_) (fun r2 g1 H locs h hP hS => ?_) rfl
  ·
    by_cases c5 : n3 = 1
    · replace h := gpos c5 h
      subst c5
      refine gCatch1 hown hts hX hT (by decide) (by decide) wcl_L_13 (by decide) hce hcv hcl ?_
      refine lv_astore_n (lv' := [(3, .ref q9), (0, .ref (gB Γ + 0)), (1, .int a1), (2, .ref (gB Γ + 193))]) hx hb dL_about_12 rfl hl (by decide) rfl (fun ls hl => ?_)
      refine lv_iconst (v := 1) hx hb dL_about_13 (by decide) ?_
      exact giretW hx hb hr hlk hP hS (Nat.le_of_ble_eq_true rfl) (Nat.le_of_ble_eq_true rfl) dL_about_14 h
    replace h := gneg c5 h
    cases h
  refine lv_i2l hx hb dL_about_7 rfl ?_
  refine gJst hx hb hK hP hS (is_193 hfull) dL_about_8 h (fun H locs g6 h hP hS => ?_)
  refine lv_goto (tgt := 15) hx hb dL_about_9 (by decide) ?_
  refine lv_iconst (v := 0) hx hb dL_about_15 (by decide) ?_
  exact giretW hx hb hr hlk hP hS (Nat.le_of_ble_eq_true rfl) (Nat.le_of_ble_eq_true rfl) dL_about_16 h
set_option maxHeartbeats 2000000 in
set_option maxRecDepth 20000 in
theorem m_L_place (l : Launch) (hst : l.stackTraces = false) (Γ : gE)  (hfull : gFull Γ) (a1 : Int32) (a2 : Int32) (g : gG) (z : Int32 × gG) (h : f_L_place a1 a2 g = some z) : gHi l yL_place cL_place 5 (some .int) [(0, 10, 13, 28), (0, 10, 17, 13)] 8 125 2 12 Γ [.ref (gB Γ + 0), .int a1, .int a2, .ref (gB Γ + 193)] g z := by
  unfold f_L_place at h
  refine gStartH (own := RL) (by decide +kernel) rfl (Nat.le_of_ble_eq_true rfl) ?_
  intro p e s m below meth c C0 hT ls hl hP
  have hS : va_S (gA Γ) s.heap s.heap [] := va_S.rf
  have hl : lv_has ls 5 [(0, .ref (gB Γ + 0)), (1, .int a1), (2, .int a2), (3, .ref (gB Γ + 193))] := hl
  obtain ⟨hx, hb, hml, hr, hown, hts, hK, hlk, hX⟩ := id C0
  refine lv_aload_n hx hb dL_place_0 rfl (lv_at hl 3 rfl) ?_
  refine lv_iconst (v := 0) hx hb dL_place_1 (by decide) ?_
  refine lv_aload_n hx hb dL_place_2 rfl (lv_at hl 0 rfl) ?_
  refine lv_iload_n hx hb dL_place_3 rfl (lv_at hl 1 rfl) ?_
  refine lv_iload_n hx hb dL_place_4 rfl (lv_at hl 2 rfl) ?_
  refine gHV (rest := [.int (0 : Int32), .ref (gB Γ + 193)]) C0 cal_X9_place wl_L_24 wi_X9_place ws_X9_place ⟨Nat.le_of_ble_eq_true rfl, Nat.le_of_ble_eq_true rfl⟩ ⟨Nat.le_of_ble_eq_true rfl, Nat.le_of_ble_eq_true rfl⟩ grv_9 [.int a1, .int a2] rfl (Nat.le_of_ble_eq_true rfl) hP hS hl.1 dL_place_5 h (fun u hu => m_X9_place l hst Γ a1 a2 g u hu) (fun n3 g4 H locs q9 ce h hP hS hce hcv hcl => ?_) (fun r2 g1 H locs h hP hS => ?_) rfl
  ·
    by_cases c5 : n3 = 3
    · replace h := gpos c5 h
      subst c5
      refine gCatch1 hown hts hX hT (by decide) (by decide) wcl_L_28 (by decide) hce hcv hcl ?_
      refine lv_astore (lv' := [(4, .ref q9), (0, .ref (gB Γ + 0)), (1, .int a1), (2, .int a2), (3, .ref (gB Γ + 193))]) hx hb dL_place_13 hl (by decide) rfl (fun ls hl => ?_)
      refine lv_iconst (v := 1) hx hb dL_place_15 (by decide) ?_
      exact giretW hx hb hr hlk hP hS (Nat.le_of_ble_eq_true rfl) (Nat.le_of_ble_eq_true rfl) dL_place_16 h
    replace h := gneg c5 h
    by_cases c6 : n3 = 1
    · replace h := gpos c6 h
      subst c6
      refine gCatch2 (n1 := 3) hown hts hX hT (by decide) wcl_L_28 (by decide) (by decide) (by decide) wcl_L_13 (by decide) hce hcv hcl ?_
      refine lv_astore (lv' := [(4, .ref q9), (0, .ref (gB Γ + 0)), (1, .int a1), (2, .int a2), (3, .ref (gB Γ + 193))]) hx hb dL_place_17 hl (by decide) rfl (fun ls hl => ?_)
      refine lv_iconst (v := 2) hx hb dL_place_19 (by decide) ?_
      exact giretW hx hb hr hlk hP hS (Nat.le_of_ble_eq_true rfl) (Nat.le_of_ble_eq_true rfl) dL_place_20 h
    replace h := gneg c6 h
    cases h
  refine lv_i2l hx hb dL_place_8 rfl ?_
  refine gJst hx hb hK hP hS (is_193 hfull) dL_place_9 h (fun H locs g7 h hP hS => ?_)
  refine lv_goto (tgt := 21) hx hb dL_place_10 (by decide) ?_
  refine lv_iconst (v := 0) hx hb dL_place_21 (by decide) ?_
  exact giretW hx hb hr hlk hP hS (Nat.le_of_ble_eq_true rfl) (Nat.le_of_ble_eq_true rfl) dL_place_22 h
set_option maxHeartbeats 2000000 in
set_option maxRecDepth 20000 in
theorem m_L_holds (l : Launch) (hst : l.stackTraces = false) (Γ : gE)  (hfull : gFull Γ) (a1 : Int32) (a2 : Int32) (g : gG) (z : Int32 × gG) (h : f_L_holds a1 a2 g = some z) : gHi l yL_holds cL_holds 5 (some .int) [(0, 17, 20, 28), (0, 17, 24, 13)] 8 125 2 12 Γ [.ref (gB Γ + 0), .int a1, .int a2, .ref (gB Γ + 193)] g z := by
  unfold f_L_holds at h
  refine gStartH (own := RL) (by decide +kernel) rfl (Nat.le_of_ble_eq_true rfl) ?_
  intro p e s m below meth c C0 hT ls hl hP
  have hS : va_S (gA Γ) s.heap s.heap [] := va_S.rf
  have hl : lv_has ls 5 [(0, .ref (gB Γ + 0)), (1, .int a1), (2, .int a2), (3, .ref (gB Γ + 193))] := hl
  obtain ⟨hx, hb, hml, hr, hown, hts, hK, hlk, hX⟩ := id C0
  refine lv_aload_n hx hb dL_holds_0 rfl (lv_at hl 3 rfl) ?_
  refine lv_iconst (v := 0) hx hb dL_holds_1 (by decide) ?_
  refine lv_aload_n hx hb dL_holds_2 rfl (lv_at hl 0 rfl) ?_
  refine lv_iload_n hx hb dL_holds_3 rfl (lv_at hl 1 rfl) ?_
  refine lv_iload_n hx hb dL_holds_4 rfl (lv_at hl 2 rfl) ?_
  refine gHV (rest := [.int (0 : Int32), .ref (gB Γ + 193)]) C0 cal_X9_holds wl_L_30 wi_X9_holds ws_X9_holds ⟨Nat.le_of_ble_eq_true rfl, Nat.le_of_ble_eq_true rfl⟩ ⟨Nat.le_of_ble_eq_true rfl, Nat.le_of_ble_eq_true rfl⟩ grv_9 [.int a1, .int a2] rfl (Nat.le_of_ble_eq_true rfl) hP hS hl.1 dL_holds_5 h (fun u hu => m_X9_holds l hst Γ a1 a2 g u hu) (fun n3 g4 H locs q9 ce h hP hS hce hcv hcl => ?_) (fun r2 g1 H locs h hP hS => ?_) rfl
  ·
    by_cases c5 : n3 = 3
    · replace h := gpos c5 h
      subst c5
      refine gCatch1 hown hts hX hT (by decide) (by decide) wcl_L_28 (by decide) hce hcv hcl ?_
      refine lv_astore (lv' := [(4, .ref q9), (0, .ref (gB Γ + 0)), (1, .int a1), (2, .int a2), (3, .ref (gB Γ + 193))]) hx hb dL_holds_20 hl (by decide) rfl (fun ls hl => ?_)
      refine lv_iconst (v := 1) hx hb dL_holds_22 (by decide) ?_
      exact giretW hx hb hr hlk hP hS (Nat.le_of_ble_eq_true rfl) (Nat.le_of_ble_eq_true rfl) dL_holds_23 h
    replace h := gneg c5 h
    by_cases c6 : n3 = 1
    · replace h := gpos c6 h
      subst c6
      refine gCatch2 (n1 := 3) hown hts hX hT (by decide) wcl_L_28 (by decide) (by decide) (by decide) wcl_L_13 (by decide) hce hcv hcl ?_
      refine lv_astore (lv' := [(4, .ref q9), (0, .ref (gB Γ + 0)), (1, .int a1), (2, .int a2), (3, .ref (gB Γ + 193))]) hx hb dL_holds_24 hl (by decide) rfl (fun ls hl => ?_)
      refine lv_iconst (v := 2) hx hb dL_holds_26 (by decide) ?_
      exact giretW hx hb hr hlk hP hS (Nat.le_of_ble_eq_true rfl) (Nat.le_of_ble_eq_true rfl) dL_holds_27 h
    replace h := gneg c6 h
    cases h
  refine lv_if_eq (tgt := 15) hx hb dL_holds_8 (by decide) (fun c7 => ?_) (fun c7 => ?_)
  · replace h := gpos c7 h
    refine lv_lconst (v := 0) hx hb dL_holds_15 (by decide) ?_
    refine gJst hx hb hK hP hS (is_193 hfull) dL_holds_16 h (fun H locs g8 h hP hS => ?_)
    refine lv_goto (tgt := 28) hx hb dL_holds_17 (by decide) ?_
    refine lv_iconst (v := 0) hx hb dL_holds_28 (by decide) ?_
    exact giretW hx hb hr hlk hP hS (Nat.le_of_ble_eq_true rfl) (Nat.le_of_ble_eq_true rfl) dL_holds_29 h
  · replace h := gneg c7 h
    refine lv_lconst (v := 1) hx hb dL_holds_11 (by decide) ?_
    refine lv_goto (tgt := 16) hx hb dL_holds_12 (by decide) ?_
    refine gJst hx hb hK hP hS (is_193 hfull) dL_holds_16 h (fun H locs g9 h hP hS => ?_)
    refine lv_goto (tgt := 28) hx hb dL_holds_17 (by decide) ?_
    refine lv_iconst (v := 0) hx hb dL_holds_28 (by decide) ?_
    exact giretW hx hb hr hlk hP hS (Nat.le_of_ble_eq_true rfl) (Nat.le_of_ble_eq_true rfl) dL_holds_29 h
set_option maxHeartbeats 2000000 in
set_option maxRecDepth 20000 in
theorem m_L_team (l : Launch) (hst : l.stackTraces = false) (Γ : gE)  (hfull : gFull Γ) (a1 : Int32) (a2 : Int32) (g : gG) (z : Int32 × gG) (h : f_L_team a1 a2 g = some z) : gHi l yL_team cL_team 5 (some .int) [(0, 10, 13, 28), (0, 10, 17, 13)] 8 125 2 12 Γ [.ref (gB Γ + 0), .int a1, .int a2, .ref (gB Γ + 193)] g z := by
  unfold f_L_team at h
  refine gStartH (own := RL) (by decide +kernel) rfl (Nat.le_of_ble_eq_true rfl) ?_
  intro p e s m below meth c C0 hT ls hl hP
  have hS : va_S (gA Γ) s.heap s.heap [] := va_S.rf
  have hl : lv_has ls 5 [(0, .ref (gB Γ + 0)), (1, .int a1), (2, .int a2), (3, .ref (gB Γ + 193))] := hl
  obtain ⟨hx, hb, hml, hr, hown, hts, hK, hlk, hX⟩ := id C0
  refine lv_aload_n hx hb dL_team_0 rfl (lv_at hl 3 rfl) ?_
  refine lv_iconst (v := 0) hx hb dL_team_1 (by decide) ?_
  refine lv_aload_n hx hb dL_team_2 rfl (lv_at hl 0 rfl) ?_
  refine lv_iload_n hx hb dL_team_3 rfl (lv_at hl 1 rfl) ?_
  refine lv_iload_n hx hb dL_team_4 rfl (lv_at hl 2 rfl) ?_
  refine gHV (rest := [.int (0 : Int32), .ref (gB Γ + 193)]) C0 cal_X9_team wl_L_34 wi_X9_team ws_X9_team ⟨Nat.le_of_ble_eq_true rfl, Nat.le_of_ble_eq_true rfl⟩ ⟨Nat.le_of_ble_eq_true rfl, Nat.le_of_ble_eq_true rfl⟩ grv_9 [.int a1, .int a2] rfl (Nat.le_of_ble_eq_true rfl) hP hS hl.1 dL_team_5 h (fun u hu => m_X9_team l hst Γ a1 a2 g u hu) (fun n3 g4 H locs q9 ce h hP hS hce hcv hcl => ?_) (fun r2 g1 H locs h hP hS => ?_) rfl
  ·
    by_cases c5 : n3 = 3
    · replace h := gpos c5 h
      subst c5
      refine gCatch1 hown hts hX hT (by decide) (by decide) wcl_L_28 (by decide) hce hcv hcl ?_
      refine lv_astore (lv' := [(4, .ref q9), (0, .ref (gB Γ + 0)), (1, .int a1), (2, .int a2), (3, .ref (gB Γ + 193))]) hx hb dL_team_13 hl (by decide) rfl (fun ls hl => ?_)
      refine lv_iconst (v := 1) hx hb dL_team_15 (by decide) ?_
      exact giretW hx hb hr hlk hP hS (Nat.le_of_ble_eq_true rfl) (Nat.le_of_ble_eq_true rfl) dL_team_16 h
    replace h := gneg c5 h
    by_cases c6 : n3 = 1
    · replace h := gpos c6 h
      subst c6
      refine gCatch2 (n1 := 3) hown hts hX hT (by decide) wcl_L_28 (by decide) (by decide) (by decide) wcl_L_13 (by decide) hce hcv hcl ?_
      refine lv_astore (lv' := [(4, .ref q9), (0, .ref (gB Γ + 0)), (1, .int a1), (2, .int a2), (3, .ref (gB Γ + 193))]) hx hb dL_team_17 hl (by decide) rfl (fun ls hl => ?_)
      refine lv_iconst (v := 2) hx hb dL_team_19 (by decide) ?_
      exact giretW hx hb hr hlk hP hS (Nat.le_of_ble_eq_true rfl) (Nat.le_of_ble_eq_true rfl) dL_team_20 h
    replace h := gneg c6 h
    cases h
  refine lv_i2l hx hb dL_team_8 rfl ?_
  refine gJst hx hb hK hP hS (is_193 hfull) dL_team_9 h (fun H locs g7 h hP hS => ?_)
  refine lv_goto (tgt := 21) hx hb dL_team_10 (by decide) ?_
  refine lv_iconst (v := 0) hx hb dL_team_21 (by decide) ?_
  exact giretW hx hb hr hlk hP hS (Nat.le_of_ble_eq_true rfl) (Nat.le_of_ble_eq_true rfl) dL_team_22 h
set_option maxHeartbeats 2000000 in
set_option maxRecDepth 20000 in
theorem m_L_trail (l : Launch) (hst : l.stackTraces = false) (Γ : gE)  (hfull : gFull Γ) (a1 : Int32) (a2 : Int32) (g : gG) (z : Int32 × gG) (h : f_L_trail a1 a2 g = some z) : gHi l yL_trail cL_trail 5 (some .int) [(0, 10, 13, 28), (0, 10, 17, 13)] 8 125 2 12 Γ [.ref (gB Γ + 0), .int a1, .int a2, .ref (gB Γ + 193)] g z := by
  unfold f_L_trail at h
  refine gStartH (own := RL) (by decide +kernel) rfl (Nat.le_of_ble_eq_true rfl) ?_
  intro p e s m below meth c C0 hT ls hl hP
  have hS : va_S (gA Γ) s.heap s.heap [] := va_S.rf
  have hl : lv_has ls 5 [(0, .ref (gB Γ + 0)), (1, .int a1), (2, .int a2), (3, .ref (gB Γ + 193))] := hl
  obtain ⟨hx, hb, hml, hr, hown, hts, hK, hlk, hX⟩ := id C0
  refine lv_aload_n hx hb dL_trail_0 rfl (lv_at hl 3 rfl) ?_
  refine lv_iconst (v := 0) hx hb dL_trail_1 (by decide) ?_
  refine lv_aload_n hx hb dL_trail_2 rfl (lv_at hl 0 rfl) ?_
  refine lv_iload_n hx hb dL_trail_3 rfl (lv_at hl 1 rfl) ?_
  refine lv_iload_n hx hb dL_trail_4 rfl (lv_at hl 2 rfl) ?_
  refine gHV (rest := [.int (0 : Int32), .ref (gB Γ + 193)]) C0 cal_X9_trail wl_L_37 wi_X9_trail ws_X9_trail ⟨Nat.le_of_ble_eq_true rfl, Nat.le_of_ble_eq_true rfl⟩ ⟨Nat.le_of_ble_eq_true rfl, Nat.le_of_ble_eq_true rfl⟩ grv_9 [.int a1, .int a2] rfl (Nat.le_of_ble_eq_true rfl) hP hS hl.1 dL_trail_5 h (fun u hu => m_X9_trail l hst Γ a1 a2 g u hu) (fun n3 g4 H locs q9 ce h hP hS hce hcv hcl => ?_) (fun r2 g1 H locs h hP hS => ?_) rfl
  ·
    by_cases c5 : n3 = 3
    · replace h := gpos c5 h
      subst c5
      refine gCatch1 hown hts hX hT (by decide) (by decide) wcl_L_28 (by decide) hce hcv hcl ?_
      refine lv_astore (lv' := [(4, .ref q9), (0, .ref (gB Γ + 0)), (1, .int a1), (2, .int a2), (3, .ref (gB Γ + 193))]) hx hb dL_trail_13 hl (by decide) rfl (fun ls hl => ?_)
      refine lv_iconst (v := 1) hx hb dL_trail_15 (by decide) ?_
      exact giretW hx hb hr hlk hP hS (Nat.le_of_ble_eq_true rfl) (Nat.le_of_ble_eq_true rfl) dL_trail_16 h
    replace h := gneg c5 h
    by_cases c6 : n3 = 1
    · replace h := gpos c6 h
      subst c6
      refine gCatch2 (n1 := 3) hown hts hX hT (by decide) wcl_L_28 (by decide) (by decide) (by decide) wcl_L_13 (by decide) hce hcv hcl ?_
      refine lv_astore (lv' := [(4, .ref q9), (0, .ref (gB Γ + 0)), (1, .int a1), (2, .int a2), (3, .ref (gB Γ + 193))]) hx hb dL_trail_17 hl (by decide) rfl (fun ls hl => ?_)
      refine lv_iconst (v := 2) hx hb dL_trail_19 (by decide) ?_
      exact giretW hx hb hr hlk hP hS (Nat.le_of_ble_eq_true rfl) (Nat.le_of_ble_eq_true rfl) dL_trail_20 h
    replace h := gneg c6 h
    cases h
  refine lv_i2l hx hb dL_trail_8 rfl ?_
  refine gJst hx hb hK hP hS (is_193 hfull) dL_trail_9 h (fun H locs g7 h hP hS => ?_)
  refine lv_goto (tgt := 21) hx hb dL_trail_10 (by decide) ?_
  refine lv_iconst (v := 0) hx hb dL_trail_21 (by decide) ?_
  exact giretW hx hb hr hlk hP hS (Nat.le_of_ble_eq_true rfl) (Nat.le_of_ble_eq_true rfl) dL_trail_22 h
set_option maxHeartbeats 2000000 in
set_option maxRecDepth 20000 in
theorem m_L_open (l : Launch) (hst : l.stackTraces = false) (Γ : gE)  (hfull : gFull Γ) (a1 : Int32) (g : gG) (z : Int32 × gG) (h : f_L_open a1 g = some z) : gHi l yL_open cL_open 4 (some .int) [(0, 9, 12, 28)] 8 124 1 6 Γ [.ref (gB Γ + 0), .int a1, .ref (gB Γ + 193)] g z := by
  unfold f_L_open at h
  refine gStartH (own := RL) (by decide +kernel) rfl (Nat.le_of_ble_eq_true rfl) ?_
  intro p e s m below meth c C0 hT ls hl hP
  have hS : va_S (gA Γ) s.heap s.heap [] := va_S.rf
  have hl : lv_has ls 4 [(0, .ref (gB Γ + 0)), (1, .int a1), (2, .ref (gB Γ + 193))] := hl
  obtain ⟨hx, hb, hml, hr, hown, hts, hK, hlk, hX⟩ := id C0
  refine lv_aload_n hx hb dL_open_0 rfl (lv_at hl 2 rfl) ?_
  refine lv_iconst (v := 0) hx hb dL_open_1 (by decide) ?_
  refine lv_aload_n hx hb dL_open_2 rfl (lv_at hl 0 rfl) ?_
  refine lv_iload_n hx hb dL_open_3 rfl (lv_at hl 1 rfl) ?_
  refine gHV (rest := [.int (0 : Int32), .ref (gB Γ + 193)]) C0 cal_X9_open wl_L_40 wi_X9_open ws_X9_open ⟨Nat.le_of_ble_eq_true rfl, Nat.le_of_ble_eq_true rfl⟩ ⟨Nat.le_of_ble_eq_true rfl, Nat.le_of_ble_eq_true rfl⟩ grv_9 [.int a1] rfl (Nat.le_of_ble_eq_true rfl) hP hS hl.1 dL_open_4 h (fun u hu => m_X9_open l hst Γ a1 g u hu) (fun n3 g4 H locs q9 ce h hP hS hce hcv hcl => ?_) (fun r2 g1 H locs h hP hS => ?_) rfl
  ·
    by_cases c5 : n3 = 3
    · replace h := gpos c5 h
      subst c5
      refine gCatch1 hown hts hX hT (by decide) (by decide) wcl_L_28 (by decide) hce hcv hcl ?_
      refine lv_astore_n (lv' := [(3, .ref q9), (0, .ref (gB Γ + 0)), (1, .int a1), (2, .ref (gB Γ + 193))]) hx hb dL_open_12 rfl hl (by decide) rfl (fun ls hl => ?_)
      refine lv_iconst (v := 1) hx hb dL_open_13 (by decide) ?_
      exact giretW hx hb hr hlk hP hS (Nat.le_of_ble_eq_true rfl) (Nat.le_of_ble_eq_true rfl) dL_open_14 h
    replace h := gneg c5 h
    cases h
  refine lv_i2l hx hb dL_open_7 rfl ?_
  refine gJst hx hb hK hP hS (is_193 hfull) dL_open_8 h (fun H locs g6 h hP hS => ?_)
  refine lv_goto (tgt := 15) hx hb dL_open_9 (by decide) ?_
  refine lv_iconst (v := 0) hx hb dL_open_15 (by decide) ?_
  exact giretW hx hb hr hlk hP hS (Nat.le_of_ble_eq_true rfl) (Nat.le_of_ble_eq_true rfl) dL_open_16 h
set_option maxHeartbeats 2000000 in
set_option maxRecDepth 20000 in
theorem m_L_addTeam (l : Launch) (hst : l.stackTraces = false) (Γ : gE)  (hfull : gFull Γ)  (g : gG) (z : Int32 × gG) (h : f_L_addTeam g = some z) : gHi l yL_addTeam cL_addTeam 3 (some .int) [(0, 8, 11, 15)] 7 102 1 6 Γ [.ref (gB Γ + 0), .ref (gB Γ + 193)] g z := by
  unfold f_L_addTeam at h
  refine gStartH (own := RL) (by decide +kernel) rfl (Nat.le_of_ble_eq_true rfl) ?_
  intro p e s m below meth c C0 hT ls hl hP
  have hS : va_S (gA Γ) s.heap s.heap [] := va_S.rf
  have hl : lv_has ls 3 [(0, .ref (gB Γ + 0)), (1, .ref (gB Γ + 193))] := hl
  obtain ⟨hx, hb, hml, hr, hown, hts, hK, hlk, hX⟩ := id C0
  refine lv_aload_n hx hb dL_addTeam_0 rfl (lv_at hl 1 rfl) ?_
  refine lv_iconst (v := 0) hx hb dL_addTeam_1 (by decide) ?_
  refine lv_aload_n hx hb dL_addTeam_2 rfl (lv_at hl 0 rfl) ?_
  refine gHV (rest := [.int (0 : Int32), .ref (gB Γ + 193)]) C0 cal_X9_addTeam wl_L_43 wi_X9_addTeam ws_X9_addTeam ⟨Nat.le_of_ble_eq_true rfl, Nat.le_of_ble_eq_true rfl⟩ ⟨Nat.le_of_ble_eq_true rfl, Nat.le_of_ble_eq_true rfl⟩ grv_9 [] rfl (Nat.le_of_ble_eq_true rfl) hP hS hl.1 dL_addTeam_3 h (fun u hu => m_X9_addTeam l hst Γ g u hu) (fun n3 g4 H locs q9 ce h hP hS hce hcv hcl => ?_) (fun r2 g1 H locs h hP hS => ?_) rfl
  ·
    by_cases c5 : n3 = 2
    · replace h := gpos c5 h
      subst c5
      refine gCatch1 hown hts hX hT (by decide) (by decide) wcl_L_15 (by decide) hce hcv hcl ?_
      refine lv_astore_n (lv' := [(2, .ref q9), (0, .ref (gB Γ + 0)), (1, .ref (gB Γ + 193))]) hx hb dL_addTeam_11 rfl hl (by decide) rfl (fun ls hl => ?_)
      refine lv_iconst (v := 1) hx hb dL_addTeam_12 (by decide) ?_
      exact giretW hx hb hr hlk hP hS (Nat.le_of_ble_eq_true rfl) (Nat.le_of_ble_eq_true rfl) dL_addTeam_13 h
    replace h := gneg c5 h
    cases h
  refine lv_i2l hx hb dL_addTeam_6 rfl ?_
  refine gJst hx hb hK hP hS (is_193 hfull) dL_addTeam_7 h (fun H locs g6 h hP hS => ?_)
  refine lv_goto (tgt := 14) hx hb dL_addTeam_8 (by decide) ?_
  refine lv_iconst (v := 0) hx hb dL_addTeam_14 (by decide) ?_
  exact giretW hx hb hr hlk hP hS (Nat.le_of_ble_eq_true rfl) (Nat.le_of_ble_eq_true rfl) dL_addTeam_15 h
set_option maxHeartbeats 2000000 in
set_option maxRecDepth 20000 in
theorem m_L_go (l : Launch) (hst : l.stackTraces = false) (Γ : gE)  (hfull : gFull Γ) (a1 : Int32) (a2 : Int32) (g : gG) (z : Int32 × gG) (h : f_L_go a1 a2 g = some z) : gHi l yL_go cL_go 5 (some .int) [(0, 10, 13, 28), (0, 10, 17, 15)] 8 125 3 18 Γ [.ref (gB Γ + 0), .int a1, .int a2, .ref (gB Γ + 193)] g z := by
  unfold f_L_go at h
  refine gStartH (own := RL) (by decide +kernel) rfl (Nat.le_of_ble_eq_true rfl) ?_
  intro p e s m below meth c C0 hT ls hl hP
  have hS : va_S (gA Γ) s.heap s.heap [] := va_S.rf
  have hl : lv_has ls 5 [(0, .ref (gB Γ + 0)), (1, .int a1), (2, .int a2), (3, .ref (gB Γ + 193))] := hl
  obtain ⟨hx, hb, hml, hr, hown, hts, hK, hlk, hX⟩ := id C0
  refine lv_aload_n hx hb dL_go_0 rfl (lv_at hl 3 rfl) ?_
  refine lv_iconst (v := 0) hx hb dL_go_1 (by decide) ?_
  refine lv_aload_n hx hb dL_go_2 rfl (lv_at hl 0 rfl) ?_
  refine lv_iload_n hx hb dL_go_3 rfl (lv_at hl 1 rfl) ?_
  refine lv_iload_n hx hb dL_go_4 rfl (lv_at hl 2 rfl) ?_
  refine gHV (rest := [.int (0 : Int32), .ref (gB Γ + 193)]) C0 cal_X9_go wl_L_46 wi_X9_go ws_X9_go ⟨Nat.le_of_ble_eq_true rfl, Nat.le_of_ble_eq_true rfl⟩ ⟨Nat.le_of_ble_eq_true rfl, Nat.le_of_ble_eq_true rfl⟩ grv_9 [.int a1, .int a2] rfl (Nat.le_of_ble_eq_true rfl) hP hS hl.1 dL_go_5 h (fun u hu => m_X9_go l hst Γ a1 a2 g u hu) (fun n3 g4 H locs q9 ce h hP hS hce hcv hcl => ?_) (fun r2 g1 H locs h hP hS => ?_) rfl
  ·
    by_cases c5 : n3 = 3
    · replace h := gpos c5 h
      subst c5
      refine gCatch1 hown hts hX hT (by decide) (by decide) wcl_L_28 (by decide) hce hcv hcl ?_
      refine lv_astore (lv' := [(4, .ref q9), (0, .ref (gB Γ + 0)), (1, .int a1), (2, .int a2), (3, .ref (gB Γ + 193))]) hx hb dL_go_13 hl (by decide) rfl (fun ls hl => ?_)
      refine lv_iconst (v := 1) hx hb dL_go_15 (by decide) ?_
      exact giretW hx hb hr hlk hP hS (Nat.le_of_ble_eq_true rfl) (Nat.le_of_ble_eq_true rfl) dL_go_16 h
    replace h := gneg c5 h
    by_cases c6 : n3 = 2
    · replace h := gpos c6 h
      subst c6
      refine gCatch2 (n1 := 3) hown hts hX hT (by decide) wcl_L_28 (by decide) (by decide) (by decide) wcl_L_15 (by decide) hce hcv hcl ?_
      refine lv_astore (lv' := [(4, .ref q9), (0, .ref (gB Γ + 0)), (1, .int a1), (2, .int a2), (3, .ref (gB Γ + 193))]) hx hb dL_go_17 hl (by decide) rfl (fun ls hl => ?_)
      refine lv_iconst (v := 2) hx hb dL_go_19 (by decide) ?_
      exact giretW hx hb hr hlk hP hS (Nat.le_of_ble_eq_true rfl) (Nat.le_of_ble_eq_true rfl) dL_go_20 h
    replace h := gneg c6 h
    cases h
  refine lv_i2l hx hb dL_go_8 rfl ?_
  refine gJst hx hb hK hP hS (is_193 hfull) dL_go_9 h (fun H locs g7 h hP hS => ?_)
  refine lv_goto (tgt := 21) hx hb dL_go_10 (by decide) ?_
  refine lv_iconst (v := 0) hx hb dL_go_21 (by decide) ?_
  exact giretW hx hb hr hlk hP hS (Nat.le_of_ble_eq_true rfl) (Nat.le_of_ble_eq_true rfl) dL_go_22 h
set_option maxHeartbeats 2000000 in
set_option maxRecDepth 20000 in
theorem m_L_hint (l : Launch) (hst : l.stackTraces = false) (Γ : gE)  (hfull : gFull Γ) (a1 : Int32) (g : gG) (z : Int32 × gG) (h : f_L_hint a1 g = some z) : gHi l yL_hint cL_hint 4 (some .int) [(0, 9, 12, 28), (0, 9, 15, 15)] 8 125 2 12 Γ [.ref (gB Γ + 0), .int a1, .ref (gB Γ + 193)] g z := by
  unfold f_L_hint at h
  refine gStartH (own := RL) (by decide +kernel) rfl (Nat.le_of_ble_eq_true rfl) ?_
  intro p e s m below meth c C0 hT ls hl hP
  have hS : va_S (gA Γ) s.heap s.heap [] := va_S.rf
  have hl : lv_has ls 4 [(0, .ref (gB Γ + 0)), (1, .int a1), (2, .ref (gB Γ + 193))] := hl
  obtain ⟨hx, hb, hml, hr, hown, hts, hK, hlk, hX⟩ := id C0
  refine lv_aload_n hx hb dL_hint_0 rfl (lv_at hl 2 rfl) ?_
  refine lv_iconst (v := 0) hx hb dL_hint_1 (by decide) ?_
  refine lv_aload_n hx hb dL_hint_2 rfl (lv_at hl 0 rfl) ?_
  refine lv_iload_n hx hb dL_hint_3 rfl (lv_at hl 1 rfl) ?_
  refine gHV (rest := [.int (0 : Int32), .ref (gB Γ + 193)]) C0 cal_X9_hint wl_L_49 wi_X9_hint ws_X9_hint ⟨Nat.le_of_ble_eq_true rfl, Nat.le_of_ble_eq_true rfl⟩ ⟨Nat.le_of_ble_eq_true rfl, Nat.le_of_ble_eq_true rfl⟩ grv_9 [.int a1] rfl (Nat.le_of_ble_eq_true rfl) hP hS hl.1 dL_hint_4 h (fun u hu => m_X9_hint l hst Γ a1 g u hu) (fun n3 g4 H locs q9 ce h hP hS hce hcv hcl => ?_) (fun r2 g1 H locs h hP hS => ?_) rfl
  ·
    by_cases c5 : n3 = 3
    · replace h := gpos c5 h
      subst c5
      refine gCatch1 hown hts hX hT (by decide) (by decide) wcl_L_28 (by decide) hce hcv hcl ?_
      refine lv_astore_n (lv' := [(3, .ref q9), (0, .ref (gB Γ + 0)), (1, .int a1), (2, .ref (gB Γ + 193))]) hx hb dL_hint_12 rfl hl (by decide) rfl (fun ls hl => ?_)
      refine lv_iconst (v := 1) hx hb dL_hint_13 (by decide) ?_
      exact giretW hx hb hr hlk hP hS (Nat.le_of_ble_eq_true rfl) (Nat.le_of_ble_eq_true rfl) dL_hint_14 h
    replace h := gneg c5 h
    by_cases c6 : n3 = 2
    · replace h := gpos c6 h
      subst c6
      refine gCatch2 (n1 := 3) hown hts hX hT (by decide) wcl_L_28 (by decide) (by decide) (by decide) wcl_L_15 (by decide) hce hcv hcl ?_
      refine lv_astore_n (lv' := [(3, .ref q9), (0, .ref (gB Γ + 0)), (1, .int a1), (2, .ref (gB Γ + 193))]) hx hb dL_hint_15 rfl hl (by decide) rfl (fun ls hl => ?_)
      refine lv_iconst (v := 2) hx hb dL_hint_16 (by decide) ?_
      exact giretW hx hb hr hlk hP hS (Nat.le_of_ble_eq_true rfl) (Nat.le_of_ble_eq_true rfl) dL_hint_17 h
    replace h := gneg c6 h
    cases h
  refine lv_i2l hx hb dL_hint_7 rfl ?_
  refine gJst hx hb hK hP hS (is_193 hfull) dL_hint_8 h (fun H locs g7 h hP hS => ?_)
  refine lv_goto (tgt := 18) hx hb dL_hint_9 (by decide) ?_
  refine lv_iconst (v := 0) hx hb dL_hint_18 (by decide) ?_
  exact giretW hx hb hr hlk hP hS (Nat.le_of_ble_eq_true rfl) (Nat.le_of_ble_eq_true rfl) dL_hint_19 h
set_option maxHeartbeats 2000000 in
set_option maxRecDepth 20000 in
theorem m_L_giveUp (l : Launch) (hst : l.stackTraces = false) (Γ : gE)  (hfull : gFull Γ) (a1 : Int32) (g : gG) (z : Int32 × gG) (h : f_L_giveUp a1 g = some z) : gHi l yL_giveUp cL_giveUp 4 (some .int) [(0, 9, 12, 28)] 8 124 1 6 Γ [.ref (gB Γ + 0), .int a1, .ref (gB Γ + 193)] g z := by
  unfold f_L_giveUp at h
  refine gStartH (own := RL) (by decide +kernel) rfl (Nat.le_of_ble_eq_true rfl) ?_
  intro p e s m below meth c C0 hT ls hl hP
  have hS : va_S (gA Γ) s.heap s.heap [] := va_S.rf
  have hl : lv_has ls 4 [(0, .ref (gB Γ + 0)), (1, .int a1), (2, .ref (gB Γ + 193))] := hl
  obtain ⟨hx, hb, hml, hr, hown, hts, hK, hlk, hX⟩ := id C0
  refine lv_aload_n hx hb dL_giveUp_0 rfl (lv_at hl 2 rfl) ?_
  refine lv_iconst (v := 0) hx hb dL_giveUp_1 (by decide) ?_
  refine lv_aload_n hx hb dL_giveUp_2 rfl (lv_at hl 0 rfl) ?_
  refine lv_iload_n hx hb dL_giveUp_3 rfl (lv_at hl 1 rfl) ?_
  refine gHV (rest := [.int (0 : Int32), .ref (gB Γ + 193)]) C0 cal_X9_giveUp wl_L_52 wi_X9_giveUp ws_X9_giveUp ⟨Nat.le_of_ble_eq_true rfl, Nat.le_of_ble_eq_true rfl⟩ ⟨Nat.le_of_ble_eq_true rfl, Nat.le_of_ble_eq_true rfl⟩ grv_9 [.int a1] rfl (Nat.le_of_ble_eq_true rfl) hP hS hl.1 dL_giveUp_4 h (fun u hu => m_X9_giveUp l hst Γ a1 g u hu) (fun n3 g4 H locs q9 ce h hP hS hce hcv hcl => ?_) (fun r2 g1 H locs h hP hS => ?_) rfl
  ·
    by_cases c5 : n3 = 3
    · replace h := gpos c5 h
      subst c5
      refine gCatch1 hown hts hX hT (by decide) (by decide) wcl_L_28 (by decide) hce hcv hcl ?_
      refine lv_astore_n (lv' := [(3, .ref q9), (0, .ref (gB Γ + 0)), (1, .int a1), (2, .ref (gB Γ + 193))]) hx hb dL_giveUp_12 rfl hl (by decide) rfl (fun ls hl => ?_)
      refine lv_iconst (v := 1) hx hb dL_giveUp_13 (by decide) ?_
      exact giretW hx hb hr hlk hP hS (Nat.le_of_ble_eq_true rfl) (Nat.le_of_ble_eq_true rfl) dL_giveUp_14 h
    replace h := gneg c5 h
    cases h
  refine lv_i2l hx hb dL_giveUp_7 rfl ?_
  refine gJst hx hb hK hP hS (is_193 hfull) dL_giveUp_8 h (fun H locs g6 h hP hS => ?_)
  refine lv_goto (tgt := 15) hx hb dL_giveUp_9 (by decide) ?_
  refine lv_iconst (v := 0) hx hb dL_giveUp_15 (by decide) ?_
  exact giretW hx hb hr hlk hP hS (Nat.le_of_ble_eq_true rfl) (Nat.le_of_ble_eq_true rfl) dL_giveUp_16 h
set_option maxHeartbeats 2000000 in
set_option maxRecDepth 20000 in
theorem m_L_move (l : Launch) (hst : l.stackTraces = false) (Γ : gE)  (hfull : gFull Γ) (a1 : Int32) (a2 : Int32) (a3 : Int32) (g : gG) (z : Int32 × gG) (h : f_L_move a1 a2 a3 g = some z) : gHi l yL_move cL_move 6 (some .int) [(0, 12, 15, 28), (0, 12, 19, 13)] 8 126 2 12 Γ [.ref (gB Γ + 0), .int a1, .int a2, .int a3, .ref (gB Γ + 193)] g z := by
  unfold f_L_move at h
  refine gStartH (own := RL) (by decide +kernel) rfl (Nat.le_of_ble_eq_true rfl) ?_
  intro p e s m below meth c C0 hT ls hl hP
  have hS : va_S (gA Γ) s.heap s.heap [] := va_S.rf
  have hl : lv_has ls 6 [(0, .ref (gB Γ + 0)), (1, .int a1), (2, .int a2), (3, .int a3), (4, .ref (gB Γ + 193))] := hl
  obtain ⟨hx, hb, hml, hr, hown, hts, hK, hlk, hX⟩ := id C0
  refine lv_aload hx hb dL_move_0 (lv_at hl 4 rfl) ?_
  refine lv_iconst (v := 0) hx hb dL_move_2 (by decide) ?_
  refine lv_aload_n hx hb dL_move_3 rfl (lv_at hl 0 rfl) ?_
  refine lv_iload_n hx hb dL_move_4 rfl (lv_at hl 1 rfl) ?_
  refine lv_iload_n hx hb dL_move_5 rfl (lv_at hl 2 rfl) ?_
  refine lv_iload_n hx hb dL_move_6 rfl (lv_at hl 3 rfl) ?_
  refine gHV (rest := [.int (0 : Int32), .ref (gB Γ + 193)]) C0 cal_X9_move wl_L_55 wi_X9_move ws_X9_move ⟨Nat.le_of_ble_eq_true rfl, Nat.le_of_ble_eq_true rfl⟩ ⟨Nat.le_of_ble_eq_true rfl, Nat.le_of_ble_eq_true rfl⟩ grv_9 [.int a1, .int a2, .int a3] rfl (Nat.le_of_ble_eq_true rfl) hP hS hl.1 dL_move_7 h (fun u hu => m_X9_move l hst Γ a1 a2 a3 g u hu) (fun n3 g4 H locs q9 ce h hP hS hce hcv hcl => ?_) (fun r2 g1 H locs h hP hS => ?_) rfl
  ·
    by_cases c5 : n3 = 3
    · replace h := gpos c5 h
      subst c5
      refine gCatch1 hown hts hX hT (by decide) (by decide) wcl_L_28 (by decide) hce hcv hcl ?_
      refine lv_astore (lv' := [(5, .ref q9), (0, .ref (gB Γ + 0)), (1, .int a1), (2, .int a2), (3, .int a3), (4, .ref (gB Γ + 193))]) hx hb dL_move_15 hl (by decide) rfl (fun ls hl => ?_)
      refine lv_iconst (v := 1) hx hb dL_move_17 (by decide) ?_
      exact giretW hx hb hr hlk hP hS (Nat.le_of_ble_eq_true rfl) (Nat.le_of_ble_eq_true rfl) dL_move_18 h
    replace h := gneg c5 h
    by_cases c6 : n3 = 1
    · replace h := gpos c6 h
      subst c6
      refine gCatch2 (n1 := 3) hown hts hX hT (by decide) wcl_L_28 (by decide) (by decide) (by decide) wcl_L_13 (by decide) hce hcv hcl ?_
      refine lv_astore (lv' := [(5, .ref q9), (0, .ref (gB Γ + 0)), (1, .int a1), (2, .int a2), (3, .int a3), (4, .ref (gB Γ + 193))]) hx hb dL_move_19 hl (by decide) rfl (fun ls hl => ?_)
      refine lv_iconst (v := 2) hx hb dL_move_21 (by decide) ?_
      exact giretW hx hb hr hlk hP hS (Nat.le_of_ble_eq_true rfl) (Nat.le_of_ble_eq_true rfl) dL_move_22 h
    replace h := gneg c6 h
    cases h
  refine lv_i2l hx hb dL_move_10 rfl ?_
  refine gJst hx hb hK hP hS (is_193 hfull) dL_move_11 h (fun H locs g7 h hP hS => ?_)
  refine lv_goto (tgt := 23) hx hb dL_move_12 (by decide) ?_
  refine lv_iconst (v := 0) hx hb dL_move_23 (by decide) ?_
  exact giretW hx hb hr hlk hP hS (Nat.le_of_ble_eq_true rfl) (Nat.le_of_ble_eq_true rfl) dL_move_24 h
set_option maxHeartbeats 2000000 in
set_option maxRecDepth 20000 in
theorem m_L_ease (l : Launch) (hst : l.stackTraces = false) (Γ : gE)  (hfull : gFull Γ) (a1 : Int32) (g : gG) (z : Int32 × gG) (h : f_L_ease a1 g = some z) : gHi l yL_ease cL_ease 4 (some .int) [(0, 9, 12, 28)] 8 125 1 6 Γ [.ref (gB Γ + 0), .int a1, .ref (gB Γ + 193)] g z := by
  unfold f_L_ease at h
  refine gStartH (own := RL) (by decide +kernel) rfl (Nat.le_of_ble_eq_true rfl) ?_
  intro p e s m below meth c C0 hT ls hl hP
  have hS : va_S (gA Γ) s.heap s.heap [] := va_S.rf
  have hl : lv_has ls 4 [(0, .ref (gB Γ + 0)), (1, .int a1), (2, .ref (gB Γ + 193))] := hl
  obtain ⟨hx, hb, hml, hr, hown, hts, hK, hlk, hX⟩ := id C0
  refine lv_aload_n hx hb dL_ease_0 rfl (lv_at hl 2 rfl) ?_
  refine lv_iconst (v := 0) hx hb dL_ease_1 (by decide) ?_
  refine lv_aload_n hx hb dL_ease_2 rfl (lv_at hl 0 rfl) ?_
  refine lv_iload_n hx hb dL_ease_3 rfl (lv_at hl 1 rfl) ?_
  refine gHV (rest := [.int (0 : Int32), .ref (gB Γ + 193)]) C0 cal_X9_ease wl_L_59 wi_X9_ease ws_X9_ease ⟨Nat.le_of_ble_eq_true rfl, Nat.le_of_ble_eq_true rfl⟩ ⟨Nat.le_of_ble_eq_true rfl, Nat.le_of_ble_eq_true rfl⟩ grv_9 [.int a1] rfl (Nat.le_of_ble_eq_true rfl) hP hS hl.1 dL_ease_4 h (fun u hu => m_X9_ease l hst Γ a1 g u hu) (fun n3 g4 H locs q9 ce h hP hS hce hcv hcl => ?_) (fun r2 g1 H locs h hP hS => ?_) rfl
  ·
    by_cases c5 : n3 = 3
    · replace h := gpos c5 h
      subst c5
      refine gCatch1 hown hts hX hT (by decide) (by decide) wcl_L_28 (by decide) hce hcv hcl ?_
      refine lv_astore_n (lv' := [(3, .ref q9), (0, .ref (gB Γ + 0)), (1, .int a1), (2, .ref (gB Γ + 193))]) hx hb dL_ease_12 rfl hl (by decide) rfl (fun ls hl => ?_)
      refine lv_iconst (v := 1) hx hb dL_ease_13 (by decide) ?_
      exact giretW hx hb hr hlk hP hS (Nat.le_of_ble_eq_true rfl) (Nat.le_of_ble_eq_true rfl) dL_ease_14 h
    replace h := gneg c5 h
    cases h
  refine lv_i2l hx hb dL_ease_7 rfl ?_
  refine gJst hx hb hK hP hS (is_193 hfull) dL_ease_8 h (fun H locs g6 h hP hS => ?_)
  refine lv_goto (tgt := 15) hx hb dL_ease_9 (by decide) ?_
  refine lv_iconst (v := 0) hx hb dL_ease_15 (by decide) ?_
  exact giretW hx hb hr hlk hP hS (Nat.le_of_ble_eq_true rfl) (Nat.le_of_ble_eq_true rfl) dL_ease_16 h
set_option maxHeartbeats 2000000 in
set_option maxRecDepth 20000 in
theorem m_L_undo (l : Launch) (hst : l.stackTraces = false) (Γ : gE)  (hfull : gFull Γ)  (g : gG) (z : Int32 × gG) (h : f_L_undo g = some z) : gHi l yL_undo cL_undo 3 (some .int) [(0, 8, 11, 15)] 7 102 1 6 Γ [.ref (gB Γ + 0), .ref (gB Γ + 193)] g z := by
  unfold f_L_undo at h
  refine gStartH (own := RL) (by decide +kernel) rfl (Nat.le_of_ble_eq_true rfl) ?_
  intro p e s m below meth c C0 hT ls hl hP
  have hS : va_S (gA Γ) s.heap s.heap [] := va_S.rf
  have hl : lv_has ls 3 [(0, .ref (gB Γ + 0)), (1, .ref (gB Γ + 193))] := hl
  obtain ⟨hx, hb, hml, hr, hown, hts, hK, hlk, hX⟩ := id C0
  refine lv_aload_n hx hb dL_undo_0 rfl (lv_at hl 1 rfl) ?_
  refine lv_iconst (v := 0) hx hb dL_undo_1 (by decide) ?_
  refine lv_aload_n hx hb dL_undo_2 rfl (lv_at hl 0 rfl) ?_
  refine gHV (rest := [.int (0 : Int32), .ref (gB Γ + 193)]) C0 cal_X9_undo wl_L_62 wi_X9_undo ws_X9_undo ⟨Nat.le_of_ble_eq_true rfl, Nat.le_of_ble_eq_true rfl⟩ ⟨Nat.le_of_ble_eq_true rfl, Nat.le_of_ble_eq_true rfl⟩ grv_9 [] rfl (Nat.le_of_ble_eq_true rfl) hP hS hl.1 dL_undo_3 h (fun u hu => m_X9_undo l hst Γ g u hu) (fun n3 g4 H locs q9 ce h hP hS hce hcv hcl => ?_) (fun r2 g1 H locs h hP hS => ?_) rfl
  ·
    by_cases c5 : n3 = 2
    · replace h := gpos c5 h
      subst c5
      refine gCatch1 hown hts hX hT (by decide) (by decide) wcl_L_15 (by decide) hce hcv hcl ?_
      refine lv_astore_n (lv' := [(2, .ref q9), (0, .ref (gB Γ + 0)), (1, .ref (gB Γ + 193))]) hx hb dL_undo_11 rfl hl (by decide) rfl (fun ls hl => ?_)
      refine lv_iconst (v := 1) hx hb dL_undo_12 (by decide) ?_
      exact giretW hx hb hr hlk hP hS (Nat.le_of_ble_eq_true rfl) (Nat.le_of_ble_eq_true rfl) dL_undo_13 h
    replace h := gneg c5 h
    cases h
  refine lv_i2l hx hb dL_undo_6 rfl ?_
  refine gJst hx hb hK hP hS (is_193 hfull) dL_undo_7 h (fun H locs g6 h hP hS => ?_)
  refine lv_goto (tgt := 14) hx hb dL_undo_8 (by decide) ?_
  refine lv_iconst (v := 0) hx hb dL_undo_14 (by decide) ?_
  exact giretW hx hb hr hlk hP hS (Nat.le_of_ble_eq_true rfl) (Nat.le_of_ble_eq_true rfl) dL_undo_15 h
set_option maxHeartbeats 2000000 in
set_option maxRecDepth 20000 in
theorem m_L_shortest (l : Launch) (hst : l.stackTraces = false) (Γ : gE)  (hfull : gFull Γ) (a1 : Int32) (a2 : Int32) (g : gG) (z : Int32 × gG) (h : f_L_shortest a1 a2 g = some z) : gHi l yL_shortest cL_shortest 5 (some .int) [(0, 10, 13, 28), (0, 10, 17, 13)] 8 125 2 12 Γ [.ref (gB Γ + 0), .int a1, .int a2, .ref (gB Γ + 193)] g z := by
  unfold f_L_shortest at h
  refine gStartH (own := RL) (by decide +kernel) rfl (Nat.le_of_ble_eq_true rfl) ?_
  intro p e s m below meth c C0 hT ls hl hP
  have hS : va_S (gA Γ) s.heap s.heap [] := va_S.rf
  have hl : lv_has ls 5 [(0, .ref (gB Γ + 0)), (1, .int a1), (2, .int a2), (3, .ref (gB Γ + 193))] := hl
  obtain ⟨hx, hb, hml, hr, hown, hts, hK, hlk, hX⟩ := id C0
  refine lv_aload_n hx hb dL_shortest_0 rfl (lv_at hl 3 rfl) ?_
  refine lv_iconst (v := 0) hx hb dL_shortest_1 (by decide) ?_
  refine lv_aload_n hx hb dL_shortest_2 rfl (lv_at hl 0 rfl) ?_
  refine lv_iload_n hx hb dL_shortest_3 rfl (lv_at hl 1 rfl) ?_
  refine lv_iload_n hx hb dL_shortest_4 rfl (lv_at hl 2 rfl) ?_
  refine gHV (rest := [.int (0 : Int32), .ref (gB Γ + 193)]) C0 cal_X9_shortest wl_L_65 wi_X9_shortest ws_X9_shortest ⟨Nat.le_of_ble_eq_true rfl, Nat.le_of_ble_eq_true rfl⟩ ⟨Nat.le_of_ble_eq_true rfl, Nat.le_of_ble_eq_true rfl⟩ grv_9 [.int a1, .int a2] rfl (Nat.le_of_ble_eq_true rfl) hP hS hl.1 dL_shortest_5 h (fun u hu => m_X9_shortest l hst Γ a1 a2 g u hu) (fun n3 g4 H locs q9 ce h hP hS hce hcv hcl => ?_) (fun r2 g1 H locs h hP hS => ?_) rfl
  ·
    by_cases c5 : n3 = 3
    · replace h := gpos c5 h
      subst c5
      refine gCatch1 hown hts hX hT (by decide) (by decide) wcl_L_28 (by decide) hce hcv hcl ?_
      refine lv_astore (lv' := [(4, .ref q9), (0, .ref (gB Γ + 0)), (1, .int a1), (2, .int a2), (3, .ref (gB Γ + 193))]) hx hb dL_shortest_13 hl (by decide) rfl (fun ls hl => ?_)
      refine lv_iconst (v := 1) hx hb dL_shortest_15 (by decide) ?_
      exact giretW hx hb hr hlk hP hS (Nat.le_of_ble_eq_true rfl) (Nat.le_of_ble_eq_true rfl) dL_shortest_16 h
    replace h := gneg c5 h
    by_cases c6 : n3 = 1
    · replace h := gpos c6 h
      subst c6
      refine gCatch2 (n1 := 3) hown hts hX hT (by decide) wcl_L_28 (by decide) (by decide) (by decide) wcl_L_13 (by decide) hce hcv hcl ?_
      refine lv_astore (lv' := [(4, .ref q9), (0, .ref (gB Γ + 0)), (1, .int a1), (2, .int a2), (3, .ref (gB Γ + 193))]) hx hb dL_shortest_17 hl (by decide) rfl (fun ls hl => ?_)
      refine lv_iconst (v := 2) hx hb dL_shortest_19 (by decide) ?_
      exact giretW hx hb hr hlk hP hS (Nat.le_of_ble_eq_true rfl) (Nat.le_of_ble_eq_true rfl) dL_shortest_20 h
    replace h := gneg c6 h
    cases h
  refine lv_i2l hx hb dL_shortest_8 rfl ?_
  refine gJst hx hb hK hP hS (is_193 hfull) dL_shortest_9 h (fun H locs g7 h hP hS => ?_)
  refine lv_goto (tgt := 21) hx hb dL_shortest_10 (by decide) ?_
  refine lv_iconst (v := 0) hx hb dL_shortest_21 (by decide) ?_
  exact giretW hx hb hr hlk hP hS (Nat.le_of_ble_eq_true rfl) (Nat.le_of_ble_eq_true rfl) dL_shortest_22 h
set_option maxHeartbeats 2000000 in
set_option maxRecDepth 20000 in
theorem m_L_quickest (l : Launch) (hst : l.stackTraces = false) (Γ : gE)  (hfull : gFull Γ) (a1 : Int32) (a2 : Int32) (g : gG) (z : Int32 × gG) (h : f_L_quickest a1 a2 g = some z) : gHi l yL_quickest cL_quickest 5 (some .int) [(0, 10, 13, 28), (0, 10, 17, 13)] 8 146 2 12 Γ [.ref (gB Γ + 0), .int a1, .int a2, .ref (gB Γ + 193)] g z := by
  unfold f_L_quickest at h
  refine gStartH (own := RL) (by decide +kernel) rfl (Nat.le_of_ble_eq_true rfl) ?_
  intro p e s m below meth c C0 hT ls hl hP
  have hS : va_S (gA Γ) s.heap s.heap [] := va_S.rf
  have hl : lv_has ls 5 [(0, .ref (gB Γ + 0)), (1, .int a1), (2, .int a2), (3, .ref (gB Γ + 193))] := hl
  obtain ⟨hx, hb, hml, hr, hown, hts, hK, hlk, hX⟩ := id C0
  refine lv_aload_n hx hb dL_quickest_0 rfl (lv_at hl 3 rfl) ?_
  refine lv_iconst (v := 0) hx hb dL_quickest_1 (by decide) ?_
  refine lv_aload_n hx hb dL_quickest_2 rfl (lv_at hl 0 rfl) ?_
  refine lv_iload_n hx hb dL_quickest_3 rfl (lv_at hl 1 rfl) ?_
  refine lv_iload_n hx hb dL_quickest_4 rfl (lv_at hl 2 rfl) ?_
  refine gHV (rest := [.int (0 : Int32), .ref (gB Γ + 193)]) C0 cal_X9_quickest wl_L_68 wi_X9_quickest ws_X9_quickest ⟨Nat.le_of_ble_eq_true rfl, Nat.le_of_ble_eq_true rfl⟩ ⟨Nat.le_of_ble_eq_true rfl, Nat.le_of_ble_eq_true rfl⟩ grv_9 [.int a1, .int a2] rfl (Nat.le_of_ble_eq_true rfl) hP hS hl.1 dL_quickest_5 h (fun u hu => m_X9_quickest l hst Γ a1 a2 g u hu) (fun n3 g4 H locs q9 ce h hP hS hce hcv hcl => ?_) (fun r2 g1 H locs h hP hS => ?_) rfl
  ·
    by_cases c5 : n3 = 3
    · replace h := gpos c5 h
      subst c5
      refine gCatch1 hown hts hX hT (by decide) (by decide) wcl_L_28 (by decide) hce hcv hcl ?_
      refine lv_astore (lv' := [(4, .ref q9), (0, .ref (gB Γ + 0)), (1, .int a1), (2, .int a2), (3, .ref (gB Γ + 193))]) hx hb dL_quickest_13 hl (by decide) rfl (fun ls hl => ?_)
      refine lv_iconst (v := 1) hx hb dL_quickest_15 (by decide) ?_
      exact giretW hx hb hr hlk hP hS (Nat.le_of_ble_eq_true rfl) (Nat.le_of_ble_eq_true rfl) dL_quickest_16 h
    replace h := gneg c5 h
    by_cases c6 : n3 = 1
    · replace h := gpos c6 h
      subst c6
      refine gCatch2 (n1 := 3) hown hts hX hT (by decide) wcl_L_28 (by decide) (by decide) (by decide) wcl_L_13 (by decide) hce hcv hcl ?_
      refine lv_astore (lv' := [(4, .ref q9), (0, .ref (gB Γ + 0)), (1, .int a1), (2, .int a2), (3, .ref (gB Γ + 193))]) hx hb dL_quickest_17 hl (by decide) rfl (fun ls hl => ?_)
      refine lv_iconst (v := 2) hx hb dL_quickest_19 (by decide) ?_
      exact giretW hx hb hr hlk hP hS (Nat.le_of_ble_eq_true rfl) (Nat.le_of_ble_eq_true rfl) dL_quickest_20 h
    replace h := gneg c6 h
    cases h
  refine lv_i2l hx hb dL_quickest_8 rfl ?_
  refine gJst hx hb hK hP hS (is_193 hfull) dL_quickest_9 h (fun H locs g7 h hP hS => ?_)
  refine lv_goto (tgt := 21) hx hb dL_quickest_10 (by decide) ?_
  refine lv_iconst (v := 0) hx hb dL_quickest_21 (by decide) ?_
  exact giretW hx hb hr hlk hP hS (Nat.le_of_ble_eq_true rfl) (Nat.le_of_ble_eq_true rfl) dL_quickest_22 h
set_option maxHeartbeats 2000000 in
set_option maxRecDepth 20000 in
theorem m_L_orders (l : Launch) (hst : l.stackTraces = false) (Γ : gE)  (hfull : gFull Γ) (a1 : Int32) (g : gG) (z : Int32 × gG) (h : f_L_orders a1 g = some z) : gHi l yL_orders cL_orders 4 (some .int) [(0, 9, 12, 28)] 8 124 1 6 Γ [.ref (gB Γ + 0), .int a1, .ref (gB Γ + 193)] g z := by
  unfold f_L_orders at h
  refine gStartH (own := RL) (by decide +kernel) rfl (Nat.le_of_ble_eq_true rfl) ?_
  intro p e s m below meth c C0 hT ls hl hP
  have hS : va_S (gA Γ) s.heap s.heap [] := va_S.rf
  have hl : lv_has ls 4 [(0, .ref (gB Γ + 0)), (1, .int a1), (2, .ref (gB Γ + 193))] := hl
  obtain ⟨hx, hb, hml, hr, hown, hts, hK, hlk, hX⟩ := id C0
  refine lv_aload_n hx hb dL_orders_0 rfl (lv_at hl 2 rfl) ?_
  refine lv_iconst (v := 0) hx hb dL_orders_1 (by decide) ?_
  refine lv_aload_n hx hb dL_orders_2 rfl (lv_at hl 0 rfl) ?_
  refine lv_iload_n hx hb dL_orders_3 rfl (lv_at hl 1 rfl) ?_
  refine gHV (rest := [.int (0 : Int32), .ref (gB Γ + 193)]) C0 cal_X9_orders wl_L_71 wi_X9_orders ws_X9_orders ⟨Nat.le_of_ble_eq_true rfl, Nat.le_of_ble_eq_true rfl⟩ ⟨Nat.le_of_ble_eq_true rfl, Nat.le_of_ble_eq_true rfl⟩ grv_9 [.int a1] rfl (Nat.le_of_ble_eq_true rfl) hP hS hl.1 dL_orders_4 h (fun u hu => m_X9_orders l hst Γ a1 g u hu) (fun n3 g4 H locs q9 ce h hP hS hce hcv hcl => ?_) (fun r2 g1 H locs h hP hS => ?_) rfl
  ·
    by_cases c5 : n3 = 3
    · replace h := gpos c5 h
      subst c5
      refine gCatch1 hown hts hX hT (by decide) (by decide) wcl_L_28 (by decide) hce hcv hcl ?_
      refine lv_astore_n (lv' := [(3, .ref q9), (0, .ref (gB Γ + 0)), (1, .int a1), (2, .ref (gB Γ + 193))]) hx hb dL_orders_12 rfl hl (by decide) rfl (fun ls hl => ?_)
      refine lv_iconst (v := 1) hx hb dL_orders_13 (by decide) ?_
      exact giretW hx hb hr hlk hP hS (Nat.le_of_ble_eq_true rfl) (Nat.le_of_ble_eq_true rfl) dL_orders_14 h
    replace h := gneg c5 h
    cases h
  refine lv_i2l hx hb dL_orders_7 rfl ?_
  refine gJst hx hb hK hP hS (is_193 hfull) dL_orders_8 h (fun H locs g6 h hP hS => ?_)
  refine lv_goto (tgt := 15) hx hb dL_orders_9 (by decide) ?_
  refine lv_iconst (v := 0) hx hb dL_orders_15 (by decide) ?_
  exact giretW hx hb hr hlk hP hS (Nat.le_of_ble_eq_true rfl) (Nat.le_of_ble_eq_true rfl) dL_orders_16 h
set_option maxHeartbeats 2000000 in
set_option maxRecDepth 20000 in
theorem m_L_safe (l : Launch) (hst : l.stackTraces = false) (Γ : gE)  (hfull : gFull Γ) (a1 : Int32) (g : gG) (z : Int32 × gG) (h : f_L_safe a1 g = some z) : gHi l yL_safe cL_safe 4 (some .int) [(0, 9, 12, 28)] 8 124 1 6 Γ [.ref (gB Γ + 0), .int a1, .ref (gB Γ + 193)] g z := by
  unfold f_L_safe at h
  refine gStartH (own := RL) (by decide +kernel) rfl (Nat.le_of_ble_eq_true rfl) ?_
  intro p e s m below meth c C0 hT ls hl hP
  have hS : va_S (gA Γ) s.heap s.heap [] := va_S.rf
  have hl : lv_has ls 4 [(0, .ref (gB Γ + 0)), (1, .int a1), (2, .ref (gB Γ + 193))] := hl
  obtain ⟨hx, hb, hml, hr, hown, hts, hK, hlk, hX⟩ := id C0
  refine lv_aload_n hx hb dL_safe_0 rfl (lv_at hl 2 rfl) ?_
  refine lv_iconst (v := 0) hx hb dL_safe_1 (by decide) ?_
  refine lv_aload_n hx hb dL_safe_2 rfl (lv_at hl 0 rfl) ?_
  refine lv_iload_n hx hb dL_safe_3 rfl (lv_at hl 1 rfl) ?_
  refine gHV (rest := [.int (0 : Int32), .ref (gB Γ + 193)]) C0 cal_X9_safe wl_L_74 wi_X9_safe ws_X9_safe ⟨Nat.le_of_ble_eq_true rfl, Nat.le_of_ble_eq_true rfl⟩ ⟨Nat.le_of_ble_eq_true rfl, Nat.le_of_ble_eq_true rfl⟩ grv_9 [.int a1] rfl (Nat.le_of_ble_eq_true rfl) hP hS hl.1 dL_safe_4 h (fun u hu => m_X9_safe l hst Γ a1 g u hu) (fun n3 g4 H locs q9 ce h hP hS hce hcv hcl => ?_) (fun r2 g1 H locs h hP hS => ?_) rfl
  ·
    by_cases c5 : n3 = 3
    · replace h := gpos c5 h
      subst c5
      refine gCatch1 hown hts hX hT (by decide) (by decide) wcl_L_28 (by decide) hce hcv hcl ?_
      refine lv_astore_n (lv' := [(3, .ref q9), (0, .ref (gB Γ + 0)), (1, .int a1), (2, .ref (gB Γ + 193))]) hx hb dL_safe_12 rfl hl (by decide) rfl (fun ls hl => ?_)
      refine lv_iconst (v := 1) hx hb dL_safe_13 (by decide) ?_
      exact giretW hx hb hr hlk hP hS (Nat.le_of_ble_eq_true rfl) (Nat.le_of_ble_eq_true rfl) dL_safe_14 h
    replace h := gneg c5 h
    cases h
  refine lv_i2l hx hb dL_safe_7 rfl ?_
  refine gJst hx hb hK hP hS (is_193 hfull) dL_safe_8 h (fun H locs g6 h hP hS => ?_)
  refine lv_goto (tgt := 15) hx hb dL_safe_9 (by decide) ?_
  refine lv_iconst (v := 0) hx hb dL_safe_15 (by decide) ?_
  exact giretW hx hb hr hlk hP hS (Nat.le_of_ble_eq_true rfl) (Nat.le_of_ble_eq_true rfl) dL_safe_16 h
set_option maxHeartbeats 2000000 in
set_option maxRecDepth 20000 in
theorem m_L_needed (l : Launch) (hst : l.stackTraces = false) (Γ : gE)  (hfull : gFull Γ) (a1 : Int32) (g : gG) (z : Int32 × gG) (h : f_L_needed a1 g = some z) : gHi l yL_needed cL_needed 4 (some .int) [(0, 9, 12, 28)] 8 124 1 6 Γ [.ref (gB Γ + 0), .int a1, .ref (gB Γ + 193)] g z := by
  unfold f_L_needed at h
  refine gStartH (own := RL) (by decide +kernel) rfl (Nat.le_of_ble_eq_true rfl) ?_
  intro p e s m below meth c C0 hT ls hl hP
  have hS : va_S (gA Γ) s.heap s.heap [] := va_S.rf
  have hl : lv_has ls 4 [(0, .ref (gB Γ + 0)), (1, .int a1), (2, .ref (gB Γ + 193))] := hl
  obtain ⟨hx, hb, hml, hr, hown, hts, hK, hlk, hX⟩ := id C0
  refine lv_aload_n hx hb dL_needed_0 rfl (lv_at hl 2 rfl) ?_
  refine lv_iconst (v := 0) hx hb dL_needed_1 (by decide) ?_
  refine lv_aload_n hx hb dL_needed_2 rfl (lv_at hl 0 rfl) ?_
  refine lv_iload_n hx hb dL_needed_3 rfl (lv_at hl 1 rfl) ?_
  refine gHV (rest := [.int (0 : Int32), .ref (gB Γ + 193)]) C0 cal_X9_needed wl_L_77 wi_X9_needed ws_X9_needed ⟨Nat.le_of_ble_eq_true rfl, Nat.le_of_ble_eq_true rfl⟩ ⟨Nat.le_of_ble_eq_true rfl, Nat.le_of_ble_eq_true rfl⟩ grv_9 [.int a1] rfl (Nat.le_of_ble_eq_true rfl) hP hS hl.1 dL_needed_4 h (fun u hu => m_X9_needed l hst Γ a1 g u hu) (fun n3 g4 H locs q9 ce h hP hS hce hcv hcl => ?_) (fun r2 g1 H locs h hP hS => ?_) rfl
  ·
    by_cases c5 : n3 = 3
    · replace h := gpos c5 h
      subst c5
      refine gCatch1 hown hts hX hT (by decide) (by decide) wcl_L_28 (by decide) hce hcv hcl ?_
      refine lv_astore_n (lv' := [(3, .ref q9), (0, .ref (gB Γ + 0)), (1, .int a1), (2, .ref (gB Γ + 193))]) hx hb dL_needed_12 rfl hl (by decide) rfl (fun ls hl => ?_)
      refine lv_iconst (v := 1) hx hb dL_needed_13 (by decide) ?_
      exact giretW hx hb hr hlk hP hS (Nat.le_of_ble_eq_true rfl) (Nat.le_of_ble_eq_true rfl) dL_needed_14 h
    replace h := gneg c5 h
    cases h
  refine lv_i2l hx hb dL_needed_7 rfl ?_
  refine gJst hx hb hK hP hS (is_193 hfull) dL_needed_8 h (fun H locs g6 h hP hS => ?_)
  refine lv_goto (tgt := 15) hx hb dL_needed_9 (by decide) ?_
  refine lv_iconst (v := 0) hx hb dL_needed_15 (by decide) ?_
  exact giretW hx hb hr hlk hP hS (Nat.le_of_ble_eq_true rfl) (Nat.le_of_ble_eq_true rfl) dL_needed_16 h
set_option maxHeartbeats 2000000 in
set_option maxRecDepth 20000 in
theorem m_L_runScript (l : Launch) (hst : l.stackTraces = false) (Γ : gE)  (hfull : gFull Γ) (a1 : Int32) (a2 : Int64) (g : gG) (z : Int32 × gG) (h : f_L_runScript a1 a2 g = some z) : gHi l yL_runScript cL_runScript 6 (some .int) [(0, 11, 14, 13)] 7 166 1 6 Γ [.ref (gB Γ + 0), .int a1, .long a2, .ref (gB Γ + 193)] g z := by
  unfold f_L_runScript at h
  refine gStartH (own := RL) (by decide +kernel) rfl (Nat.le_of_ble_eq_true rfl) ?_
  intro p e s m below meth c C0 hT ls hl hP
  have hS : va_S (gA Γ) s.heap s.heap [] := va_S.rf
  have hl : lv_has ls 6 [(0, .ref (gB Γ + 0)), (1, .int a1), (2, .long a2), (4, .ref (gB Γ + 193))] := hl
  obtain ⟨hx, hb, hml, hr, hown, hts, hK, hlk, hX⟩ := id C0
  refine lv_aload hx hb dL_runScript_0 (lv_at hl 3 rfl) ?_
  refine lv_iconst (v := 0) hx hb dL_runScript_2 (by decide) ?_
  refine lv_aload_n hx hb dL_runScript_3 rfl (lv_at hl 0 rfl) ?_
  refine lv_iload_n hx hb dL_runScript_4 rfl (lv_at hl 1 rfl) ?_
  refine lv_lload_n hx hb dL_runScript_5 rfl (lv_at hl 2 rfl) ?_
  refine gHV (rest := [.int (0 : Int32), .ref (gB Γ + 193)]) C0 cal_X9_runScript wl_L_80 wi_X9_runScript ws_X9_runScript ⟨Nat.le_of_ble_eq_true rfl, Nat.le_of_ble_eq_true rfl⟩ ⟨Nat.le_of_ble_eq_true rfl, Nat.le_of_ble_eq_true rfl⟩ grv_9 [.int a1, .long a2] rfl (Nat.le_of_ble_eq_true rfl) hP hS hl.1 dL_runScript_6 h (fun u hu => m_X9_runScript l hst Γ a1 a2 g u hu) (fun n3 g4 H locs q9 ce h hP hS hce hcv hcl => ?_) (fun r2 g1 H locs h hP hS => ?_) rfl
  ·
    by_cases c5 : n3 = 1
    · replace h := gpos c5 h
      subst c5
      refine gCatch1 hown hts hX hT (by decide) (by decide) wcl_L_13 (by decide) hce hcv hcl ?_
      refine lv_astore (lv' := [(5, .ref q9), (0, .ref (gB Γ + 0)), (1, .int a1), (2, .long a2), (4, .ref (gB Γ + 193))]) hx hb dL_runScript_14 hl (by decide) rfl (fun ls hl => ?_)
      refine lv_iconst (v := 1) hx hb dL_runScript_16 (by decide) ?_
      exact giretW hx hb hr hlk hP hS (Nat.le_of_ble_eq_true rfl) (Nat.le_of_ble_eq_true rfl) dL_runScript_17 h
    replace h := gneg c5 h
    cases h
  refine lv_i2l hx hb dL_runScript_9 rfl ?_
  refine gJst hx hb hK hP hS (is_193 hfull) dL_runScript_10 h (fun H locs g6 h hP hS => ?_)
  refine lv_goto (tgt := 18) hx hb dL_runScript_11 (by decide) ?_
  refine lv_iconst (v := 0) hx hb dL_runScript_18 (by decide) ?_
  exact giretW hx hb hr hlk hP hS (Nat.le_of_ble_eq_true rfl) (Nat.le_of_ble_eq_true rfl) dL_runScript_19 h
set_option maxHeartbeats 2000000 in
set_option maxRecDepth 20000 in
theorem m_L_simulate (l : Launch) (hst : l.stackTraces = false) (Γ : gE)  (hfull : gFull Γ) (a1 : Int64) (a3 : Int32) (g : gG) (z : Int32 × gG) (h : f_L_simulate a1 a3 g = some z) : gHi l yL_simulate cL_simulate 6 (some .int) [(0, 11, 14, 13)] 7 145 1 6 Γ [.ref (gB Γ + 0), .long a1, .int a3, .ref (gB Γ + 193)] g z := by
  unfold f_L_simulate at h
  refine gStartH (own := RL) (by decide +kernel) rfl (Nat.le_of_ble_eq_true rfl) ?_
  intro p e s m below meth c C0 hT ls hl hP
  have hS : va_S (gA Γ) s.heap s.heap [] := va_S.rf
  have hl : lv_has ls 6 [(0, .ref (gB Γ + 0)), (1, .long a1), (3, .int a3), (4, .ref (gB Γ + 193))] := hl
  obtain ⟨hx, hb, hml, hr, hown, hts, hK, hlk, hX⟩ := id C0
  refine lv_aload hx hb dL_simulate_0 (lv_at hl 3 rfl) ?_
  refine lv_iconst (v := 0) hx hb dL_simulate_2 (by decide) ?_
  refine lv_aload_n hx hb dL_simulate_3 rfl (lv_at hl 0 rfl) ?_
  refine lv_lload_n hx hb dL_simulate_4 rfl (lv_at hl 1 rfl) ?_
  refine lv_iload_n hx hb dL_simulate_5 rfl (lv_at hl 2 rfl) ?_
  refine gHV (rest := [.int (0 : Int32), .ref (gB Γ + 193)]) C0 cal_X9_simulate wl_L_84 wi_X9_simulate ws_X9_simulate ⟨Nat.le_of_ble_eq_true rfl, Nat.le_of_ble_eq_true rfl⟩ ⟨Nat.le_of_ble_eq_true rfl, Nat.le_of_ble_eq_true rfl⟩ grv_9 [.long a1, .int a3] rfl (Nat.le_of_ble_eq_true rfl) hP hS hl.1 dL_simulate_6 h (fun u hu => m_X9_simulate l hst Γ a1 a3 g u hu) (fun n3 g4 H locs q9 ce h hP hS hce hcv hcl => ?_) (fun r2 g1 H locs h hP hS => ?_) rfl
  ·
    by_cases c5 : n3 = 1
    · replace h := gpos c5 h
      subst c5
      refine gCatch1 hown hts hX hT (by decide) (by decide) wcl_L_13 (by decide) hce hcv hcl ?_
      refine lv_astore (lv' := [(5, .ref q9), (0, .ref (gB Γ + 0)), (1, .long a1), (3, .int a3), (4, .ref (gB Γ + 193))]) hx hb dL_simulate_14 hl (by decide) rfl (fun ls hl => ?_)
      refine lv_iconst (v := 1) hx hb dL_simulate_16 (by decide) ?_
      exact giretW hx hb hr hlk hP hS (Nat.le_of_ble_eq_true rfl) (Nat.le_of_ble_eq_true rfl) dL_simulate_17 h
    replace h := gneg c5 h
    cases h
  refine lv_i2l hx hb dL_simulate_9 rfl ?_
  refine gJst hx hb hK hP hS (is_193 hfull) dL_simulate_10 h (fun H locs g6 h hP hS => ?_)
  refine lv_goto (tgt := 18) hx hb dL_simulate_11 (by decide) ?_
  refine lv_iconst (v := 0) hx hb dL_simulate_18 (by decide) ?_
  exact giretW hx hb hr hlk hP hS (Nat.le_of_ble_eq_true rfl) (Nat.le_of_ble_eq_true rfl) dL_simulate_19 h
set_option maxHeartbeats 2000000 in
set_option maxRecDepth 20000 in
theorem m_L_save (l : Launch) (hst : l.stackTraces = false) (Γ : gE)  (hfull : gFull Γ) (a1 : Int32) (g : gG) (z : Int32 × gG) (h : f_L_save a1 g = some z) : gHi l yL_save cL_save 4 (some .int) [(0, 9, 12, 28)] 8 123 1 6 Γ [.ref (gB Γ + 0), .int a1, .ref (gB Γ + 193)] g z := by
  unfold f_L_save at h
  refine gStartH (own := RL) (by decide +kernel) rfl (Nat.le_of_ble_eq_true rfl) ?_
  intro p e s m below meth c C0 hT ls hl hP
  have hS : va_S (gA Γ) s.heap s.heap [] := va_S.rf
  have hl : lv_has ls 4 [(0, .ref (gB Γ + 0)), (1, .int a1), (2, .ref (gB Γ + 193))] := hl
  obtain ⟨hx, hb, hml, hr, hown, hts, hK, hlk, hX⟩ := id C0
  refine lv_aload_n hx hb dL_save_0 rfl (lv_at hl 2 rfl) ?_
  refine lv_iconst (v := 0) hx hb dL_save_1 (by decide) ?_
  refine lv_aload_n hx hb dL_save_2 rfl (lv_at hl 0 rfl) ?_
  refine lv_iload_n hx hb dL_save_3 rfl (lv_at hl 1 rfl) ?_
  refine gHV (rest := [.int (0 : Int32), .ref (gB Γ + 193)]) C0 cal_X9_save wl_L_88 wi_X9_save ws_X9_save ⟨Nat.le_of_ble_eq_true rfl, Nat.le_of_ble_eq_true rfl⟩ ⟨Nat.le_of_ble_eq_true rfl, Nat.le_of_ble_eq_true rfl⟩ grv_9 [.int a1] rfl (Nat.le_of_ble_eq_true rfl) hP hS hl.1 dL_save_4 h (fun u hu => m_X9_save l hst Γ a1 g u hu) (fun n3 g4 H locs q9 ce h hP hS hce hcv hcl => ?_) (fun r2 g1 H locs h hP hS => ?_) rfl
  ·
    by_cases c5 : n3 = 3
    · replace h := gpos c5 h
      subst c5
      refine gCatch1 hown hts hX hT (by decide) (by decide) wcl_L_28 (by decide) hce hcv hcl ?_
      refine lv_astore_n (lv' := [(3, .ref q9), (0, .ref (gB Γ + 0)), (1, .int a1), (2, .ref (gB Γ + 193))]) hx hb dL_save_12 rfl hl (by decide) rfl (fun ls hl => ?_)
      refine lv_iconst (v := 1) hx hb dL_save_13 (by decide) ?_
      exact giretW hx hb hr hlk hP hS (Nat.le_of_ble_eq_true rfl) (Nat.le_of_ble_eq_true rfl) dL_save_14 h
    replace h := gneg c5 h
    cases h
  refine lv_i2l hx hb dL_save_7 rfl ?_
  refine gJst hx hb hK hP hS (is_193 hfull) dL_save_8 h (fun H locs g6 h hP hS => ?_)
  refine lv_goto (tgt := 15) hx hb dL_save_9 (by decide) ?_
  refine lv_iconst (v := 0) hx hb dL_save_15 (by decide) ?_
  exact giretW hx hb hr hlk hP hS (Nat.le_of_ble_eq_true rfl) (Nat.le_of_ble_eq_true rfl) dL_save_16 h
set_option maxHeartbeats 2000000 in
set_option maxRecDepth 20000 in
theorem m_L_restore (l : Launch) (hst : l.stackTraces = false) (Γ : gE)  (hfull : gFull Γ) (a1 : Int32) (g : gG) (z : Int32 × gG) (h : f_L_restore a1 g = some z) : gHi l yL_restore cL_restore 4 (some .int) [(0, 9, 12, 28), (0, 9, 15, 15)] 8 123 2 12 Γ [.ref (gB Γ + 0), .int a1, .ref (gB Γ + 193)] g z := by
  unfold f_L_restore at h
  refine gStartH (own := RL) (by decide +kernel) rfl (Nat.le_of_ble_eq_true rfl) ?_
  intro p e s m below meth c C0 hT ls hl hP
  have hS : va_S (gA Γ) s.heap s.heap [] := va_S.rf
  have hl : lv_has ls 4 [(0, .ref (gB Γ + 0)), (1, .int a1), (2, .ref (gB Γ + 193))] := hl
  obtain ⟨hx, hb, hml, hr, hown, hts, hK, hlk, hX⟩ := id C0
  refine lv_aload_n hx hb dL_restore_0 rfl (lv_at hl 2 rfl) ?_
  refine lv_iconst (v := 0) hx hb dL_restore_1 (by decide) ?_
  refine lv_aload_n hx hb dL_restore_2 rfl (lv_at hl 0 rfl) ?_
  refine lv_iload_n hx hb dL_restore_3 rfl (lv_at hl 1 rfl) ?_
  refine gHV (rest := [.int (0 : Int32), .ref (gB Γ + 193)]) C0 cal_X9_restore wl_L_91 wi_X9_restore ws_X9_restore ⟨Nat.le_of_ble_eq_true rfl, Nat.le_of_ble_eq_true rfl⟩ ⟨Nat.le_of_ble_eq_true rfl, Nat.le_of_ble_eq_true rfl⟩ grv_9 [.int a1] rfl (Nat.le_of_ble_eq_true rfl) hP hS hl.1 dL_restore_4 h (fun u hu => m_X9_restore l hst Γ a1 g u hu) (fun n3 g4 H locs q9 ce h hP hS hce hcv hcl => ?_) (fun r2 g1 H locs h hP hS => ?_) rfl
  ·
    by_cases c5 : n3 = 3
    · replace h := gpos c5 h
      subst c5
      refine gCatch1 hown hts hX hT (by decide) (by decide) wcl_L_28 (by decide) hce hcv hcl ?_
      refine lv_astore_n (lv' := [(3, .ref q9), (0, .ref (gB Γ + 0)), (1, .int a1), (2, .ref (gB Γ + 193))]) hx hb dL_restore_12 rfl hl (by decide) rfl (fun ls hl => ?_)
      refine lv_iconst (v := 1) hx hb dL_restore_13 (by decide) ?_
      exact giretW hx hb hr hlk hP hS (Nat.le_of_ble_eq_true rfl) (Nat.le_of_ble_eq_true rfl) dL_restore_14 h
    replace h := gneg c5 h
    by_cases c6 : n3 = 2
    · replace h := gpos c6 h
      subst c6
      refine gCatch2 (n1 := 3) hown hts hX hT (by decide) wcl_L_28 (by decide) (by decide) (by decide) wcl_L_15 (by decide) hce hcv hcl ?_
      refine lv_astore_n (lv' := [(3, .ref q9), (0, .ref (gB Γ + 0)), (1, .int a1), (2, .ref (gB Γ + 193))]) hx hb dL_restore_15 rfl hl (by decide) rfl (fun ls hl => ?_)
      refine lv_iconst (v := 2) hx hb dL_restore_16 (by decide) ?_
      exact giretW hx hb hr hlk hP hS (Nat.le_of_ble_eq_true rfl) (Nat.le_of_ble_eq_true rfl) dL_restore_17 h
    replace h := gneg c6 h
    cases h
  refine lv_i2l hx hb dL_restore_7 rfl ?_
  refine gJst hx hb hK hP hS (is_193 hfull) dL_restore_8 h (fun H locs g7 h hP hS => ?_)
  refine lv_goto (tgt := 18) hx hb dL_restore_9 (by decide) ?_
  refine lv_iconst (v := 0) hx hb dL_restore_18 (by decide) ?_
  exact giretW hx hb hr hlk hP hS (Nat.le_of_ble_eq_true rfl) (Nat.le_of_ble_eq_true rfl) dL_restore_19 h
