set_option maxHeartbeats 2000000 in
set_option maxRecDepth 20000 in
theorem m_X6_isFull (l : Launch) (Γ : gE)    (g : gG) (z : Int32 × gG) (h : f_X6_isFull g = some z) : gMi l yX6_isFull cX6_isFull 1 (some .boolean) 0 0 Γ [.ref (gB Γ + 1)] g z := by
  unfold f_X6_isFull at h
  refine gStart (own := RX6) (by decide +kernel) rfl (Nat.le_of_ble_eq_true rfl) ?_
  intro p e s m below meth c C0 ls hl hP
  have hS : va_S (gA Γ) s.heap s.heap [] := va_S.rf
  have hl : lv_has ls 1 [(0, .ref (gB Γ + 1))] := hl
  obtain ⟨hx, hb, hml, hr, hown, hts, hK, hlk, hX⟩ := id C0
  refine lv_aload_n hx hb dX6_isFull_0 rfl (lv_at hl 0 rfl) ?_
  refine gf_6_1 hx hb hown hts hK hP wf_X6_15 dX6_isFull_1 ?_
  refine lv_bipush (v := 120) hx hb dX6_isFull_4 (by decide) ?_
  refine lv_icmp_lt (tgt := 13) hx hb dX6_isFull_6 (by decide) (fun c1 => ?_) (fun c1 => ?_)
  · replace h := gpos c1 h
    refine lv_iconst (v := 0) hx hb dX6_isFull_13 (by decide) ?_
    exact gzret0 hx hb hr hlk hP hS rfl dX6_isFull_14 h
  · replace h := gneg c1 h
    refine lv_iconst (v := 1) hx hb dX6_isFull_9 (by decide) ?_
    refine lv_goto (tgt := 14) hx hb dX6_isFull_10 (by decide) ?_
    exact gzret0 hx hb hr hlk hP hS rfl dX6_isFull_14 h
set_option maxHeartbeats 2000000 in
set_option maxRecDepth 20000 in
theorem m_X6_add (l : Launch) (Γ : gE)   (a1 : Int32) (g : gG) (z : Int32 × gG) (h : f_X6_add a1 g = some z) : gMi l yX6_add cX6_add 2 (some .int) 0 0 Γ [.ref (gB Γ + 1), .int a1] g z := by
  unfold f_X6_add at h
  refine gStart (own := RX6) (by decide +kernel) rfl (Nat.le_of_ble_eq_true rfl) ?_
  intro p e s m below meth c C0 ls hl hP
  have hS : va_S (gA Γ) s.heap s.heap [] := va_S.rf
  have hl : lv_has ls 2 [(0, .ref (gB Γ + 1)), (1, .int a1)] := hl
  obtain ⟨hx, hb, hml, hr, hown, hts, hK, hlk, hX⟩ := id C0
  refine lv_aload_n hx hb dX6_add_0 rfl (lv_at hl 0 rfl) ?_
  refine gf_6_1 hx hb hown hts hK hP wf_X6_15 dX6_add_1 ?_
  refine lv_bipush (v := 120) hx hb dX6_add_4 (by decide) ?_
  refine lv_icmp_ge (tgt := 30) hx hb dX6_add_6 (by decide) (fun c1 => ?_) (fun c1 => ?_)
  · replace h := gpos c1 h
    refine lv_aload_n hx hb dX6_add_30 rfl (lv_at hl 0 rfl) ?_
    refine gf_6_1 hx hb hown hts hK hP wf_X6_15 dX6_add_31 ?_
    exact giret hx hb hr hlk hP hS dX6_add_34 h
  · replace h := gneg c1 h
    refine lv_aload_n hx hb dX6_add_9 rfl (lv_at hl 0 rfl) ?_
    refine gf_6_0 hx hb hown hts hK hP wf_X6_9 dX6_add_10 ?_
    refine lv_aload_n hx hb dX6_add_13 rfl (lv_at hl 0 rfl) ?_
    refine gf_6_1 hx hb hown hts hK hP wf_X6_15 dX6_add_14 ?_
    refine lv_iload_n hx hb dX6_add_17 rfl (lv_at hl 1 rfl) ?_
    refine lv_i2c hx hb dX6_add_18 rfl ?_
    refine gCst hx hb hK hP hS is_2 dX6_add_19 h (fun H locs g2 h hP hS => ?_)
    refine lv_aload_n hx hb dX6_add_20 rfl (lv_at hl 0 rfl) ?_
    refine lv_dup hx hb dX6_add_21 rfl ?_
    refine gf_6_1 hx hb hown hts hK hP wf_X6_15 dX6_add_22 ?_
    refine lv_iconst (v := 1) hx hb dX6_add_25 (by decide) ?_
    refine lv_iadd hx hb dX6_add_26 ?_
    refine gp_6_1 hx hb hown hts hK hP hS wf_X6_15 dX6_add_27 h (fun H locs g3 h hP hS => ?_)
    refine lv_aload_n hx hb dX6_add_30 rfl (lv_at hl 0 rfl) ?_
    refine gf_6_1 hx hb hown hts hK hP wf_X6_15 dX6_add_31 ?_
    exact giret hx hb hr hlk hP hS dX6_add_34 h
set_option maxHeartbeats 2000000 in
set_option maxRecDepth 20000 in
theorem m_X6_empty (l : Launch) (Γ : gE)    (g : gG) (z : Int32 × gG) (h : f_X6_empty g = some z) : gMi l yX6_empty cX6_empty 2 (some .int) 0 0 Γ [.ref (gB Γ + 1)] g z := by
  unfold f_X6_empty at h
  refine gStart (own := RX6) (by decide +kernel) rfl (Nat.le_of_ble_eq_true rfl) ?_
  intro p e s m below meth c C0 ls hl hP
  have hS : va_S (gA Γ) s.heap s.heap [] := va_S.rf
  have hl : lv_has ls 2 [(0, .ref (gB Γ + 1))] := hl
  obtain ⟨hx, hb, hml, hr, hown, hts, hK, hlk, hX⟩ := id C0
  refine lv_aload_n hx hb dX6_empty_0 rfl (lv_at hl 0 rfl) ?_
  refine gf_6_1 hx hb hown hts hK hP wf_X6_15 dX6_empty_1 ?_
  refine lv_topi (fun x1 ex1 => ?_)
  replace h := gLetI ex1 h
  refine lv_istore_n (lv' := [(1, .int x1), (0, .ref (gB Γ + 1))]) hx hb dX6_empty_4 rfl hl (by decide) rfl (fun ls hl => ?_)
  refine lv_aload_n hx hb dX6_empty_5 rfl (lv_at hl 1 rfl) ?_
  refine lv_iconst (v := 0) hx hb dX6_empty_6 (by decide) ?_
  refine gp_6_1 hx hb hown hts hK hP hS wf_X6_15 dX6_empty_7 h (fun H locs g2 h hP hS => ?_)
  refine lv_iload_n hx hb dX6_empty_10 rfl (lv_at hl 0 rfl) ?_
  exact giret hx hb hr hlk hP hS dX6_empty_11 h
set_option maxHeartbeats 2000000 in
set_option maxRecDepth 20000 in
theorem m_X6_length (l : Launch) (Γ : gE)    (g : gG) (z : Int32 × gG) (h : f_X6_length g = some z) : gMi l yX6_length cX6_length 1 (some .int) 0 0 Γ [.ref (gB Γ + 1)] g z := by
  unfold f_X6_length at h
  refine gStart (own := RX6) (by decide +kernel) rfl (Nat.le_of_ble_eq_true rfl) ?_
  intro p e s m below meth c C0 ls hl hP
  have hS : va_S (gA Γ) s.heap s.heap [] := va_S.rf
  have hl : lv_has ls 1 [(0, .ref (gB Γ + 1))] := hl
  obtain ⟨hx, hb, hml, hr, hown, hts, hK, hlk, hX⟩ := id C0
  refine lv_aload_n hx hb dX6_length_0 rfl (lv_at hl 0 rfl) ?_
  refine gf_6_1 hx hb hown hts hK hP wf_X6_15 dX6_length_1 ?_
  exact giret hx hb hr hlk hP hS dX6_length_4 h
set_option maxHeartbeats 2000000 in
set_option maxRecDepth 20000 in
theorem m_X6_signAt (l : Launch) (Γ : gE)   (a1 : Int32) (g : gG) (z : Int32 × gG) (h : f_X6_signAt a1 g = some z) : gMi l yX6_signAt cX6_signAt 2 (some .char) 0 0 Γ [.ref (gB Γ + 1), .int a1] g z := by
  unfold f_X6_signAt at h
  refine gStart (own := RX6) (by decide +kernel) rfl (Nat.le_of_ble_eq_true rfl) ?_
  intro p e s m below meth c C0 ls hl hP
  have hS : va_S (gA Γ) s.heap s.heap [] := va_S.rf
  have hl : lv_has ls 2 [(0, .ref (gB Γ + 1)), (1, .int a1)] := hl
  obtain ⟨hx, hb, hml, hr, hown, hts, hK, hlk, hX⟩ := id C0
  refine lv_iload_n hx hb dX6_signAt_0 rfl (lv_at hl 1 rfl) ?_
  refine lv_if_lt (tgt := 21) hx hb dX6_signAt_1 (by decide) (fun c1 => ?_) (fun c1 => ?_)
  · replace h := gpos c1 h
    refine lv_iconst (v := 0) hx hb dX6_signAt_21 (by decide) ?_
    exact gcret hx hb hr hlk hP hS dX6_signAt_22 h
  · replace h := gneg c1 h
    refine lv_iload_n hx hb dX6_signAt_4 rfl (lv_at hl 1 rfl) ?_
    refine lv_aload_n hx hb dX6_signAt_5 rfl (lv_at hl 0 rfl) ?_
    refine gf_6_1 hx hb hown hts hK hP wf_X6_15 dX6_signAt_6 ?_
    refine lv_icmp_ge (tgt := 21) hx hb dX6_signAt_9 (by decide) (fun c2 => ?_) (fun c2 => ?_)
    · replace h := gpos c2 h
      refine lv_iconst (v := 0) hx hb dX6_signAt_21 (by decide) ?_
      exact gcret hx hb hr hlk hP hS dX6_signAt_22 h
    · replace h := gneg c2 h
      refine lv_aload_n hx hb dX6_signAt_12 rfl (lv_at hl 0 rfl) ?_
      refine gf_6_0 hx hb hown hts hK hP wf_X6_9 dX6_signAt_13 ?_
      refine lv_iload_n hx hb dX6_signAt_16 rfl (lv_at hl 1 rfl) ?_
      refine gCld hx hb hK hP is_2 dX6_signAt_17 h (fun h => ?_)
      refine lv_goto (tgt := 22) hx hb dX6_signAt_18 (by decide) ?_
      exact gcret hx hb hr hlk hP hS dX6_signAt_22 h
set_option maxHeartbeats 2000000 in
set_option maxRecDepth 20000 in
theorem m_X2_beginsPlace (l : Launch) (Γ : gE)    (g : gG) (z : Int32 × gG) (h : f_X2_beginsPlace g = some z) : gMi l yX2_beginsPlace cX2_beginsPlace 1 (some .boolean) 0 0 Γ [.ref (gB Γ + 3)] g z := by
  unfold f_X2_beginsPlace at h
  refine gStart (own := RX2) (by decide +kernel) rfl (Nat.le_of_ble_eq_true rfl) ?_
  intro p e s m below meth c C0 ls hl hP
  have hS : va_S (gA Γ) s.heap s.heap [] := va_S.rf
  have hl : lv_has ls 1 [(0, .ref (gB Γ + 3))] := hl
  obtain ⟨hx, hb, hml, hr, hown, hts, hK, hlk, hX⟩ := id C0
  refine lv_aload_n hx hb dX2_beginsPlace_0 rfl (lv_at hl 0 rfl) ?_
  refine gf_2_10 hx hb hown hts hK hP wf_X2_45 dX2_beginsPlace_1 ?_
  refine lv_bipush (v := 10) hx hb dX2_beginsPlace_4 (by decide) ?_
  refine lv_icmp_lt (tgt := 11) hx hb dX2_beginsPlace_6 (by decide) (fun c1 => ?_) (fun c1 => ?_)
  · replace h := gpos c1 h
    refine lv_aload_n hx hb dX2_beginsPlace_11 rfl (lv_at hl 0 rfl) ?_
    refine lv_dup hx hb dX2_beginsPlace_12 rfl ?_
    refine gf_2_10 hx hb hown hts hK hP wf_X2_45 dX2_beginsPlace_13 ?_
    refine lv_iconst (v := 1) hx hb dX2_beginsPlace_16 (by decide) ?_
    refine lv_iadd hx hb dX2_beginsPlace_17 ?_
    refine gp_2_10 hx hb hown hts hK hP hS wf_X2_45 dX2_beginsPlace_18 h (fun H locs g2 h hP hS => ?_)
    refine lv_aload_n hx hb dX2_beginsPlace_21 rfl (lv_at hl 0 rfl) ?_
    refine lv_iconst (v := 2) hx hb dX2_beginsPlace_22 (by decide) ?_
    refine gp_2_11 hx hb hown hts hK hP hS wf_X2_49 dX2_beginsPlace_23 h (fun H locs g3 h hP hS => ?_)
    refine lv_iconst (v := 1) hx hb dX2_beginsPlace_26 (by decide) ?_
    exact gzret0 hx hb hr hlk hP hS rfl dX2_beginsPlace_27 h
  · replace h := gneg c1 h
    refine lv_iconst (v := 0) hx hb dX2_beginsPlace_9 (by decide) ?_
    exact gzret0 hx hb hr hlk hP hS rfl dX2_beginsPlace_10 h
set_option maxHeartbeats 2000000 in
set_option maxRecDepth 20000 in
theorem m_X7_clear (l : Launch) (Γ : gE)    (g : gG) (z : Unit × gG) (h : f_X7_clear g = some z) : gMv l yX7_clear cX7_clear 1 none 0 0 Γ [.ref (gB Γ + 4)] g z := by
  unfold f_X7_clear at h
  refine gStart (own := RX7) (by decide +kernel) rfl (Nat.le_of_ble_eq_true rfl) ?_
  intro p e s m below meth c C0 ls hl hP
  have hS : va_S (gA Γ) s.heap s.heap [] := va_S.rf
  have hl : lv_has ls 1 [(0, .ref (gB Γ + 4))] := hl
  obtain ⟨hx, hb, hml, hr, hown, hts, hK, hlk, hX⟩ := id C0
  refine lv_aload_n hx hb dX7_clear_0 rfl (lv_at hl 0 rfl) ?_
  refine lv_iconst (v := 0) hx hb dX7_clear_1 (by decide) ?_
  refine gp_7_1 hx hb hown hts hK hP hS wf_X7_15 dX7_clear_2 h (fun H locs g1 h hP hS => ?_)
  exact gvret hx hb hr hlk hP hS dX7_clear_5 h
set_option maxHeartbeats 2000000 in
set_option maxRecDepth 20000 in
theorem m_X2_beginConditions (l : Launch) (Γ : gE)   (a1 : Int32) (g : gG) (z : Unit × gG) (h : f_X2_beginConditions a1 g = some z) : gMv l yX2_beginConditions cX2_beginConditions 2 none 0 0 Γ [.ref (gB Γ + 3), .int a1] g z := by
  unfold f_X2_beginConditions at h
  refine gStart (own := RX2) (by decide +kernel) rfl (Nat.le_of_ble_eq_true rfl) ?_
  intro p e s m below meth c C0 ls hl hP
  have hS : va_S (gA Γ) s.heap s.heap [] := va_S.rf
  have hl : lv_has ls 2 [(0, .ref (gB Γ + 3)), (1, .int a1)] := hl
  obtain ⟨hx, hb, hml, hr, hown, hts, hK, hlk, hX⟩ := id C0
  refine lv_aload_n hx hb dX2_beginConditions_0 rfl (lv_at hl 0 rfl) ?_
  refine gf_2_4 hx hb hown hts hK hP wf_X2_29 dX2_beginConditions_1 ?_
  refine lv_aload_n hx hb dX2_beginConditions_4 rfl (lv_at hl 0 rfl) ?_
  refine gf_2_9 hx hb hown hts hK hP wf_X2_66 dX2_beginConditions_5 ?_
  refine lv_iload_n hx hb dX2_beginConditions_8 rfl (lv_at hl 1 rfl) ?_
  refine gIst hx hb hK hP hS is_9 dX2_beginConditions_9 h (fun H locs g1 h hP hS => ?_)
  refine lv_aload_n hx hb dX2_beginConditions_10 rfl (lv_at hl 0 rfl) ?_
  refine gf_2_5 hx hb hown hts hK hP wf_X2_32 dX2_beginConditions_11 ?_
  refine lv_aload_n hx hb dX2_beginConditions_14 rfl (lv_at hl 0 rfl) ?_
  refine gf_2_9 hx hb hown hts hK hP wf_X2_66 dX2_beginConditions_15 ?_
  refine lv_iconst (v := 0) hx hb dX2_beginConditions_18 (by decide) ?_
  refine gIst hx hb hK hP hS is_10 dX2_beginConditions_19 h (fun H locs g2 h hP hS => ?_)
  refine lv_aload_n hx hb dX2_beginConditions_20 rfl (lv_at hl 0 rfl) ?_
  refine gf_2_6 hx hb hown hts hK hP wf_X2_35 dX2_beginConditions_21 ?_
  refine lv_aload_n hx hb dX2_beginConditions_24 rfl (lv_at hl 0 rfl) ?_
  refine gf_2_9 hx hb hown hts hK hP wf_X2_66 dX2_beginConditions_25 ?_
  refine lv_iconst (v := 0) hx hb dX2_beginConditions_28 (by decide) ?_
  refine gZst hx hb hK hP hS is_11 dX2_beginConditions_29 h (fun H locs g3 h hP hS => ?_)
  refine lv_aload_n hx hb dX2_beginConditions_30 rfl (lv_at hl 0 rfl) ?_
  refine gf_2_7 hx hb hown hts hK hP wf_X2_39 dX2_beginConditions_31 ?_
  refine lv_aload_n hx hb dX2_beginConditions_34 rfl (lv_at hl 0 rfl) ?_
  refine gf_2_9 hx hb hown hts hK hP wf_X2_66 dX2_beginConditions_35 ?_
  refine lv_iconst (v := 0) hx hb dX2_beginConditions_38 (by decide) ?_
  refine gZst hx hb hK hP hS is_12 dX2_beginConditions_39 h (fun H locs g4 h hP hS => ?_)
  refine lv_aload_n hx hb dX2_beginConditions_40 rfl (lv_at hl 0 rfl) ?_
  refine gf_2_8 hx hb hown hts hK hP wf_X2_42 dX2_beginConditions_41 ?_
  refine lv_aload_n hx hb dX2_beginConditions_44 rfl (lv_at hl 0 rfl) ?_
  refine gf_2_9 hx hb hown hts hK hP wf_X2_66 dX2_beginConditions_45 ?_
  refine lv_iconst (v := 0) hx hb dX2_beginConditions_48 (by decide) ?_
  refine gZst hx hb hK hP hS is_13 dX2_beginConditions_49 h (fun H locs g5 h hP hS => ?_)
  exact gvret hx hb hr hlk hP hS dX2_beginConditions_50 h
set_option maxHeartbeats 2000000 in
set_option maxRecDepth 20000 in
theorem m_X2_takesCoordinate (l : Launch) (Γ : gE)   (a1 : Int32) (g : gG) (z : Int32 × gG) (h : f_X2_takesCoordinate a1 g = some z) : gMi l yX2_takesCoordinate cX2_takesCoordinate 2 (some .boolean) 1 21 Γ [.ref (gB Γ + 3), .int a1] g z := by
  unfold f_X2_takesCoordinate at h
  refine gStart (own := RX2) (by decide +kernel) rfl (Nat.le_of_ble_eq_true rfl) ?_
  intro p e s m below meth c C0 ls hl hP
  have hS : va_S (gA Γ) s.heap s.heap [] := va_S.rf
  have hl : lv_has ls 2 [(0, .ref (gB Γ + 3)), (1, .int a1)] := hl
  obtain ⟨hx, hb, hml, hr, hown, hts, hK, hlk, hX⟩ := id C0
  refine lv_iload_n hx hb dX2_takesCoordinate_0 rfl (lv_at hl 1 rfl) ?_
  refine lv_bipush (v := 48) hx hb dX2_takesCoordinate_1 (by decide) ?_
  refine lv_icmp_lt (tgt := 12) hx hb dX2_takesCoordinate_3 (by decide) (fun c1 => ?_) (fun c1 => ?_)
  · replace h := gpos c1 h
    refine lv_iconst (v := 0) hx hb dX2_takesCoordinate_12 (by decide) ?_
    exact gzret0 hx hb hr hlk hP hS rfl dX2_takesCoordinate_13 h
  · replace h := gneg c1 h
    refine lv_iload_n hx hb dX2_takesCoordinate_6 rfl (lv_at hl 1 rfl) ?_
    refine lv_bipush (v := 57) hx hb dX2_takesCoordinate_7 (by decide) ?_
    refine lv_icmp_le (tgt := 14) hx hb dX2_takesCoordinate_9 (by decide) (fun c2 => ?_) (fun c2 => ?_)
    · replace h := gpos c2 h
      refine lv_aload_n hx hb dX2_takesCoordinate_14 rfl (lv_at hl 0 rfl) ?_
      refine gf_2_11 hx hb hown hts hK hP wf_X2_49 dX2_takesCoordinate_15 ?_
      refine lv_iconst (v := 2) hx hb dX2_takesCoordinate_18 (by decide) ?_
      refine lv_icmp_ne (tgt := 45) hx hb dX2_takesCoordinate_19 (by decide) (fun c3 => ?_) (fun c3 => ?_)
      · replace h := gneg c3 h
        refine lv_aload_n hx hb dX2_takesCoordinate_45 rfl (lv_at hl 0 rfl) ?_
        refine gf_2_2 hx hb hown hts hK hP wf_X2_22 dX2_takesCoordinate_46 ?_
        refine lv_aload_n hx hb dX2_takesCoordinate_49 rfl (lv_at hl 0 rfl) ?_
        refine gf_2_10 hx hb hown hts hK hP wf_X2_45 dX2_takesCoordinate_50 ?_
        refine lv_iconst (v := 1) hx hb dX2_takesCoordinate_53 (by decide) ?_
        refine lv_isub hx hb dX2_takesCoordinate_54 ?_
        refine lv_iload_n hx hb dX2_takesCoordinate_55 rfl (lv_at hl 1 rfl) ?_
        refine lv_bipush (v := 48) hx hb dX2_takesCoordinate_56 (by decide) ?_
        refine lv_isub hx hb dX2_takesCoordinate_58 ?_
        refine gIst hx hb hK hP hS is_7 dX2_takesCoordinate_59 h (fun H locs g4 h hP hS => ?_)
        refine lv_aload_n hx hb dX2_takesCoordinate_60 rfl (lv_at hl 0 rfl) ?_
        refine gf_2_0 hx hb hown hts hK hP wf_X2_12 dX2_takesCoordinate_61 ?_
        refine gCVv (rest := []) C0 cal_X7_clear wl_X2_88 wi_X7_clear ws_X7_clear ⟨Nat.le_of_ble_eq_true rfl, Nat.le_of_ble_eq_true rfl⟩ ⟨Nat.le_of_ble_eq_true rfl, Nat.le_of_ble_eq_true rfl⟩ grv_7 [] rfl (Nat.le_of_ble_eq_true rfl) hP hS hl.1 dX2_takesCoordinate_64 h (fun u hu => m_X7_clear l Γ g4 u hu) (fun u5 H locs h hP hS => ?_) rfl
        refine lv_aload_n hx hb dX2_takesCoordinate_67 rfl (lv_at hl 0 rfl) ?_
        refine lv_iconst (v := 0) hx hb dX2_takesCoordinate_68 (by decide) ?_
        refine gp_2_9 hx hb hown hts hK hP hS wf_X2_66 dX2_takesCoordinate_69 h (fun H locs g6 h hP hS => ?_)
        refine lv_aload_n hx hb dX2_takesCoordinate_72 rfl (lv_at hl 0 rfl) ?_
        refine lv_iconst (v := 0) hx hb dX2_takesCoordinate_73 (by decide) ?_
        refine gCVv (rest := []) C0 cal_X2_beginConditions wl_X2_91 wi_X2_beginConditions ws_X2_beginConditions ⟨Nat.le_of_ble_eq_true rfl, Nat.le_of_ble_eq_true rfl⟩ ⟨Nat.le_of_ble_eq_true rfl, Nat.le_of_ble_eq_true rfl⟩ grv_2 [.int (0 : Int32)] rfl (Nat.le_of_ble_eq_true rfl) hP hS hl.1 dX2_takesCoordinate_74 h (fun u hu => m_X2_beginConditions l Γ (0 : Int32) g6 u hu) (fun u7 H locs h hP hS => ?_) rfl
        refine lv_aload_n hx hb dX2_takesCoordinate_77 rfl (lv_at hl 0 rfl) ?_
        refine lv_iconst (v := 4) hx hb dX2_takesCoordinate_78 (by decide) ?_
        refine gp_2_11 hx hb hown hts hK hP hS wf_X2_49 dX2_takesCoordinate_79 h (fun H locs g8 h hP hS => ?_)
        refine lv_iconst (v := 1) hx hb dX2_takesCoordinate_82 (by decide) ?_
        exact gzret0 hx hb hr hlk hP hS rfl dX2_takesCoordinate_83 h
      · replace h := gpos c3 h
        refine lv_aload_n hx hb dX2_takesCoordinate_22 rfl (lv_at hl 0 rfl) ?_
        refine gf_2_1 hx hb hown hts hK hP wf_X2_18 dX2_takesCoordinate_23 ?_
        refine lv_aload_n hx hb dX2_takesCoordinate_26 rfl (lv_at hl 0 rfl) ?_
        refine gf_2_10 hx hb hown hts hK hP wf_X2_45 dX2_takesCoordinate_27 ?_
        refine lv_iconst (v := 1) hx hb dX2_takesCoordinate_30 (by decide) ?_
        refine lv_isub hx hb dX2_takesCoordinate_31 ?_
        refine lv_iload_n hx hb dX2_takesCoordinate_32 rfl (lv_at hl 1 rfl) ?_
        refine lv_bipush (v := 48) hx hb dX2_takesCoordinate_33 (by decide) ?_
        refine lv_isub hx hb dX2_takesCoordinate_35 ?_
        refine gIst hx hb hK hP hS is_6 dX2_takesCoordinate_36 h (fun H locs g9 h hP hS => ?_)
        refine lv_aload_n hx hb dX2_takesCoordinate_37 rfl (lv_at hl 0 rfl) ?_
        refine lv_iconst (v := 3) hx hb dX2_takesCoordinate_38 (by decide) ?_
        refine gp_2_11 hx hb hown hts hK hP hS wf_X2_49 dX2_takesCoordinate_39 h (fun H locs g10 h hP hS => ?_)
        refine lv_goto (tgt := 82) hx hb dX2_takesCoordinate_42 (by decide) ?_
        refine lv_iconst (v := 1) hx hb dX2_takesCoordinate_82 (by decide) ?_
        exact gzret0 hx hb hr hlk hP hS rfl dX2_takesCoordinate_83 h
    · replace h := gneg c2 h
      refine lv_iconst (v := 0) hx hb dX2_takesCoordinate_12 (by decide) ?_
      exact gzret0 hx hb hr hlk hP hS rfl dX2_takesCoordinate_13 h
set_option maxHeartbeats 2000000 in
set_option maxRecDepth 20000 in
theorem m_X2_nests (l : Launch) (Γ : gE)   (a1 : Int32) (a2 : Int32) (g : gG) (z : Int32 × gG) (h : f_X2_nests a1 a2 g = some z) : gMi l yX2_nests cX2_nests 3 (some .boolean) 1 21 Γ [.ref (gB Γ + 3), .int a1, .int a2] g z := by
  unfold f_X2_nests at h
  refine gStart (own := RX2) (by decide +kernel) rfl (Nat.le_of_ble_eq_true rfl) ?_
  intro p e s m below meth c C0 ls hl hP
  have hS : va_S (gA Γ) s.heap s.heap [] := va_S.rf
  have hl : lv_has ls 3 [(0, .ref (gB Γ + 3)), (1, .int a1), (2, .int a2)] := hl
  obtain ⟨hx, hb, hml, hr, hown, hts, hK, hlk, hX⟩ := id C0
  refine lv_aload_n hx hb dX2_nests_0 rfl (lv_at hl 0 rfl) ?_
  refine gf_2_9 hx hb hown hts hK hP wf_X2_66 dX2_nests_1 ?_
  refine lv_bipush (v := 120) hx hb dX2_nests_4 (by decide) ?_
  refine lv_icmp_lt (tgt := 11) hx hb dX2_nests_6 (by decide) (fun c1 => ?_) (fun c1 => ?_)
  · replace h := gpos c1 h
    refine lv_aload_n hx hb dX2_nests_11 rfl (lv_at hl 0 rfl) ?_
    refine lv_dup hx hb dX2_nests_12 rfl ?_
    refine gf_2_9 hx hb hown hts hK hP wf_X2_66 dX2_nests_13 ?_
    refine lv_iconst (v := 1) hx hb dX2_nests_16 (by decide) ?_
    refine lv_iadd hx hb dX2_nests_17 ?_
    refine gp_2_9 hx hb hown hts hK hP hS wf_X2_66 dX2_nests_18 h (fun H locs g2 h hP hS => ?_)
    refine lv_aload_n hx hb dX2_nests_21 rfl (lv_at hl 0 rfl) ?_
    refine lv_iload_n hx hb dX2_nests_22 rfl (lv_at hl 1 rfl) ?_
    refine gCVv (rest := []) C0 cal_X2_beginConditions wl_X2_91 wi_X2_beginConditions ws_X2_beginConditions ⟨Nat.le_of_ble_eq_true rfl, Nat.le_of_ble_eq_true rfl⟩ ⟨Nat.le_of_ble_eq_true rfl, Nat.le_of_ble_eq_true rfl⟩ grv_2 [.int a1] rfl (Nat.le_of_ble_eq_true rfl) hP hS hl.1 dX2_nests_23 h (fun u hu => m_X2_beginConditions l Γ a1 g2 u hu) (fun u3 H locs h hP hS => ?_) rfl
    refine lv_aload_n hx hb dX2_nests_26 rfl (lv_at hl 0 rfl) ?_
    refine lv_iload_n hx hb dX2_nests_27 rfl (lv_at hl 2 rfl) ?_
    refine gp_2_11 hx hb hown hts hK hP hS wf_X2_49 dX2_nests_28 h (fun H locs g4 h hP hS => ?_)
    refine lv_iconst (v := 1) hx hb dX2_nests_31 (by decide) ?_
    exact gzret0 hx hb hr hlk hP hS rfl dX2_nests_32 h
  · replace h := gneg c1 h
    refine lv_iconst (v := 0) hx hb dX2_nests_9 (by decide) ?_
    exact gzret0 hx hb hr hlk hP hS rfl dX2_nests_10 h
set_option maxHeartbeats 2000000 in
set_option maxRecDepth 20000 in
theorem bs_X7_pushAlways_12 {p : Program} {l : Launch} {e : Env} {s : State} {m : MethodId} {args : Array Value} {below : List Frame} {meth : Method} {c : Code} {Γ : gE} (C0 : gCx p s m args meth c Γ RX7 cX7_pushAlways 2 none)   {z : Unit × gG} {F12 : Int32 → gG → Option (Unit × gG)} {l1 : Int32} {g : gG} {H : Heap} {locs : List Loc} {ls : Array Slot} (hF12 : ∀ (l1 : Int32) (g : gG) (H : Heap) (locs : List Loc) (ls : Array Slot), F12 l1 g = some z → va_P (gD Γ) gcls (lay Γ g) H → va_S (gA Γ) s.heap H locs → lv_has ls 2 [(0, .ref (gB Γ + 4)), (1, .int l1)] → W p l e (gRm 0 0) s m args below meth c H locs 0 0 (MQ below (gQv Γ z) args s 0 0 (gA Γ)) (F0 m 12 ls [])) (h : fs_X7_pushAlways_12 F12 l1 g = some z) (hP : va_P (gD Γ) gcls (lay Γ g) H) (hS : va_S (gA Γ) s.heap H locs) (hl : lv_has ls 2 [(0, .ref (gB Γ + 4)), (1, .int l1)]) : W p l e (gRm 0 0) s m args below meth c H locs 0 0 (MQ below (gQv Γ z) args s 0 0 (gA Γ)) (F0 m 12 ls []) := by
  unfold fs_X7_pushAlways_12 at h
  obtain ⟨hx, hb, hml, hr, hown, hts, hK, hlk, hX⟩ := id C0
  refine lv_iload_n hx hb dX7_pushAlways_12 rfl (lv_at hl 1 rfl) ?_
  refine lv_bipush (v := 8) hx hb dX7_pushAlways_13 (by decide) ?_
  refine lv_icmp_ge (tgt := 41) hx hb dX7_pushAlways_15 (by decide) (fun c1 => ?_) (fun c1 => ?_)
  · replace h := gpos c1 h
    refine lv_aload_n hx hb dX7_pushAlways_41 rfl (lv_at hl 0 rfl) ?_
    refine lv_dup hx hb dX7_pushAlways_42 rfl ?_
    refine gf_7_1 hx hb hown hts hK hP wf_X7_15 dX7_pushAlways_43 ?_
    refine lv_iconst (v := 1) hx hb dX7_pushAlways_46 (by decide) ?_
    refine lv_iadd hx hb dX7_pushAlways_47 ?_
    refine gp_7_1 hx hb hown hts hK hP hS wf_X7_15 dX7_pushAlways_48 h (fun H locs g2 h hP hS => ?_)
    exact gvret hx hb hr hlk hP hS dX7_pushAlways_51 h
  · replace h := gneg c1 h
    refine lv_aload_n hx hb dX7_pushAlways_18 rfl (lv_at hl 0 rfl) ?_
    refine gf_7_0 hx hb hown hts hK hP wf_X7_9 dX7_pushAlways_19 ?_
    refine lv_aload_n hx hb dX7_pushAlways_22 rfl (lv_at hl 0 rfl) ?_
    refine gf_7_1 hx hb hown hts hK hP wf_X7_15 dX7_pushAlways_23 ?_
    refine lv_bipush (v := 8) hx hb dX7_pushAlways_26 (by decide) ?_
    refine lv_imul hx hb dX7_pushAlways_28 ?_
    refine lv_iload_n hx hb dX7_pushAlways_29 rfl (lv_at hl 1 rfl) ?_
    refine lv_iadd hx hb dX7_pushAlways_30 ?_
    refine lv_ldc2 (v := -1) hx hb hown (hts _ wkl_X7_19) dX7_pushAlways_31 ?_
    refine gJst hx hb hK hP hS (is_5 Γ) dX7_pushAlways_34 h (fun H locs g3 h hP hS => ?_)
    obtain ⟨x4, ex4⟩ : ∃ y : Int32, y = l1 + (1 : Int32) := ⟨_, rfl⟩
    replace h := gLetI ex4 h
    refine lv_iinc (v := x4) (lv' := [(1, .int x4), (0, .ref (gB Γ + 4))]) hx hb dX7_pushAlways_35 hl (k := 1) rfl (by rw [ex4]; rfl) (by decide) rfl (fun ls hl => ?_)
    refine lv_goto (tgt := 12) hx hb dX7_pushAlways_38 (by decide) ?_
    exact hF12 _ _ _ _ _ h hP hS (lv_sub hl [1, 0] rfl)
set_option maxHeartbeats 2000000 in
set_option maxRecDepth 20000 in
theorem bk_X7_pushAlways_12 {p : Program} {l : Launch} {e : Env} {s : State} {m : MethodId} {args : Array Value} {below : List Frame} {meth : Method} {c : Code} {Γ : gE} (C0 : gCx p s m args meth c Γ RX7 cX7_pushAlways 2 none)   {z : Unit × gG}   : ∀ (n : Nat) (l1 : Int32) (g : gG) (H : Heap) (locs : List Loc) (ls : Array Slot), fb_X7_pushAlways_12 n l1 g = some z → va_P (gD Γ) gcls (lay Γ g) H → va_S (gA Γ) s.heap H locs → lv_has ls 2 [(0, .ref (gB Γ + 4)), (1, .int l1)] → W p l e (gRm 0 0) s m args below meth c H locs 0 0 (MQ below (gQv Γ z) args s 0 0 (gA Γ)) (F0 m 12 ls []) := by
  intro n
  induction n with
  | zero => intro l1 g H locs ls h hP hS hl; cases h
  | succ n ih => intro l1 g H locs ls h hP hS hl; exact bs_X7_pushAlways_12 C0  ih h hP hS hl
set_option maxHeartbeats 2000000 in
set_option maxRecDepth 20000 in
theorem m_X7_pushAlways (l : Launch) (Γ : gE)    (g : gG) (z : Unit × gG) (h : f_X7_pushAlways g = some z) : gMv l yX7_pushAlways cX7_pushAlways 2 none 0 0 Γ [.ref (gB Γ + 4)] g z := by
  unfold f_X7_pushAlways at h
  refine gStart (own := RX7) (by decide +kernel) rfl (Nat.le_of_ble_eq_true rfl) ?_
  intro p e s m below meth c C0 ls hl hP
  have hS : va_S (gA Γ) s.heap s.heap [] := va_S.rf
  have hl : lv_has ls 2 [(0, .ref (gB Γ + 4))] := hl
  obtain ⟨hx, hb, hml, hr, hown, hts, hK, hlk, hX⟩ := id C0
  refine lv_aload_n hx hb dX7_pushAlways_0 rfl (lv_at hl 0 rfl) ?_
  refine gf_7_1 hx hb hown hts hK hP wf_X7_15 dX7_pushAlways_1 ?_
  refine lv_bipush (v := 120) hx hb dX7_pushAlways_4 (by decide) ?_
  refine lv_icmp_lt (tgt := 10) hx hb dX7_pushAlways_6 (by decide) (fun c1 => ?_) (fun c1 => ?_)
  · replace h := gpos c1 h
    refine lv_iconst (v := 0) hx hb dX7_pushAlways_10 (by decide) ?_
    refine lv_istore_n (lv' := [(1, .int (0 : Int32)), (0, .ref (gB Γ + 4))]) hx hb dX7_pushAlways_11 rfl hl (by decide) rfl (fun ls hl => ?_)
    exact bk_X7_pushAlways_12 C0  gFuel _ _ _ _ _ h hP hS (lv_sub hl [1, 0] rfl)
  · replace h := gneg c1 h
    exact gvret hx hb hr hlk hP hS dX7_pushAlways_9 h
set_option maxHeartbeats 2000000 in
set_option maxRecDepth 20000 in
theorem m_X9_isIn (l : Launch) (Γ : gE)   (a0 : Int32) (a1 : Int32) (g : gG) (z : Int32 × gG) (h : f_X9_isIn a0 a1 g = some z) : gMi l yX9_isIn cX9_isIn 2 (some .boolean) 0 0 Γ [.int a0, .int a1] g z := by
  unfold f_X9_isIn at h
  refine gStart (own := RX9) (by decide +kernel) rfl (Nat.le_of_ble_eq_true rfl) ?_
  intro p e s m below meth c C0 ls hl hP
  have hS : va_S (gA Γ) s.heap s.heap [] := va_S.rf
  have hl : lv_has ls 2 [(0, .int a0), (1, .int a1)] := hl
  obtain ⟨hx, hb, hml, hr, hown, hts, hK, hlk, hX⟩ := id C0
  refine lv_iload_n hx hb dX9_isIn_0 rfl (lv_at hl 1 rfl) ?_
  refine lv_iload_n hx hb dX9_isIn_1 rfl (lv_at hl 0 rfl) ?_
  refine lv_ishr hx hb dX9_isIn_2 ?_
  refine lv_iconst (v := 1) hx hb dX9_isIn_3 (by decide) ?_
  refine lv_iand hx hb dX9_isIn_4 ?_
  refine lv_if_eq (tgt := 12) hx hb dX9_isIn_5 (by decide) (fun c1 => ?_) (fun c1 => ?_)
  · replace h := gpos c1 h
    refine lv_iconst (v := 0) hx hb dX9_isIn_12 (by decide) ?_
    exact gzret0 hx hb hr hlk hP hS rfl dX9_isIn_13 h
  · replace h := gneg c1 h
    refine lv_iconst (v := 1) hx hb dX9_isIn_8 (by decide) ?_
    refine lv_goto (tgt := 13) hx hb dX9_isIn_9 (by decide) ?_
    exact gzret0 hx hb hr hlk hP hS rfl dX9_isIn_13 h
set_option maxHeartbeats 2000000 in
set_option maxRecDepth 20000 in
theorem m_X7_visitedIn (l : Launch) (Γ : gE)   (a0 : Int32) (a1 : Int32) (g : gG) (z : Int64 × gG) (h : f_X7_visitedIn a0 a1 g = some z) : gMl l yX7_visitedIn cX7_visitedIn 2 (some .long) 1 21 Γ [.int a0, .int a1] g z := by
  unfold f_X7_visitedIn at h
  refine gStart (own := RX7) (by decide +kernel) rfl (Nat.le_of_ble_eq_true rfl) ?_
  intro p e s m below meth c C0 ls hl hP
  have hS : va_S (gA Γ) s.heap s.heap [] := va_S.rf
  have hl : lv_has ls 2 [(0, .int a0), (1, .int a1)] := hl
  obtain ⟨hx, hb, hml, hr, hown, hts, hK, hlk, hX⟩ := id C0
  refine lv_iload_n hx hb dX7_visitedIn_0 rfl (lv_at hl 0 rfl) ?_
  refine gVis0 hx hb hX hS hown hts wf_X7_25 dX7_visitedIn_1 ?_
  refine gVisLen hx hb hX hS dX7_visitedIn_4 ?_
  refine lv_icmp_ge (tgt := 14) hx hb dX7_visitedIn_5 (by decide) (fun c1 => ?_) (fun c1 => ?_)
  · replace h := gpos c1 h
    refine lv_iload_n hx hb dX7_visitedIn_14 rfl (lv_at hl 0 rfl) ?_
    refine gVis0 hx hb hX hS hown hts wf_X7_25 dX7_visitedIn_15 ?_
    refine gVisLen hx hb hX hS dX7_visitedIn_18 ?_
    refine lv_isub hx hb dX7_visitedIn_19 ?_
    refine lv_iload_n hx hb dX7_visitedIn_20 rfl (lv_at hl 1 rfl) ?_
    refine gCNi (rest := []) C0 cal_X9_isIn wln_X7_28 wt_X9_isIn ⟨Nat.le_of_ble_eq_true rfl, Nat.le_of_ble_eq_true rfl⟩ ⟨Nat.le_of_ble_eq_true rfl, Nat.le_of_ble_eq_true rfl⟩ [.int (a0 - (6 : Int32)), .int a1] rfl (Nat.le_of_ble_eq_true rfl) hP hS hl.1 dX7_visitedIn_21 h (fun u hu => m_X9_isIn l Γ (a0 - (6 : Int32)) a1 g u hu) (fun u2 H locs h hP hS => ?_) rfl
    refine lv_if_eq (tgt := 33) hx hb dX7_visitedIn_24 (by decide) (fun c3 => ?_) (fun c3 => ?_)
    · replace h := gpos c3 h
      refine lv_lconst (v := 0) hx hb dX7_visitedIn_33 (by decide) ?_
      exact glret hx hb hr hlk hP hS dX7_visitedIn_34 h
    · replace h := gneg c3 h
      refine lv_ldc2 (v := -1) hx hb hown (hts _ wkl_X7_19) dX7_visitedIn_27 ?_
      refine lv_goto (tgt := 34) hx hb dX7_visitedIn_30 (by decide) ?_
      exact glret hx hb hr hlk hP hS dX7_visitedIn_34 h
  · replace h := gneg c1 h
    refine gVis0 hx hb hX hS hown hts wf_X7_25 dX7_visitedIn_8 ?_
    refine lv_iload_n hx hb dX7_visitedIn_11 rfl (lv_at hl 0 rfl) ?_
    refine gVisLd hx hb hX hS dX7_visitedIn_12 h (fun h => ?_)
    exact glret hx hb hr hlk hP hS dX7_visitedIn_13 h
set_option maxHeartbeats 2000000 in
set_option maxRecDepth 20000 in
theorem bs_X7_pushVisited_16 {p : Program} {l : Launch} {e : Env} {s : State} {m : MethodId} {args : Array Value} {below : List Frame} {meth : Method} {c : Code} {Γ : gE} (C0 : gCx p s m args meth c Γ RX7 cX7_pushVisited 3 none)   {z : Unit × gG} {F16 : Int32 → Int32 → gG → Option (Unit × gG)} {l1 : Int32} {l2 : Int32} {g : gG} {H : Heap} {locs : List Loc} {ls : Array Slot} (hF16 : ∀ (l1 : Int32) (l2 : Int32) (g : gG) (H : Heap) (locs : List Loc) (ls : Array Slot), F16 l1 l2 g = some z → va_P (gD Γ) gcls (lay Γ g) H → va_S (gA Γ) s.heap H locs → lv_has ls 3 [(0, .ref (gB Γ + 4)), (1, .int l1), (2, .int l2)] → W p l e (gRm 2 42) s m args below meth c H locs 0 0 (MQ below (gQv Γ z) args s 0 0 (gA Γ)) (F0 m 16 ls [])) (h : fs_X7_pushVisited_16 F16 l1 l2 g = some z) (hP : va_P (gD Γ) gcls (lay Γ g) H) (hS : va_S (gA Γ) s.heap H locs) (hl : lv_has ls 3 [(0, .ref (gB Γ + 4)), (1, .int l1), (2, .int l2)]) : W p l e (gRm 2 42) s m args below meth c H locs 0 0 (MQ below (gQv Γ z) args s 0 0 (gA Γ)) (F0 m 16 ls []) := by
  unfold fs_X7_pushVisited_16 at h
  obtain ⟨hx, hb, hml, hr, hown, hts, hK, hlk, hX⟩ := id C0
  refine lv_iload_n hx hb dX7_pushVisited_16 rfl (lv_at hl 2 rfl) ?_
  refine lv_bipush (v := 8) hx hb dX7_pushVisited_17 (by decide) ?_
  refine lv_icmp_ge (tgt := 47) hx hb dX7_pushVisited_19 (by decide) (fun c1 => ?_) (fun c1 => ?_)
  · replace h := gpos c1 h
    refine lv_aload_n hx hb dX7_pushVisited_47 rfl (lv_at hl 0 rfl) ?_
    refine lv_dup hx hb dX7_pushVisited_48 rfl ?_
    refine gf_7_1 hx hb hown hts hK hP wf_X7_15 dX7_pushVisited_49 ?_
    refine lv_iconst (v := 1) hx hb dX7_pushVisited_52 (by decide) ?_
    refine lv_iadd hx hb dX7_pushVisited_53 ?_
    refine gp_7_1 hx hb hown hts hK hP hS wf_X7_15 dX7_pushVisited_54 h (fun H locs g2 h hP hS => ?_)
    exact gvret hx hb hr hlk hP hS dX7_pushVisited_57 h
  · replace h := gneg c1 h
    refine lv_aload_n hx hb dX7_pushVisited_22 rfl (lv_at hl 0 rfl) ?_
    refine gf_7_0 hx hb hown hts hK hP wf_X7_9 dX7_pushVisited_23 ?_
    refine lv_aload_n hx hb dX7_pushVisited_26 rfl (lv_at hl 0 rfl) ?_
    refine gf_7_1 hx hb hown hts hK hP wf_X7_15 dX7_pushVisited_27 ?_
    refine lv_bipush (v := 8) hx hb dX7_pushVisited_30 (by decide) ?_
    refine lv_imul hx hb dX7_pushVisited_32 ?_
    refine lv_iload_n hx hb dX7_pushVisited_33 rfl (lv_at hl 2 rfl) ?_
    refine lv_iadd hx hb dX7_pushVisited_34 ?_
    refine lv_iload_n hx hb dX7_pushVisited_35 rfl (lv_at hl 1 rfl) ?_
    refine lv_iload_n hx hb dX7_pushVisited_36 rfl (lv_at hl 2 rfl) ?_
    refine gCSl (rest := [.int (((g.1 4 1) * (8 : Int32)) + l2), .ref (gB Γ + 5)]) C0 cal_X7_visitedIn wl_X7_21 wt_X7_visitedIn ⟨Nat.le_of_ble_eq_true rfl, Nat.le_of_ble_eq_true rfl⟩ ⟨Nat.le_of_ble_eq_true rfl, Nat.le_of_ble_eq_true rfl⟩ [.int l1, .int l2] rfl (Nat.le_of_ble_eq_true rfl) hP hS hl.1 dX7_pushVisited_37 h (fun u hu => m_X7_visitedIn l Γ l1 l2 g u hu) (fun u3 H locs h hP hS => ?_) rfl
    refine gJst hx hb hK hP hS (is_5 Γ) dX7_pushVisited_40 h (fun H locs g4 h hP hS => ?_)
    obtain ⟨x5, ex5⟩ : ∃ y : Int32, y = l2 + (1 : Int32) := ⟨_, rfl⟩
    replace h := gLetI ex5 h
    refine lv_iinc (v := x5) (lv' := [(2, .int x5), (0, .ref (gB Γ + 4)), (1, .int l1)]) hx hb dX7_pushVisited_41 hl (k := 2) rfl (by rw [ex5]; rfl) (by decide) rfl (fun ls hl => ?_)
    refine lv_goto (tgt := 16) hx hb dX7_pushVisited_44 (by decide) ?_
    exact hF16 _ _ _ _ _ _ h hP hS (lv_sub hl [1, 2, 0] rfl)
set_option maxHeartbeats 2000000 in
set_option maxRecDepth 20000 in
theorem bk_X7_pushVisited_16 {p : Program} {l : Launch} {e : Env} {s : State} {m : MethodId} {args : Array Value} {below : List Frame} {meth : Method} {c : Code} {Γ : gE} (C0 : gCx p s m args meth c Γ RX7 cX7_pushVisited 3 none)   {z : Unit × gG}   : ∀ (n : Nat) (l1 : Int32) (l2 : Int32) (g : gG) (H : Heap) (locs : List Loc) (ls : Array Slot), fb_X7_pushVisited_16 n l1 l2 g = some z → va_P (gD Γ) gcls (lay Γ g) H → va_S (gA Γ) s.heap H locs → lv_has ls 3 [(0, .ref (gB Γ + 4)), (1, .int l1), (2, .int l2)] → W p l e (gRm 2 42) s m args below meth c H locs 0 0 (MQ below (gQv Γ z) args s 0 0 (gA Γ)) (F0 m 16 ls []) := by
  intro n
  induction n with
  | zero => intro l1 l2 g H locs ls h hP hS hl; cases h
  | succ n ih => intro l1 l2 g H locs ls h hP hS hl; exact bs_X7_pushVisited_16 C0  ih h hP hS hl
set_option maxHeartbeats 2000000 in
set_option maxRecDepth 20000 in
theorem m_X7_pushVisited (l : Launch) (Γ : gE)   (a1 : Int32) (g : gG) (z : Unit × gG) (h : f_X7_pushVisited a1 g = some z) : gMv l yX7_pushVisited cX7_pushVisited 3 none 2 42 Γ [.ref (gB Γ + 4), .int a1] g z := by
  unfold f_X7_pushVisited at h
  refine gStart (own := RX7) (by decide +kernel) rfl (Nat.le_of_ble_eq_true rfl) ?_
  intro p e s m below meth c C0 ls hl hP
  have hS : va_S (gA Γ) s.heap s.heap [] := va_S.rf
  have hl : lv_has ls 3 [(0, .ref (gB Γ + 4)), (1, .int a1)] := hl
  obtain ⟨hx, hb, hml, hr, hown, hts, hK, hlk, hX⟩ := id C0
  refine lv_aload_n hx hb dX7_pushVisited_0 rfl (lv_at hl 0 rfl) ?_
  refine gf_7_1 hx hb hown hts hK hP wf_X7_15 dX7_pushVisited_1 ?_
  refine lv_bipush (v := 120) hx hb dX7_pushVisited_4 (by decide) ?_
  refine lv_icmp_ge (tgt := 13) hx hb dX7_pushVisited_6 (by decide) (fun c1 => ?_) (fun c1 => ?_)
  · replace h := gpos c1 h
    exact gvret hx hb hr hlk hP hS dX7_pushVisited_13 h
  · replace h := gneg c1 h
    refine lv_iload_n hx hb dX7_pushVisited_9 rfl (lv_at hl 1 rfl) ?_
    refine lv_if_ge (tgt := 14) hx hb dX7_pushVisited_10 (by decide) (fun c2 => ?_) (fun c2 => ?_)
    · replace h := gpos c2 h
      refine lv_iconst (v := 0) hx hb dX7_pushVisited_14 (by decide) ?_
      refine lv_istore_n (lv' := [(2, .int (0 : Int32)), (0, .ref (gB Γ + 4)), (1, .int a1)]) hx hb dX7_pushVisited_15 rfl hl (by decide) rfl (fun ls hl => ?_)
      exact bk_X7_pushVisited_16 C0  gFuel _ _ _ _ _ _ h hP hS (lv_sub hl [1, 2, 0] rfl)
    · replace h := gneg c2 h
      exact gvret hx hb hr hlk hP hS dX7_pushVisited_13 h
set_option maxHeartbeats 2000000 in
set_option maxRecDepth 20000 in
theorem bs_X7_negate_21 {p : Program} {l : Launch} {e : Env} {s : State} {m : MethodId} {args : Array Value} {below : List Frame} {meth : Method} {c : Code} {Γ : gE} (C0 : gCx p s m args meth c Γ RX7 cX7_negate 3 none)   {z : Unit × gG} {F21 : Int32 → Int32 → gG → Option (Unit × gG)} {l1 : Int32} {l2 : Int32} {g : gG} {H : Heap} {locs : List Loc} {ls : Array Slot} (hF21 : ∀ (l1 : Int32) (l2 : Int32) (g : gG) (H : Heap) (locs : List Loc) (ls : Array Slot), F21 l1 l2 g = some z → va_P (gD Γ) gcls (lay Γ g) H → va_S (gA Γ) s.heap H locs → lv_has ls 3 [(0, .ref (gB Γ + 4)), (1, .int l1), (2, .int l2)] → W p l e (gRm 0 0) s m args below meth c H locs 0 0 (MQ below (gQv Γ z) args s 0 0 (gA Γ)) (F0 m 21 ls [])) (h : fs_X7_negate_21 F21 l1 l2 g = some z) (hP : va_P (gD Γ) gcls (lay Γ g) H) (hS : va_S (gA Γ) s.heap H locs) (hl : lv_has ls 3 [(0, .ref (gB Γ + 4)), (1, .int l1), (2, .int l2)]) : W p l e (gRm 0 0) s m args below meth c H locs 0 0 (MQ below (gQv Γ z) args s 0 0 (gA Γ)) (F0 m 21 ls []) := by
  unfold fs_X7_negate_21 at h
  obtain ⟨hx, hb, hml, hr, hown, hts, hK, hlk, hX⟩ := id C0
  refine lv_iload_n hx hb dX7_negate_21 rfl (lv_at hl 2 rfl) ?_
  refine lv_bipush (v := 8) hx hb dX7_negate_22 (by decide) ?_
  refine lv_icmp_ge (tgt := 53) hx hb dX7_negate_24 (by decide) (fun c1 => ?_) (fun c1 => ?_)
  · replace h := gpos c1 h
    exact gvret hx hb hr hlk hP hS dX7_negate_53 h
  · replace h := gneg c1 h
    refine lv_aload_n hx hb dX7_negate_27 rfl (lv_at hl 0 rfl) ?_
    refine gf_7_0 hx hb hown hts hK hP wf_X7_9 dX7_negate_28 ?_
    refine lv_iload_n hx hb dX7_negate_31 rfl (lv_at hl 1 rfl) ?_
    refine lv_iload_n hx hb dX7_negate_32 rfl (lv_at hl 2 rfl) ?_
    refine lv_iadd hx hb dX7_negate_33 ?_
    refine lv_aload_n hx hb dX7_negate_34 rfl (lv_at hl 0 rfl) ?_
    refine gf_7_0 hx hb hown hts hK hP wf_X7_9 dX7_negate_35 ?_
    refine lv_iload_n hx hb dX7_negate_38 rfl (lv_at hl 1 rfl) ?_
    refine lv_iload_n hx hb dX7_negate_39 rfl (lv_at hl 2 rfl) ?_
    refine lv_iadd hx hb dX7_negate_40 ?_
    refine gJld hx hb hK hP (is_5 Γ) dX7_negate_41 h (fun h => ?_)
    refine lv_ldc2 (v := -1) hx hb hown (hts _ wkl_X7_19) dX7_negate_42 ?_
    refine lv_lxor hx hb dX7_negate_45 ?_
    refine gJst hx hb hK hP hS (is_5 Γ) dX7_negate_46 h (fun H locs g2 h hP hS => ?_)
    obtain ⟨x3, ex3⟩ : ∃ y : Int32, y = l2 + (1 : Int32) := ⟨_, rfl⟩
    replace h := gLetI ex3 h
    refine lv_iinc (v := x3) (lv' := [(2, .int x3), (0, .ref (gB Γ + 4)), (1, .int l1)]) hx hb dX7_negate_47 hl (k := 2) rfl (by rw [ex3]; rfl) (by decide) rfl (fun ls hl => ?_)
    refine lv_goto (tgt := 21) hx hb dX7_negate_50 (by decide) ?_
    exact hF21 _ _ _ _ _ _ h hP hS (lv_sub hl [1, 2, 0] rfl)
set_option maxHeartbeats 2000000 in
set_option maxRecDepth 20000 in
theorem bk_X7_negate_21 {p : Program} {l : Launch} {e : Env} {s : State} {m : MethodId} {args : Array Value} {below : List Frame} {meth : Method} {c : Code} {Γ : gE} (C0 : gCx p s m args meth c Γ RX7 cX7_negate 3 none)   {z : Unit × gG}   : ∀ (n : Nat) (l1 : Int32) (l2 : Int32) (g : gG) (H : Heap) (locs : List Loc) (ls : Array Slot), fb_X7_negate_21 n l1 l2 g = some z → va_P (gD Γ) gcls (lay Γ g) H → va_S (gA Γ) s.heap H locs → lv_has ls 3 [(0, .ref (gB Γ + 4)), (1, .int l1), (2, .int l2)] → W p l e (gRm 0 0) s m args below meth c H locs 0 0 (MQ below (gQv Γ z) args s 0 0 (gA Γ)) (F0 m 21 ls []) := by
  intro n
  induction n with
  | zero => intro l1 l2 g H locs ls h hP hS hl; cases h
  | succ n ih => intro l1 l2 g H locs ls h hP hS hl; exact bs_X7_negate_21 C0  ih h hP hS hl
set_option maxHeartbeats 2000000 in
set_option maxRecDepth 20000 in
theorem m_X7_negate (l : Launch) (Γ : gE)    (g : gG) (z : Unit × gG) (h : f_X7_negate g = some z) : gMv l yX7_negate cX7_negate 3 none 0 0 Γ [.ref (gB Γ + 4)] g z := by
  unfold f_X7_negate at h
  refine gStart (own := RX7) (by decide +kernel) rfl (Nat.le_of_ble_eq_true rfl) ?_
  intro p e s m below meth c C0 ls hl hP
  have hS : va_S (gA Γ) s.heap s.heap [] := va_S.rf
  have hl : lv_has ls 3 [(0, .ref (gB Γ + 4))] := hl
  obtain ⟨hx, hb, hml, hr, hown, hts, hK, hlk, hX⟩ := id C0
  refine lv_aload_n hx hb dX7_negate_0 rfl (lv_at hl 0 rfl) ?_
  refine gf_7_1 hx hb hown hts hK hP wf_X7_15 dX7_negate_1 ?_
  refine lv_iconst (v := 1) hx hb dX7_negate_4 (by decide) ?_
  refine lv_icmp_ge (tgt := 9) hx hb dX7_negate_5 (by decide) (fun c1 => ?_) (fun c1 => ?_)
  · replace h := gpos c1 h
    refine lv_aload_n hx hb dX7_negate_9 rfl (lv_at hl 0 rfl) ?_
    refine gf_7_1 hx hb hown hts hK hP wf_X7_15 dX7_negate_10 ?_
    refine lv_iconst (v := 1) hx hb dX7_negate_13 (by decide) ?_
    refine lv_isub hx hb dX7_negate_14 ?_
    refine lv_bipush (v := 8) hx hb dX7_negate_15 (by decide) ?_
    refine lv_imul hx hb dX7_negate_17 ?_
    refine lv_topi (fun x2 ex2 => ?_)
    replace h := gLetI ex2 h
    refine lv_istore_n (lv' := [(1, .int x2), (0, .ref (gB Γ + 4))]) hx hb dX7_negate_18 rfl hl (by decide) rfl (fun ls hl => ?_)
    refine lv_iconst (v := 0) hx hb dX7_negate_19 (by decide) ?_
    refine lv_istore_n (lv' := [(2, .int (0 : Int32)), (1, .int x2), (0, .ref (gB Γ + 4))]) hx hb dX7_negate_20 rfl hl (by decide) rfl (fun ls hl => ?_)
    exact bk_X7_negate_21 C0  gFuel _ _ _ _ _ _ h hP hS (lv_sub hl [2, 1, 0] rfl)
  · replace h := gneg c1 h
    exact gvret hx hb hr hlk hP hS dX7_negate_8 h
set_option maxHeartbeats 2000000 in
set_option maxRecDepth 20000 in
theorem bs_X7_joinByAnd_21 {p : Program} {l : Launch} {e : Env} {s : State} {m : MethodId} {args : Array Value} {below : List Frame} {meth : Method} {c : Code} {Γ : gE} (C0 : gCx p s m args meth c Γ RX7 cX7_joinByAnd 2 none)   {z : Unit × gG} {F21 : Int32 → gG → Option (Unit × gG)} {l1 : Int32} {g : gG} {H : Heap} {locs : List Loc} {ls : Array Slot} (hF21 : ∀ (l1 : Int32) (g : gG) (H : Heap) (locs : List Loc) (ls : Array Slot), F21 l1 g = some z → va_P (gD Γ) gcls (lay Γ g) H → va_S (gA Γ) s.heap H locs → lv_has ls 2 [(0, .ref (gB Γ + 4)), (1, .int l1)] → W p l e (gRm 0 0) s m args below meth c H locs 0 0 (MQ below (gQv Γ z) args s 0 0 (gA Γ)) (F0 m 21 ls [])) (h : fs_X7_joinByAnd_21 F21 l1 g = some z) (hP : va_P (gD Γ) gcls (lay Γ g) H) (hS : va_S (gA Γ) s.heap H locs) (hl : lv_has ls 2 [(0, .ref (gB Γ + 4)), (1, .int l1)]) : W p l e (gRm 0 0) s m args below meth c H locs 0 0 (MQ below (gQv Γ z) args s 0 0 (gA Γ)) (F0 m 21 ls []) := by
  unfold fs_X7_joinByAnd_21 at h
  obtain ⟨hx, hb, hml, hr, hown, hts, hK, hlk, hX⟩ := id C0
  refine lv_iload_n hx hb dX7_joinByAnd_21 rfl (lv_at hl 1 rfl) ?_
  refine lv_bipush (v := 8) hx hb dX7_joinByAnd_22 (by decide) ?_
  refine lv_icmp_ge (tgt := 66) hx hb dX7_joinByAnd_24 (by decide) (fun c1 => ?_) (fun c1 => ?_)
  · replace h := gpos c1 h
    exact gvret hx hb hr hlk hP hS dX7_joinByAnd_66 h
  · replace h := gneg c1 h
    refine lv_aload_n hx hb dX7_joinByAnd_27 rfl (lv_at hl 0 rfl) ?_
    refine gf_7_0 hx hb hown hts hK hP wf_X7_9 dX7_joinByAnd_28 ?_
    refine lv_aload_n hx hb dX7_joinByAnd_31 rfl (lv_at hl 0 rfl) ?_
    refine gf_7_1 hx hb hown hts hK hP wf_X7_15 dX7_joinByAnd_32 ?_
    refine lv_iconst (v := 1) hx hb dX7_joinByAnd_35 (by decide) ?_
    refine lv_isub hx hb dX7_joinByAnd_36 ?_
    refine lv_bipush (v := 8) hx hb dX7_joinByAnd_37 (by decide) ?_
    refine lv_imul hx hb dX7_joinByAnd_39 ?_
    refine lv_iload_n hx hb dX7_joinByAnd_40 rfl (lv_at hl 1 rfl) ?_
    refine lv_iadd hx hb dX7_joinByAnd_41 ?_
    refine lv_dup2_11 hx hb dX7_joinByAnd_42 rfl rfl ?_
    refine gJld hx hb hK hP (is_5 Γ) dX7_joinByAnd_43 h (fun h => ?_)
    refine lv_aload_n hx hb dX7_joinByAnd_44 rfl (lv_at hl 0 rfl) ?_
    refine gf_7_0 hx hb hown hts hK hP wf_X7_9 dX7_joinByAnd_45 ?_
    refine lv_aload_n hx hb dX7_joinByAnd_48 rfl (lv_at hl 0 rfl) ?_
    refine gf_7_1 hx hb hown hts hK hP wf_X7_15 dX7_joinByAnd_49 ?_
    refine lv_bipush (v := 8) hx hb dX7_joinByAnd_52 (by decide) ?_
    refine lv_imul hx hb dX7_joinByAnd_54 ?_
    refine lv_iload_n hx hb dX7_joinByAnd_55 rfl (lv_at hl 1 rfl) ?_
    refine lv_iadd hx hb dX7_joinByAnd_56 ?_
    refine gJld hx hb hK hP (is_5 Γ) dX7_joinByAnd_57 h (fun h => ?_)
    refine lv_land hx hb dX7_joinByAnd_58 ?_
    refine gJst hx hb hK hP hS (is_5 Γ) dX7_joinByAnd_59 h (fun H locs g2 h hP hS => ?_)
    obtain ⟨x3, ex3⟩ : ∃ y : Int32, y = l1 + (1 : Int32) := ⟨_, rfl⟩
    replace h := gLetI ex3 h
    refine lv_iinc (v := x3) (lv' := [(1, .int x3), (0, .ref (gB Γ + 4))]) hx hb dX7_joinByAnd_60 hl (k := 1) rfl (by rw [ex3]; rfl) (by decide) rfl (fun ls hl => ?_)
    refine lv_goto (tgt := 21) hx hb dX7_joinByAnd_63 (by decide) ?_
    exact hF21 _ _ _ _ _ h hP hS (lv_sub hl [1, 0] rfl)
set_option maxHeartbeats 2000000 in
set_option maxRecDepth 20000 in
theorem bk_X7_joinByAnd_21 {p : Program} {l : Launch} {e : Env} {s : State} {m : MethodId} {args : Array Value} {below : List Frame} {meth : Method} {c : Code} {Γ : gE} (C0 : gCx p s m args meth c Γ RX7 cX7_joinByAnd 2 none)   {z : Unit × gG}   : ∀ (n : Nat) (l1 : Int32) (g : gG) (H : Heap) (locs : List Loc) (ls : Array Slot), fb_X7_joinByAnd_21 n l1 g = some z → va_P (gD Γ) gcls (lay Γ g) H → va_S (gA Γ) s.heap H locs → lv_has ls 2 [(0, .ref (gB Γ + 4)), (1, .int l1)] → W p l e (gRm 0 0) s m args below meth c H locs 0 0 (MQ below (gQv Γ z) args s 0 0 (gA Γ)) (F0 m 21 ls []) := by
  intro n
  induction n with
  | zero => intro l1 g H locs ls h hP hS hl; cases h
  | succ n ih => intro l1 g H locs ls h hP hS hl; exact bs_X7_joinByAnd_21 C0  ih h hP hS hl
set_option maxHeartbeats 2000000 in
set_option maxRecDepth 20000 in
theorem m_X7_joinByAnd (l : Launch) (Γ : gE)    (g : gG) (z : Unit × gG) (h : f_X7_joinByAnd g = some z) : gMv l yX7_joinByAnd cX7_joinByAnd 2 none 0 0 Γ [.ref (gB Γ + 4)] g z := by
  unfold f_X7_joinByAnd at h
  refine gStart (own := RX7) (by decide +kernel) rfl (Nat.le_of_ble_eq_true rfl) ?_
  intro p e s m below meth c C0 ls hl hP
  have hS : va_S (gA Γ) s.heap s.heap [] := va_S.rf
  have hl : lv_has ls 2 [(0, .ref (gB Γ + 4))] := hl
  obtain ⟨hx, hb, hml, hr, hown, hts, hK, hlk, hX⟩ := id C0
  refine lv_aload_n hx hb dX7_joinByAnd_0 rfl (lv_at hl 0 rfl) ?_
  refine gf_7_1 hx hb hown hts hK hP wf_X7_15 dX7_joinByAnd_1 ?_
  refine lv_iconst (v := 2) hx hb dX7_joinByAnd_4 (by decide) ?_
  refine lv_icmp_ge (tgt := 9) hx hb dX7_joinByAnd_5 (by decide) (fun c1 => ?_) (fun c1 => ?_)
  · replace h := gpos c1 h
    refine lv_aload_n hx hb dX7_joinByAnd_9 rfl (lv_at hl 0 rfl) ?_
    refine lv_dup hx hb dX7_joinByAnd_10 rfl ?_
    refine gf_7_1 hx hb hown hts hK hP wf_X7_15 dX7_joinByAnd_11 ?_
    refine lv_iconst (v := 1) hx hb dX7_joinByAnd_14 (by decide) ?_
    refine lv_isub hx hb dX7_joinByAnd_15 ?_
    refine gp_7_1 hx hb hown hts hK hP hS wf_X7_15 dX7_joinByAnd_16 h (fun H locs g2 h hP hS => ?_)
    refine lv_iconst (v := 0) hx hb dX7_joinByAnd_19 (by decide) ?_
    refine lv_istore_n (lv' := [(1, .int (0 : Int32)), (0, .ref (gB Γ + 4))]) hx hb dX7_joinByAnd_20 rfl hl (by decide) rfl (fun ls hl => ?_)
    exact bk_X7_joinByAnd_21 C0  gFuel _ _ _ _ _ h hP hS (lv_sub hl [1, 0] rfl)
  · replace h := gneg c1 h
    exact gvret hx hb hr hlk hP hS dX7_joinByAnd_8 h
set_option maxHeartbeats 2000000 in
set_option maxRecDepth 20000 in
theorem bs_X2_endPart_48 {p : Program} {l : Launch} {e : Env} {s : State} {m : MethodId} {args : Array Value} {below : List Frame} {meth : Method} {c : Code} {Γ : gE} (C0 : gCx p s m args meth c Γ RX2 cX2_endPart 1 none)   {z : Unit × gG}   {g : gG} {H : Heap} {locs : List Loc} {ls : Array Slot}  (h : fs_X2_endPart_48 g = some z) (hP : va_P (gD Γ) gcls (lay Γ g) H) (hS : va_S (gA Γ) s.heap H locs) (hl : lv_has ls 1 [(0, .ref (gB Γ + 3))]) : W p l e (gRm 1 22) s m args below meth c H locs 0 0 (MQ below (gQv Γ z) args s 0 0 (gA Γ)) (F0 m 48 ls []) := by
  unfold fs_X2_endPart_48 at h
  obtain ⟨hx, hb, hml, hr, hown, hts, hK, hlk, hX⟩ := id C0
  refine lv_aload_n hx hb dX2_endPart_48 rfl (lv_at hl 0 rfl) ?_
  refine gf_2_7 hx hb hown hts hK hP wf_X2_39 dX2_endPart_49 ?_
  refine lv_aload_n hx hb dX2_endPart_52 rfl (lv_at hl 0 rfl) ?_
  refine gf_2_9 hx hb hown hts hK hP wf_X2_66 dX2_endPart_53 ?_
  refine lv_iconst (v := 1) hx hb dX2_endPart_56 (by decide) ?_
  refine gZst hx hb hK hP hS is_12 dX2_endPart_57 h (fun H locs g1 h hP hS => ?_)
  refine lv_aload_n hx hb dX2_endPart_58 rfl (lv_at hl 0 rfl) ?_
  refine lv_bipush (v := 6) hx hb dX2_endPart_59 (by decide) ?_
  refine gp_2_11 hx hb hown hts hK hP hS wf_X2_49 dX2_endPart_61 h (fun H locs g2 h hP hS => ?_)
  exact gvret hx hb hr hlk hP hS dX2_endPart_64 h
set_option maxHeartbeats 2000000 in
set_option maxRecDepth 20000 in
theorem bs_X2_endPart_29 {p : Program} {l : Launch} {e : Env} {s : State} {m : MethodId} {args : Array Value} {below : List Frame} {meth : Method} {c : Code} {Γ : gE} (C0 : gCx p s m args meth c Γ RX2 cX2_endPart 1 none)   {z : Unit × gG}   {g : gG} {H : Heap} {locs : List Loc} {ls : Array Slot}  (h : fs_X2_endPart_29 g = some z) (hP : va_P (gD Γ) gcls (lay Γ g) H) (hS : va_S (gA Γ) s.heap H locs) (hl : lv_has ls 1 [(0, .ref (gB Γ + 3))]) : W p l e (gRm 1 22) s m args below meth c H locs 0 0 (MQ below (gQv Γ z) args s 0 0 (gA Γ)) (F0 m 29 ls []) := by
  unfold fs_X2_endPart_29 at h
  obtain ⟨hx, hb, hml, hr, hown, hts, hK, hlk, hX⟩ := id C0
  refine lv_aload_n hx hb dX2_endPart_29 rfl (lv_at hl 0 rfl) ?_
  refine gf_2_7 hx hb hown hts hK hP wf_X2_39 dX2_endPart_30 ?_
  refine lv_aload_n hx hb dX2_endPart_33 rfl (lv_at hl 0 rfl) ?_
  refine gf_2_9 hx hb hown hts hK hP wf_X2_66 dX2_endPart_34 ?_
  refine gZld hx hb hK hP is_12 dX2_endPart_37 h (fun h => ?_)
  refine lv_if_eq (tgt := 48) hx hb dX2_endPart_38 (by decide) (fun c1 => ?_) (fun c1 => ?_)
  · replace h := gpos c1 h
    exact bs_X2_endPart_48 C0  h hP hS (lv_sub hl [0] rfl)
  · replace h := gneg c1 h
    refine lv_aload_n hx hb dX2_endPart_41 rfl (lv_at hl 0 rfl) ?_
    refine gf_2_0 hx hb hown hts hK hP wf_X2_12 dX2_endPart_42 ?_
    refine gCVv (rest := []) C0 cal_X7_joinByAnd wl_X2_118 wi_X7_joinByAnd ws_X7_joinByAnd ⟨Nat.le_of_ble_eq_true rfl, Nat.le_of_ble_eq_true rfl⟩ ⟨Nat.le_of_ble_eq_true rfl, Nat.le_of_ble_eq_true rfl⟩ grv_7 [] rfl (Nat.le_of_ble_eq_true rfl) hP hS hl.1 dX2_endPart_45 h (fun u hu => m_X7_joinByAnd l Γ g u hu) (fun u2 H locs h hP hS => ?_) rfl
    exact bs_X2_endPart_48 C0  h hP hS (lv_sub hl [0] rfl)
set_option maxHeartbeats 2000000 in
set_option maxRecDepth 20000 in
theorem m_X2_endPart (l : Launch) (Γ : gE)    (g : gG) (z : Unit × gG) (h : f_X2_endPart g = some z) : gMv l yX2_endPart cX2_endPart 1 none 1 22 Γ [.ref (gB Γ + 3)] g z := by
  unfold f_X2_endPart at h
  refine gStart (own := RX2) (by decide +kernel) rfl (Nat.le_of_ble_eq_true rfl) ?_
  intro p e s m below meth c C0 ls hl hP
  have hS : va_S (gA Γ) s.heap s.heap [] := va_S.rf
  have hl : lv_has ls 1 [(0, .ref (gB Γ + 3))] := hl
  obtain ⟨hx, hb, hml, hr, hown, hts, hK, hlk, hX⟩ := id C0
  refine lv_aload_n hx hb dX2_endPart_0 rfl (lv_at hl 0 rfl) ?_
  refine gf_2_6 hx hb hown hts hK hP wf_X2_35 dX2_endPart_1 ?_
  refine lv_aload_n hx hb dX2_endPart_4 rfl (lv_at hl 0 rfl) ?_
  refine gf_2_9 hx hb hown hts hK hP wf_X2_66 dX2_endPart_5 ?_
  refine gZld hx hb hK hP is_11 dX2_endPart_8 h (fun h => ?_)
  refine lv_if_eq (tgt := 29) hx hb dX2_endPart_9 (by decide) (fun c1 => ?_) (fun c1 => ?_)
  · replace h := gpos c1 h
    exact bs_X2_endPart_29 C0  h hP hS (lv_sub hl [0] rfl)
  · replace h := gneg c1 h
    refine lv_aload_n hx hb dX2_endPart_12 rfl (lv_at hl 0 rfl) ?_
    refine gf_2_0 hx hb hown hts hK hP wf_X2_12 dX2_endPart_13 ?_
    refine gCVv (rest := []) C0 cal_X7_negate wl_X2_115 wi_X7_negate ws_X7_negate ⟨Nat.le_of_ble_eq_true rfl, Nat.le_of_ble_eq_true rfl⟩ ⟨Nat.le_of_ble_eq_true rfl, Nat.le_of_ble_eq_true rfl⟩ grv_7 [] rfl (Nat.le_of_ble_eq_true rfl) hP hS hl.1 dX2_endPart_16 h (fun u hu => m_X7_negate l Γ g u hu) (fun u2 H locs h hP hS => ?_) rfl
    refine lv_aload_n hx hb dX2_endPart_19 rfl (lv_at hl 0 rfl) ?_
    refine gf_2_6 hx hb hown hts hK hP wf_X2_35 dX2_endPart_20 ?_
    refine lv_aload_n hx hb dX2_endPart_23 rfl (lv_at hl 0 rfl) ?_
    refine gf_2_9 hx hb hown hts hK hP wf_X2_66 dX2_endPart_24 ?_
    refine lv_iconst (v := 0) hx hb dX2_endPart_27 (by decide) ?_
    refine gZst hx hb hK hP hS is_11 dX2_endPart_28 h (fun H locs g3 h hP hS => ?_)
    exact bs_X2_endPart_29 C0  h hP hS (lv_sub hl [0] rfl)
set_option maxHeartbeats 2000000 in
set_option maxRecDepth 20000 in
theorem bs_X2_takesPart_120 {p : Program} {l : Launch} {e : Env} {s : State} {m : MethodId} {args : Array Value} {below : List Frame} {meth : Method} {c : Code} {Γ : gE} (C0 : gCx p s m args meth c Γ RX2 cX2_takesPart 2 (some .boolean))   {z : Int32 × gG}   {g : gG} {H : Heap} {locs : List Loc} {ls : Array Slot}  (h : fs_X2_takesPart_120 g = some z) (hP : va_P (gD Γ) gcls (lay Γ g) H) (hS : va_S (gA Γ) s.heap H locs) (hl : lv_has ls 2 [(0, .ref (gB Γ + 3))]) : W p l e (gRm 3 64) s m args below meth c H locs 0 0 (MQ below (gQi Γ z) args s 0 0 (gA Γ)) (F0 m 120 ls []) := by
  unfold fs_X2_takesPart_120 at h
  obtain ⟨hx, hb, hml, hr, hown, hts, hK, hlk, hX⟩ := id C0
  refine lv_aload_n hx hb dX2_takesPart_120 rfl (lv_at hl 0 rfl) ?_
  refine gCVv (rest := []) C0 cal_X2_endPart wl_X2_105 wi_X2_endPart ws_X2_endPart ⟨Nat.le_of_ble_eq_true rfl, Nat.le_of_ble_eq_true rfl⟩ ⟨Nat.le_of_ble_eq_true rfl, Nat.le_of_ble_eq_true rfl⟩ grv_2 [] rfl (Nat.le_of_ble_eq_true rfl) hP hS hl.1 dX2_takesPart_121 h (fun u hu => m_X2_endPart l Γ g u hu) (fun u1 H locs h hP hS => ?_) rfl
  refine lv_iconst (v := 1) hx hb dX2_takesPart_124 (by decide) ?_
  exact gzret0 hx hb hr hlk hP hS rfl dX2_takesPart_125 h
set_option maxHeartbeats 2000000 in
set_option maxRecDepth 20000 in
theorem bs_X2_takesPart_69 {p : Program} {l : Launch} {e : Env} {s : State} {m : MethodId} {args : Array Value} {below : List Frame} {meth : Method} {c : Code} {Γ : gE} (C0 : gCx p s m args meth c Γ RX2 cX2_takesPart 2 (some .boolean))   {z : Int32 × gG}  {l1 : Int32} {g : gG} {H : Heap} {locs : List Loc} {ls : Array Slot}  (h : fs_X2_takesPart_69 l1 g = some z) (hP : va_P (gD Γ) gcls (lay Γ g) H) (hS : va_S (gA Γ) s.heap H locs) (hl : lv_has ls 2 [(0, .ref (gB Γ + 3)), (1, .int l1)]) : W p l e (gRm 3 64) s m args below meth c H locs 0 0 (MQ below (gQi Γ z) args s 0 0 (gA Γ)) (F0 m 69 ls []) := by
  unfold fs_X2_takesPart_69 at h
  obtain ⟨hx, hb, hml, hr, hown, hts, hK, hlk, hX⟩ := id C0
  refine lv_iload_n hx hb dX2_takesPart_69 rfl (lv_at hl 1 rfl) ?_
  refine lv_bipush (v := 42) hx hb dX2_takesPart_70 (by decide) ?_
  refine lv_icmp_ne (tgt := 85) hx hb dX2_takesPart_72 (by decide) (fun c1 => ?_) (fun c1 => ?_)
  · replace h := gneg c1 h
    refine lv_iload_n hx hb dX2_takesPart_85 rfl (lv_at hl 1 rfl) ?_
    refine lv_bipush (v := 97) hx hb dX2_takesPart_86 (by decide) ?_
    refine lv_icmp_lt (tgt := 118) hx hb dX2_takesPart_88 (by decide) (fun c2 => ?_) (fun c2 => ?_)
    · replace h := gpos c2 h
      refine lv_iconst (v := 0) hx hb dX2_takesPart_118 (by decide) ?_
      exact gzret0 hx hb hr hlk hP hS rfl dX2_takesPart_119 h
    · replace h := gneg c2 h
      refine lv_iload_n hx hb dX2_takesPart_91 rfl (lv_at hl 1 rfl) ?_
      refine lv_bipush (v := 97) hx hb dX2_takesPart_92 (by decide) ?_
      refine lv_aload_n hx hb dX2_takesPart_94 rfl (lv_at hl 0 rfl) ?_
      refine gf_2_10 hx hb hown hts hK hP wf_X2_45 dX2_takesPart_95 ?_
      refine lv_iadd hx hb dX2_takesPart_98 ?_
      refine lv_iconst (v := 1) hx hb dX2_takesPart_99 (by decide) ?_
      refine lv_isub hx hb dX2_takesPart_100 ?_
      refine lv_icmp_ge (tgt := 118) hx hb dX2_takesPart_101 (by decide) (fun c3 => ?_) (fun c3 => ?_)
      · replace h := gpos c3 h
        refine lv_iconst (v := 0) hx hb dX2_takesPart_118 (by decide) ?_
        exact gzret0 hx hb hr hlk hP hS rfl dX2_takesPart_119 h
      · replace h := gneg c3 h
        refine lv_aload_n hx hb dX2_takesPart_104 rfl (lv_at hl 0 rfl) ?_
        refine gf_2_0 hx hb hown hts hK hP wf_X2_12 dX2_takesPart_105 ?_
        refine lv_iload_n hx hb dX2_takesPart_108 rfl (lv_at hl 1 rfl) ?_
        refine lv_bipush (v := 97) hx hb dX2_takesPart_109 (by decide) ?_
        refine lv_isub hx hb dX2_takesPart_111 ?_
        refine gCVv (rest := []) C0 cal_X7_pushVisited wl_X2_102 wi_X7_pushVisited ws_X7_pushVisited ⟨Nat.le_of_ble_eq_true rfl, Nat.le_of_ble_eq_true rfl⟩ ⟨Nat.le_of_ble_eq_true rfl, Nat.le_of_ble_eq_true rfl⟩ grv_7 [.int (l1 - (97 : Int32))] rfl (Nat.le_of_ble_eq_true rfl) hP hS hl.1 dX2_takesPart_112 h (fun u hu => m_X7_pushVisited l Γ (l1 - (97 : Int32)) g u hu) (fun u4 H locs h hP hS => ?_) rfl
        refine lv_goto (tgt := 120) hx hb dX2_takesPart_115 (by decide) ?_
        exact bs_X2_takesPart_120 C0  h hP hS (lv_sub hl [0] rfl)
  · replace h := gpos c1 h
    refine lv_aload_n hx hb dX2_takesPart_75 rfl (lv_at hl 0 rfl) ?_
    refine gf_2_0 hx hb hown hts hK hP wf_X2_12 dX2_takesPart_76 ?_
    refine gCVv (rest := []) C0 cal_X7_pushAlways wl_X2_99 wi_X7_pushAlways ws_X7_pushAlways ⟨Nat.le_of_ble_eq_true rfl, Nat.le_of_ble_eq_true rfl⟩ ⟨Nat.le_of_ble_eq_true rfl, Nat.le_of_ble_eq_true rfl⟩ grv_7 [] rfl (Nat.le_of_ble_eq_true rfl) hP hS hl.1 dX2_takesPart_79 h (fun u hu => m_X7_pushAlways l Γ g u hu) (fun u5 H locs h hP hS => ?_) rfl
    refine lv_goto (tgt := 120) hx hb dX2_takesPart_82 (by decide) ?_
    exact bs_X2_takesPart_120 C0  h hP hS (lv_sub hl [0] rfl)
set_option maxHeartbeats 2000000 in
set_option maxRecDepth 20000 in
theorem m_X2_takesPart (l : Launch) (Γ : gE)   (a1 : Int32) (g : gG) (z : Int32 × gG) (h : f_X2_takesPart a1 g = some z) : gMi l yX2_takesPart cX2_takesPart 2 (some .boolean) 3 64 Γ [.ref (gB Γ + 3), .int a1] g z := by
  unfold f_X2_takesPart at h
  refine gStart (own := RX2) (by decide +kernel) rfl (Nat.le_of_ble_eq_true rfl) ?_
  intro p e s m below meth c C0 ls hl hP
  have hS : va_S (gA Γ) s.heap s.heap [] := va_S.rf
  have hl : lv_has ls 2 [(0, .ref (gB Γ + 3)), (1, .int a1)] := hl
  obtain ⟨hx, hb, hml, hr, hown, hts, hK, hlk, hX⟩ := id C0
  refine lv_iload_n hx hb dX2_takesPart_0 rfl (lv_at hl 1 rfl) ?_
  refine lv_bipush (v := 33) hx hb dX2_takesPart_1 (by decide) ?_
  refine lv_icmp_ne (tgt := 34) hx hb dX2_takesPart_3 (by decide) (fun c1 => ?_) (fun c1 => ?_)
  · replace h := gneg c1 h
    refine lv_iload_n hx hb dX2_takesPart_34 rfl (lv_at hl 1 rfl) ?_
    refine lv_bipush (v := 40) hx hb dX2_takesPart_35 (by decide) ?_
    refine lv_icmp_ne (tgt := 47) hx hb dX2_takesPart_37 (by decide) (fun c2 => ?_) (fun c2 => ?_)
    · replace h := gneg c2 h
      refine lv_iload_n hx hb dX2_takesPart_47 rfl (lv_at hl 1 rfl) ?_
      refine lv_bipush (v := 49) hx hb dX2_takesPart_48 (by decide) ?_
      refine lv_icmp_lt (tgt := 69) hx hb dX2_takesPart_50 (by decide) (fun c3 => ?_) (fun c3 => ?_)
      · replace h := gpos c3 h
        exact bs_X2_takesPart_69 C0  h hP hS (lv_sub hl [0, 1] rfl)
      · replace h := gneg c3 h
        refine lv_iload_n hx hb dX2_takesPart_53 rfl (lv_at hl 1 rfl) ?_
        refine lv_bipush (v := 52) hx hb dX2_takesPart_54 (by decide) ?_
        refine lv_icmp_gt (tgt := 69) hx hb dX2_takesPart_56 (by decide) (fun c4 => ?_) (fun c4 => ?_)
        · replace h := gpos c4 h
          exact bs_X2_takesPart_69 C0  h hP hS (lv_sub hl [0, 1] rfl)
        · replace h := gneg c4 h
          refine lv_aload_n hx hb dX2_takesPart_59 rfl (lv_at hl 0 rfl) ?_
          refine lv_iload_n hx hb dX2_takesPart_60 rfl (lv_at hl 1 rfl) ?_
          refine lv_bipush (v := 48) hx hb dX2_takesPart_61 (by decide) ?_
          refine lv_isub hx hb dX2_takesPart_63 ?_
          refine lv_iconst (v := 5) hx hb dX2_takesPart_64 (by decide) ?_
          refine gCVi (rest := []) C0 cal_X2_nests wl_X2_95 wi_X2_nests ws_X2_nests ⟨Nat.le_of_ble_eq_true rfl, Nat.le_of_ble_eq_true rfl⟩ ⟨Nat.le_of_ble_eq_true rfl, Nat.le_of_ble_eq_true rfl⟩ grv_2 [.int (a1 - (48 : Int32)), .int (5 : Int32)] rfl (Nat.le_of_ble_eq_true rfl) hP hS hl.1 dX2_takesPart_65 h (fun u hu => m_X2_nests l Γ (a1 - (48 : Int32)) (5 : Int32) g u hu) (fun u5 H locs h hP hS => ?_) rfl
          exact gzret hx hb hr hlk hP hS dX2_takesPart_68 h
    · replace h := gpos c2 h
      refine lv_aload_n hx hb dX2_takesPart_40 rfl (lv_at hl 0 rfl) ?_
      refine lv_iconst (v := 0) hx hb dX2_takesPart_41 (by decide) ?_
      refine lv_iconst (v := 4) hx hb dX2_takesPart_42 (by decide) ?_
      refine gCVi (rest := []) C0 cal_X2_nests wl_X2_95 wi_X2_nests ws_X2_nests ⟨Nat.le_of_ble_eq_true rfl, Nat.le_of_ble_eq_true rfl⟩ ⟨Nat.le_of_ble_eq_true rfl, Nat.le_of_ble_eq_true rfl⟩ grv_2 [.int (0 : Int32), .int (4 : Int32)] rfl (Nat.le_of_ble_eq_true rfl) hP hS hl.1 dX2_takesPart_43 h (fun u hu => m_X2_nests l Γ (0 : Int32) (4 : Int32) g u hu) (fun u6 H locs h hP hS => ?_) rfl
      exact gzret hx hb hr hlk hP hS dX2_takesPart_46 h
  · replace h := gpos c1 h
    refine lv_aload_n hx hb dX2_takesPart_6 rfl (lv_at hl 0 rfl) ?_
    refine gf_2_6 hx hb hown hts hK hP wf_X2_35 dX2_takesPart_7 ?_
    refine lv_aload_n hx hb dX2_takesPart_10 rfl (lv_at hl 0 rfl) ?_
    refine gf_2_9 hx hb hown hts hK hP wf_X2_66 dX2_takesPart_11 ?_
    refine lv_aload_n hx hb dX2_takesPart_14 rfl (lv_at hl 0 rfl) ?_
    refine gf_2_6 hx hb hown hts hK hP wf_X2_35 dX2_takesPart_15 ?_
    refine lv_aload_n hx hb dX2_takesPart_18 rfl (lv_at hl 0 rfl) ?_
    refine gf_2_9 hx hb hown hts hK hP wf_X2_66 dX2_takesPart_19 ?_
    refine gZld hx hb hK hP is_11 dX2_takesPart_22 h (fun h => ?_)
    refine lv_if_ne (tgt := 30) hx hb dX2_takesPart_23 (by decide) (fun c7 => ?_) (fun c7 => ?_)
    · replace h := gneg c7 h
      refine lv_iconst (v := 0) hx hb dX2_takesPart_30 (by decide) ?_
      refine gZst hx hb hK hP hS is_11 dX2_takesPart_31 h (fun H locs g8 h hP hS => ?_)
      refine lv_iconst (v := 1) hx hb dX2_takesPart_32 (by decide) ?_
      exact gzret0 hx hb hr hlk hP hS rfl dX2_takesPart_33 h
    · replace h := gpos c7 h
      refine lv_iconst (v := 1) hx hb dX2_takesPart_26 (by decide) ?_
      refine lv_goto (tgt := 31) hx hb dX2_takesPart_27 (by decide) ?_
      refine gZst hx hb hK hP hS is_11 dX2_takesPart_31 h (fun H locs g9 h hP hS => ?_)
      refine lv_iconst (v := 1) hx hb dX2_takesPart_32 (by decide) ?_
      exact gzret0 hx hb hr hlk hP hS rfl dX2_takesPart_33 h
set_option maxHeartbeats 2000000 in
set_option maxRecDepth 20000 in
theorem bs_X7_joinByOr_21 {p : Program} {l : Launch} {e : Env} {s : State} {m : MethodId} {args : Array Value} {below : List Frame} {meth : Method} {c : Code} {Γ : gE} (C0 : gCx p s m args meth c Γ RX7 cX7_joinByOr 2 none)   {z : Unit × gG} {F21 : Int32 → gG → Option (Unit × gG)} {l1 : Int32} {g : gG} {H : Heap} {locs : List Loc} {ls : Array Slot} (hF21 : ∀ (l1 : Int32) (g : gG) (H : Heap) (locs : List Loc) (ls : Array Slot), F21 l1 g = some z → va_P (gD Γ) gcls (lay Γ g) H → va_S (gA Γ) s.heap H locs → lv_has ls 2 [(0, .ref (gB Γ + 4)), (1, .int l1)] → W p l e (gRm 0 0) s m args below meth c H locs 0 0 (MQ below (gQv Γ z) args s 0 0 (gA Γ)) (F0 m 21 ls [])) (h : fs_X7_joinByOr_21 F21 l1 g = some z) (hP : va_P (gD Γ) gcls (lay Γ g) H) (hS : va_S (gA Γ) s.heap H locs) (hl : lv_has ls 2 [(0, .ref (gB Γ + 4)), (1, .int l1)]) : W p l e (gRm 0 0) s m args below meth c H locs 0 0 (MQ below (gQv Γ z) args s 0 0 (gA Γ)) (F0 m 21 ls []) := by
  unfold fs_X7_joinByOr_21 at h
  obtain ⟨hx, hb, hml, hr, hown, hts, hK, hlk, hX⟩ := id C0
  refine lv_iload_n hx hb dX7_joinByOr_21 rfl (lv_at hl 1 rfl) ?_
  refine lv_bipush (v := 8) hx hb dX7_joinByOr_22 (by decide) ?_
  refine lv_icmp_ge (tgt := 66) hx hb dX7_joinByOr_24 (by decide) (fun c1 => ?_) (fun c1 => ?_)
  · replace h := gpos c1 h
    exact gvret hx hb hr hlk hP hS dX7_joinByOr_66 h
  · replace h := gneg c1 h
    refine lv_aload_n hx hb dX7_joinByOr_27 rfl (lv_at hl 0 rfl) ?_
    refine gf_7_0 hx hb hown hts hK hP wf_X7_9 dX7_joinByOr_28 ?_
    refine lv_aload_n hx hb dX7_joinByOr_31 rfl (lv_at hl 0 rfl) ?_
    refine gf_7_1 hx hb hown hts hK hP wf_X7_15 dX7_joinByOr_32 ?_
    refine lv_iconst (v := 1) hx hb dX7_joinByOr_35 (by decide) ?_
    refine lv_isub hx hb dX7_joinByOr_36 ?_
    refine lv_bipush (v := 8) hx hb dX7_joinByOr_37 (by decide) ?_
    refine lv_imul hx hb dX7_joinByOr_39 ?_
    refine lv_iload_n hx hb dX7_joinByOr_40 rfl (lv_at hl 1 rfl) ?_
    refine lv_iadd hx hb dX7_joinByOr_41 ?_
    refine lv_dup2_11 hx hb dX7_joinByOr_42 rfl rfl ?_
    refine gJld hx hb hK hP (is_5 Γ) dX7_joinByOr_43 h (fun h => ?_)
    refine lv_aload_n hx hb dX7_joinByOr_44 rfl (lv_at hl 0 rfl) ?_
    refine gf_7_0 hx hb hown hts hK hP wf_X7_9 dX7_joinByOr_45 ?_
    refine lv_aload_n hx hb dX7_joinByOr_48 rfl (lv_at hl 0 rfl) ?_
    refine gf_7_1 hx hb hown hts hK hP wf_X7_15 dX7_joinByOr_49 ?_
    refine lv_bipush (v := 8) hx hb dX7_joinByOr_52 (by decide) ?_
    refine lv_imul hx hb dX7_joinByOr_54 ?_
    refine lv_iload_n hx hb dX7_joinByOr_55 rfl (lv_at hl 1 rfl) ?_
    refine lv_iadd hx hb dX7_joinByOr_56 ?_
    refine gJld hx hb hK hP (is_5 Γ) dX7_joinByOr_57 h (fun h => ?_)
    refine lv_lor hx hb dX7_joinByOr_58 ?_
    refine gJst hx hb hK hP hS (is_5 Γ) dX7_joinByOr_59 h (fun H locs g2 h hP hS => ?_)
    obtain ⟨x3, ex3⟩ : ∃ y : Int32, y = l1 + (1 : Int32) := ⟨_, rfl⟩
    replace h := gLetI ex3 h
    refine lv_iinc (v := x3) (lv' := [(1, .int x3), (0, .ref (gB Γ + 4))]) hx hb dX7_joinByOr_60 hl (k := 1) rfl (by rw [ex3]; rfl) (by decide) rfl (fun ls hl => ?_)
    refine lv_goto (tgt := 21) hx hb dX7_joinByOr_63 (by decide) ?_
    exact hF21 _ _ _ _ _ h hP hS (lv_sub hl [1, 0] rfl)
set_option maxHeartbeats 2000000 in
set_option maxRecDepth 20000 in
theorem bk_X7_joinByOr_21 {p : Program} {l : Launch} {e : Env} {s : State} {m : MethodId} {args : Array Value} {below : List Frame} {meth : Method} {c : Code} {Γ : gE} (C0 : gCx p s m args meth c Γ RX7 cX7_joinByOr 2 none)   {z : Unit × gG}   : ∀ (n : Nat) (l1 : Int32) (g : gG) (H : Heap) (locs : List Loc) (ls : Array Slot), fb_X7_joinByOr_21 n l1 g = some z → va_P (gD Γ) gcls (lay Γ g) H → va_S (gA Γ) s.heap H locs → lv_has ls 2 [(0, .ref (gB Γ + 4)), (1, .int l1)] → W p l e (gRm 0 0) s m args below meth c H locs 0 0 (MQ below (gQv Γ z) args s 0 0 (gA Γ)) (F0 m 21 ls []) := by
  intro n
  induction n with
  | zero => intro l1 g H locs ls h hP hS hl; cases h
  | succ n ih => intro l1 g H locs ls h hP hS hl; exact bs_X7_joinByOr_21 C0  ih h hP hS hl
set_option maxHeartbeats 2000000 in
set_option maxRecDepth 20000 in
theorem m_X7_joinByOr (l : Launch) (Γ : gE)    (g : gG) (z : Unit × gG) (h : f_X7_joinByOr g = some z) : gMv l yX7_joinByOr cX7_joinByOr 2 none 0 0 Γ [.ref (gB Γ + 4)] g z := by
  unfold f_X7_joinByOr at h
  refine gStart (own := RX7) (by decide +kernel) rfl (Nat.le_of_ble_eq_true rfl) ?_
  intro p e s m below meth c C0 ls hl hP
  have hS : va_S (gA Γ) s.heap s.heap [] := va_S.rf
  have hl : lv_has ls 2 [(0, .ref (gB Γ + 4))] := hl
  obtain ⟨hx, hb, hml, hr, hown, hts, hK, hlk, hX⟩ := id C0
  refine lv_aload_n hx hb dX7_joinByOr_0 rfl (lv_at hl 0 rfl) ?_
  refine gf_7_1 hx hb hown hts hK hP wf_X7_15 dX7_joinByOr_1 ?_
  refine lv_iconst (v := 2) hx hb dX7_joinByOr_4 (by decide) ?_
  refine lv_icmp_ge (tgt := 9) hx hb dX7_joinByOr_5 (by decide) (fun c1 => ?_) (fun c1 => ?_)
  · replace h := gpos c1 h
    refine lv_aload_n hx hb dX7_joinByOr_9 rfl (lv_at hl 0 rfl) ?_
    refine lv_dup hx hb dX7_joinByOr_10 rfl ?_
    refine gf_7_1 hx hb hown hts hK hP wf_X7_15 dX7_joinByOr_11 ?_
    refine lv_iconst (v := 1) hx hb dX7_joinByOr_14 (by decide) ?_
    refine lv_isub hx hb dX7_joinByOr_15 ?_
    refine gp_7_1 hx hb hown hts hK hP hS wf_X7_15 dX7_joinByOr_16 h (fun H locs g2 h hP hS => ?_)
    refine lv_iconst (v := 0) hx hb dX7_joinByOr_19 (by decide) ?_
    refine lv_istore_n (lv' := [(1, .int (0 : Int32)), (0, .ref (gB Γ + 4))]) hx hb dX7_joinByOr_20 rfl hl (by decide) rfl (fun ls hl => ?_)
    exact bk_X7_joinByOr_21 C0  gFuel _ _ _ _ _ h hP hS (lv_sub hl [1, 0] rfl)
  · replace h := gneg c1 h
    exact gvret hx hb hr hlk hP hS dX7_joinByOr_8 h
set_option maxHeartbeats 2000000 in
set_option maxRecDepth 20000 in
theorem bs_X2_endGroup_19 {p : Program} {l : Launch} {e : Env} {s : State} {m : MethodId} {args : Array Value} {below : List Frame} {meth : Method} {c : Code} {Γ : gE} (C0 : gCx p s m args meth c Γ RX2 cX2_endGroup 1 none)   {z : Unit × gG}   {g : gG} {H : Heap} {locs : List Loc} {ls : Array Slot}  (h : fs_X2_endGroup_19 g = some z) (hP : va_P (gD Γ) gcls (lay Γ g) H) (hS : va_S (gA Γ) s.heap H locs) (hl : lv_has ls 1 [(0, .ref (gB Γ + 3))]) : W p l e (gRm 1 21) s m args below meth c H locs 0 0 (MQ below (gQv Γ z) args s 0 0 (gA Γ)) (F0 m 19 ls []) := by
  unfold fs_X2_endGroup_19 at h
  obtain ⟨hx, hb, hml, hr, hown, hts, hK, hlk, hX⟩ := id C0
  refine lv_aload_n hx hb dX2_endGroup_19 rfl (lv_at hl 0 rfl) ?_
  refine gf_2_8 hx hb hown hts hK hP wf_X2_42 dX2_endGroup_20 ?_
  refine lv_aload_n hx hb dX2_endGroup_23 rfl (lv_at hl 0 rfl) ?_
  refine gf_2_9 hx hb hown hts hK hP wf_X2_66 dX2_endGroup_24 ?_
  refine lv_iconst (v := 1) hx hb dX2_endGroup_27 (by decide) ?_
  refine gZst hx hb hK hP hS is_13 dX2_endGroup_28 h (fun H locs g1 h hP hS => ?_)
  refine lv_aload_n hx hb dX2_endGroup_29 rfl (lv_at hl 0 rfl) ?_
  refine gf_2_7 hx hb hown hts hK hP wf_X2_39 dX2_endGroup_30 ?_
  refine lv_aload_n hx hb dX2_endGroup_33 rfl (lv_at hl 0 rfl) ?_
  refine gf_2_9 hx hb hown hts hK hP wf_X2_66 dX2_endGroup_34 ?_
  refine lv_iconst (v := 0) hx hb dX2_endGroup_37 (by decide) ?_
  refine gZst hx hb hK hP hS is_12 dX2_endGroup_38 h (fun H locs g2 h hP hS => ?_)
  exact gvret hx hb hr hlk hP hS dX2_endGroup_39 h
set_option maxHeartbeats 2000000 in
set_option maxRecDepth 20000 in
theorem m_X2_endGroup (l : Launch) (Γ : gE)    (g : gG) (z : Unit × gG) (h : f_X2_endGroup g = some z) : gMv l yX2_endGroup cX2_endGroup 1 none 1 21 Γ [.ref (gB Γ + 3)] g z := by
  unfold f_X2_endGroup at h
  refine gStart (own := RX2) (by decide +kernel) rfl (Nat.le_of_ble_eq_true rfl) ?_
  intro p e s m below meth c C0 ls hl hP
  have hS : va_S (gA Γ) s.heap s.heap [] := va_S.rf
  have hl : lv_has ls 1 [(0, .ref (gB Γ + 3))] := hl
  obtain ⟨hx, hb, hml, hr, hown, hts, hK, hlk, hX⟩ := id C0
  refine lv_aload_n hx hb dX2_endGroup_0 rfl (lv_at hl 0 rfl) ?_
  refine gf_2_8 hx hb hown hts hK hP wf_X2_42 dX2_endGroup_1 ?_
  refine lv_aload_n hx hb dX2_endGroup_4 rfl (lv_at hl 0 rfl) ?_
  refine gf_2_9 hx hb hown hts hK hP wf_X2_66 dX2_endGroup_5 ?_
  refine gZld hx hb hK hP is_13 dX2_endGroup_8 h (fun h => ?_)
  refine lv_if_eq (tgt := 19) hx hb dX2_endGroup_9 (by decide) (fun c1 => ?_) (fun c1 => ?_)
  · replace h := gpos c1 h
    exact bs_X2_endGroup_19 C0  h hP hS (lv_sub hl [0] rfl)
  · replace h := gneg c1 h
    refine lv_aload_n hx hb dX2_endGroup_12 rfl (lv_at hl 0 rfl) ?_
    refine gf_2_0 hx hb hown hts hK hP wf_X2_12 dX2_endGroup_13 ?_
    refine gCVv (rest := []) C0 cal_X7_joinByOr wl_X2_121 wi_X7_joinByOr ws_X7_joinByOr ⟨Nat.le_of_ble_eq_true rfl, Nat.le_of_ble_eq_true rfl⟩ ⟨Nat.le_of_ble_eq_true rfl, Nat.le_of_ble_eq_true rfl⟩ grv_7 [] rfl (Nat.le_of_ble_eq_true rfl) hP hS hl.1 dX2_endGroup_16 h (fun u hu => m_X7_joinByOr l Γ g u hu) (fun u2 H locs h hP hS => ?_) rfl
    exact bs_X2_endGroup_19 C0  h hP hS (lv_sub hl [0] rfl)
set_option maxHeartbeats 2000000 in
set_option maxRecDepth 20000 in
theorem m_X2_endCondition (l : Launch) (Γ : gE)    (g : gG) (z : Unit × gG) (h : f_X2_endCondition g = some z) : gMv l yX2_endCondition cX2_endCondition 1 none 2 41 Γ [.ref (gB Γ + 3)] g z := by
  unfold f_X2_endCondition at h
  refine gStart (own := RX2) (by decide +kernel) rfl (Nat.le_of_ble_eq_true rfl) ?_
  intro p e s m below meth c C0 ls hl hP
  have hS : va_S (gA Γ) s.heap s.heap [] := va_S.rf
  have hl : lv_has ls 1 [(0, .ref (gB Γ + 3))] := hl
  obtain ⟨hx, hb, hml, hr, hown, hts, hK, hlk, hX⟩ := id C0
  refine lv_aload_n hx hb dX2_endCondition_0 rfl (lv_at hl 0 rfl) ?_
  refine gCVv (rest := []) C0 cal_X2_endGroup wl_X2_108 wi_X2_endGroup ws_X2_endGroup ⟨Nat.le_of_ble_eq_true rfl, Nat.le_of_ble_eq_true rfl⟩ ⟨Nat.le_of_ble_eq_true rfl, Nat.le_of_ble_eq_true rfl⟩ grv_2 [] rfl (Nat.le_of_ble_eq_true rfl) hP hS hl.1 dX2_endCondition_1 h (fun u hu => m_X2_endGroup l Γ g u hu) (fun u1 H locs h hP hS => ?_) rfl
  refine lv_aload_n hx hb dX2_endCondition_4 rfl (lv_at hl 0 rfl) ?_
  refine gf_2_8 hx hb hown hts hK hP wf_X2_42 dX2_endCondition_5 ?_
  refine lv_aload_n hx hb dX2_endCondition_8 rfl (lv_at hl 0 rfl) ?_
  refine gf_2_9 hx hb hown hts hK hP wf_X2_66 dX2_endCondition_9 ?_
  refine lv_iconst (v := 0) hx hb dX2_endCondition_12 (by decide) ?_
  refine gZst hx hb hK hP hS is_13 dX2_endCondition_13 h (fun H locs g2 h hP hS => ?_)
  refine lv_aload_n hx hb dX2_endCondition_14 rfl (lv_at hl 0 rfl) ?_
  refine gf_2_5 hx hb hown hts hK hP wf_X2_32 dX2_endCondition_15 ?_
  refine lv_aload_n hx hb dX2_endCondition_18 rfl (lv_at hl 0 rfl) ?_
  refine gf_2_9 hx hb hown hts hK hP wf_X2_66 dX2_endCondition_19 ?_
  refine lv_dup2_11 hx hb dX2_endCondition_22 rfl rfl ?_
  refine gIld hx hb hK hP is_10 dX2_endCondition_23 h (fun h => ?_)
  refine lv_iconst (v := 1) hx hb dX2_endCondition_24 (by decide) ?_
  refine lv_iadd hx hb dX2_endCondition_25 ?_
  refine gIst hx hb hK hP hS is_10 dX2_endCondition_26 h (fun H locs g3 h hP hS => ?_)
  exact gvret hx hb hr hlk hP hS dX2_endCondition_27 h
set_option maxHeartbeats 2000000 in
set_option maxRecDepth 20000 in
theorem bs_X7_atLeast_15 {p : Program} {l : Launch} {e : Env} {s : State} {m : MethodId} {args : Array Value} {below : List Frame} {meth : Method} {c : Code} {Γ : gE} (C0 : gCx p s m args meth c Γ RX7 cX7_atLeast 15 (some .long))   {z : Int64 × gG} {F15 : Int32 → Int32 → Int64 → Int64 → Int64 → Int64 → Int32 → gG → Option (Int64 × gG)} {l1 : Int32} {l3 : Int32} {l4 : Int64} {l6 : Int64} {l8 : Int64} {l10 : Int64} {l12 : Int32} {g : gG} {H : Heap} {locs : List Loc} {ls : Array Slot} (hF15 : ∀ (l1 : Int32) (l3 : Int32) (l4 : Int64) (l6 : Int64) (l8 : Int64) (l10 : Int64) (l12 : Int32) (g : gG) (H : Heap) (locs : List Loc) (ls : Array Slot), F15 l1 l3 l4 l6 l8 l10 l12 g = some z → va_P (gD Γ) gcls (lay Γ g) H → va_S (gA Γ) s.heap H locs → lv_has ls 15 [(0, .ref (gB Γ + 4)), (1, .int l1), (3, .int l3), (4, .long l4), (6, .long l6), (8, .long l8), (10, .long l10), (12, .int l12)] → W p l e (gRm 0 0) s m args below meth c H locs 0 0 (MQ below (gQl Γ z) args s 0 0 (gA Γ)) (F0 m 15 ls [])) (h : fs_X7_atLeast_15 F15 l1 l3 l4 l6 l8 l10 l12 g = some z) (hP : va_P (gD Γ) gcls (lay Γ g) H) (hS : va_S (gA Γ) s.heap H locs) (hl : lv_has ls 15 [(0, .ref (gB Γ + 4)), (1, .int l1), (3, .int l3), (4, .long l4), (6, .long l6), (8, .long l8), (10, .long l10), (12, .int l12)]) : W p l e (gRm 0 0) s m args below meth c H locs 0 0 (MQ below (gQl Γ z) args s 0 0 (gA Γ)) (F0 m 15 ls []) := by
  unfold fs_X7_atLeast_15 at h
  obtain ⟨hx, hb, hml, hr, hown, hts, hK, hlk, hX⟩ := id C0
  refine lv_iload hx hb dX7_atLeast_15 (lv_at hl 7 rfl) ?_
  refine lv_aload_n hx hb dX7_atLeast_17 rfl (lv_at hl 0 rfl) ?_
  refine gf_7_1 hx hb hown hts hK hP wf_X7_15 dX7_atLeast_18 ?_
  refine lv_icmp_ge (tgt := 81) hx hb dX7_atLeast_21 (by decide) (fun c1 => ?_) (fun c1 => ?_)
  · replace h := gpos c1 h
    refine lv_iload_n hx hb dX7_atLeast_81 rfl (lv_at hl 1 rfl) ?_
    refine lv_iconst (v := 1) hx hb dX7_atLeast_82 (by decide) ?_
    refine lv_icmp_gt (tgt := 91) hx hb dX7_atLeast_83 (by decide) (fun c2 => ?_) (fun c2 => ?_)
    · replace h := gpos c2 h
      refine lv_iload_n hx hb dX7_atLeast_91 rfl (lv_at hl 1 rfl) ?_
      refine lv_iconst (v := 2) hx hb dX7_atLeast_92 (by decide) ?_
      refine lv_icmp_ne (tgt := 101) hx hb dX7_atLeast_93 (by decide) (fun c3 => ?_) (fun c3 => ?_)
      · replace h := gneg c3 h
        refine lv_iload_n hx hb dX7_atLeast_101 rfl (lv_at hl 1 rfl) ?_
        refine lv_iconst (v := 3) hx hb dX7_atLeast_102 (by decide) ?_
        refine lv_icmp_ne (tgt := 111) hx hb dX7_atLeast_103 (by decide) (fun c4 => ?_) (fun c4 => ?_)
        · replace h := gneg c4 h
          refine lv_lload hx hb dX7_atLeast_111 (lv_at hl 6 rfl) ?_
          exact glret hx hb hr hlk hP hS dX7_atLeast_113 h
        · replace h := gpos c4 h
          refine lv_lload hx hb dX7_atLeast_106 (lv_at hl 5 rfl) ?_
          refine lv_goto (tgt := 113) hx hb dX7_atLeast_108 (by decide) ?_
          exact glret hx hb hr hlk hP hS dX7_atLeast_113 h
      · replace h := gpos c3 h
        refine lv_lload hx hb dX7_atLeast_96 (lv_at hl 4 rfl) ?_
        refine lv_goto (tgt := 113) hx hb dX7_atLeast_98 (by decide) ?_
        exact glret hx hb hr hlk hP hS dX7_atLeast_113 h
    · replace h := gneg c2 h
      refine lv_lload hx hb dX7_atLeast_86 (lv_at hl 3 rfl) ?_
      refine lv_goto (tgt := 113) hx hb dX7_atLeast_88 (by decide) ?_
      exact glret hx hb hr hlk hP hS dX7_atLeast_113 h
  · replace h := gneg c1 h
    refine lv_aload_n hx hb dX7_atLeast_24 rfl (lv_at hl 0 rfl) ?_
    refine gf_7_0 hx hb hown hts hK hP wf_X7_9 dX7_atLeast_25 ?_
    refine lv_iload hx hb dX7_atLeast_28 (lv_at hl 7 rfl) ?_
    refine lv_bipush (v := 8) hx hb dX7_atLeast_30 (by decide) ?_
    refine lv_imul hx hb dX7_atLeast_32 ?_
    refine lv_iload_n hx hb dX7_atLeast_33 rfl (lv_at hl 2 rfl) ?_
    refine lv_iadd hx hb dX7_atLeast_34 ?_
    refine gJld hx hb hK hP (is_5 Γ) dX7_atLeast_35 h (fun h => ?_)
    refine lv_topl (fun x5 ex5 => ?_)
    replace h := gLetI ex5 h
    refine lv_lstore (lv' := [(13, .long x5), (0, .ref (gB Γ + 4)), (1, .int l1), (3, .int l3), (4, .long l4), (6, .long l6), (8, .long l8), (10, .long l10), (12, .int l12)]) hx hb dX7_atLeast_36 hl (by decide) rfl (fun ls hl => ?_)
    refine lv_lload hx hb dX7_atLeast_38 (lv_at hl 7 rfl) ?_
    refine lv_lload hx hb dX7_atLeast_40 (lv_at hl 6 rfl) ?_
    refine lv_lload hx hb dX7_atLeast_42 (lv_at hl 0 rfl) ?_
    refine lv_land hx hb dX7_atLeast_44 ?_
    refine lv_lor hx hb dX7_atLeast_45 ?_
    refine lv_topl (fun x6 ex6 => ?_)
    replace h := gLetI ex6 h
    refine lv_lstore (lv' := [(10, .long x6), (13, .long x5), (0, .ref (gB Γ + 4)), (1, .int l1), (3, .int l3), (4, .long l4), (6, .long l6), (8, .long l8), (12, .int l12)]) hx hb dX7_atLeast_46 hl (by decide) rfl (fun ls hl => ?_)
    refine lv_lload hx hb dX7_atLeast_48 (lv_at hl 7 rfl) ?_
    refine lv_lload hx hb dX7_atLeast_50 (lv_at hl 6 rfl) ?_
    refine lv_lload hx hb dX7_atLeast_52 (lv_at hl 1 rfl) ?_
    refine lv_land hx hb dX7_atLeast_54 ?_
    refine lv_lor hx hb dX7_atLeast_55 ?_
    refine lv_topl (fun x7 ex7 => ?_)
    replace h := gLetI ex7 h
    refine lv_lstore (lv' := [(8, .long x7), (10, .long x6), (13, .long x5), (0, .ref (gB Γ + 4)), (1, .int l1), (3, .int l3), (4, .long l4), (6, .long l6), (12, .int l12)]) hx hb dX7_atLeast_56 hl (by decide) rfl (fun ls hl => ?_)
    refine lv_lload hx hb dX7_atLeast_58 (lv_at hl 7 rfl) ?_
    refine lv_lload hx hb dX7_atLeast_60 (lv_at hl 6 rfl) ?_
    refine lv_lload hx hb dX7_atLeast_62 (lv_at hl 2 rfl) ?_
    refine lv_land hx hb dX7_atLeast_64 ?_
    refine lv_lor hx hb dX7_atLeast_65 ?_
    refine lv_topl (fun x8 ex8 => ?_)
    replace h := gLetI ex8 h
    refine lv_lstore (lv' := [(6, .long x8), (8, .long x7), (10, .long x6), (13, .long x5), (0, .ref (gB Γ + 4)), (1, .int l1), (3, .int l3), (4, .long l4), (12, .int l12)]) hx hb dX7_atLeast_66 hl (by decide) rfl (fun ls hl => ?_)
    refine lv_lload hx hb dX7_atLeast_68 (lv_at hl 7 rfl) ?_
    refine lv_lload hx hb dX7_atLeast_70 (lv_at hl 3 rfl) ?_
    refine lv_lor hx hb dX7_atLeast_72 ?_
    refine lv_topl (fun x9 ex9 => ?_)
    replace h := gLetI ex9 h
    refine lv_lstore (lv' := [(4, .long x9), (6, .long x8), (8, .long x7), (10, .long x6), (13, .long x5), (0, .ref (gB Γ + 4)), (1, .int l1), (3, .int l3), (12, .int l12)]) hx hb dX7_atLeast_73 hl (by decide) rfl (fun ls hl => ?_)
    obtain ⟨x10, ex10⟩ : ∃ y : Int32, y = l12 + (1 : Int32) := ⟨_, rfl⟩
    replace h := gLetI ex10 h
    refine lv_iinc (v := x10) (lv' := [(12, .int x10), (4, .long x9), (6, .long x8), (8, .long x7), (10, .long x6), (13, .long x5), (0, .ref (gB Γ + 4)), (1, .int l1), (3, .int l3)]) hx hb dX7_atLeast_75 hl (k := 8) rfl (by rw [ex10]; rfl) (by decide) rfl (fun ls hl => ?_)
    refine lv_goto (tgt := 15) hx hb dX7_atLeast_78 (by decide) ?_
    exact hF15 _ _ _ _ _ _ _ _ _ _ _ h hP hS (lv_sub hl [6, 7, 8, 1, 2, 3, 4, 0] rfl)
set_option maxHeartbeats 2000000 in
set_option maxRecDepth 20000 in
theorem bk_X7_atLeast_15 {p : Program} {l : Launch} {e : Env} {s : State} {m : MethodId} {args : Array Value} {below : List Frame} {meth : Method} {c : Code} {Γ : gE} (C0 : gCx p s m args meth c Γ RX7 cX7_atLeast 15 (some .long))   {z : Int64 × gG}   : ∀ (n : Nat) (l1 : Int32) (l3 : Int32) (l4 : Int64) (l6 : Int64) (l8 : Int64) (l10 : Int64) (l12 : Int32) (g : gG) (H : Heap) (locs : List Loc) (ls : Array Slot), fb_X7_atLeast_15 n l1 l3 l4 l6 l8 l10 l12 g = some z → va_P (gD Γ) gcls (lay Γ g) H → va_S (gA Γ) s.heap H locs → lv_has ls 15 [(0, .ref (gB Γ + 4)), (1, .int l1), (3, .int l3), (4, .long l4), (6, .long l6), (8, .long l8), (10, .long l10), (12, .int l12)] → W p l e (gRm 0 0) s m args below meth c H locs 0 0 (MQ below (gQl Γ z) args s 0 0 (gA Γ)) (F0 m 15 ls []) := by
  intro n
  induction n with
  | zero => intro l1 l3 l4 l6 l8 l10 l12 g H locs ls h hP hS hl; cases h
  | succ n ih => intro l1 l3 l4 l6 l8 l10 l12 g H locs ls h hP hS hl; exact bs_X7_atLeast_15 C0  ih h hP hS hl
set_option maxHeartbeats 2000000 in
set_option maxRecDepth 20000 in
theorem m_X7_atLeast (l : Launch) (Γ : gE)   (a1 : Int32) (a2 : Int32) (a3 : Int32) (g : gG) (z : Int64 × gG) (h : f_X7_atLeast a1 a2 a3 g = some z) : gMl l yX7_atLeast cX7_atLeast 15 (some .long) 0 0 Γ [.ref (gB Γ + 4), .int a1, .int a2, .int a3] g z := by
  unfold f_X7_atLeast at h
  refine gStart (own := RX7) (by decide +kernel) rfl (Nat.le_of_ble_eq_true rfl) ?_
  intro p e s m below meth c C0 ls hl hP
  have hS : va_S (gA Γ) s.heap s.heap [] := va_S.rf
  have hl : lv_has ls 15 [(0, .ref (gB Γ + 4)), (1, .int a1), (2, .int a2), (3, .int a3)] := hl
  obtain ⟨hx, hb, hml, hr, hown, hts, hK, hlk, hX⟩ := id C0
  refine lv_lconst (v := 0) hx hb dX7_atLeast_0 (by decide) ?_
  refine lv_lstore (lv' := [(4, .long (0 : Int64)), (0, .ref (gB Γ + 4)), (1, .int a1), (2, .int a2), (3, .int a3)]) hx hb dX7_atLeast_1 hl (by decide) rfl (fun ls hl => ?_)
  refine lv_lconst (v := 0) hx hb dX7_atLeast_3 (by decide) ?_
  refine lv_lstore (lv' := [(6, .long (0 : Int64)), (4, .long (0 : Int64)), (0, .ref (gB Γ + 4)), (1, .int a1), (2, .int a2), (3, .int a3)]) hx hb dX7_atLeast_4 hl (by decide) rfl (fun ls hl => ?_)
  refine lv_lconst (v := 0) hx hb dX7_atLeast_6 (by decide) ?_
  refine lv_lstore (lv' := [(8, .long (0 : Int64)), (6, .long (0 : Int64)), (4, .long (0 : Int64)), (0, .ref (gB Γ + 4)), (1, .int a1), (2, .int a2), (3, .int a3)]) hx hb dX7_atLeast_7 hl (by decide) rfl (fun ls hl => ?_)
  refine lv_lconst (v := 0) hx hb dX7_atLeast_9 (by decide) ?_
  refine lv_lstore (lv' := [(10, .long (0 : Int64)), (8, .long (0 : Int64)), (6, .long (0 : Int64)), (4, .long (0 : Int64)), (0, .ref (gB Γ + 4)), (1, .int a1), (2, .int a2), (3, .int a3)]) hx hb dX7_atLeast_10 hl (by decide) rfl (fun ls hl => ?_)
  refine lv_iload_n hx hb dX7_atLeast_12 rfl (lv_at hl 6 rfl) ?_
  refine lv_istore (lv' := [(12, .int a2), (10, .long (0 : Int64)), (8, .long (0 : Int64)), (6, .long (0 : Int64)), (4, .long (0 : Int64)), (0, .ref (gB Γ + 4)), (1, .int a1), (2, .int a2), (3, .int a3)]) hx hb dX7_atLeast_13 hl (by decide) rfl (fun ls hl => ?_)
  exact bk_X7_atLeast_15 C0  gFuel _ _ _ _ _ _ _ _ _ _ _ h hP hS (lv_sub hl [5, 6, 8, 4, 3, 2, 1, 0] rfl)
set_option maxHeartbeats 2000000 in
set_option maxRecDepth 20000 in
theorem bs_X7_joinByCount_24 {p : Program} {l : Launch} {e : Env} {s : State} {m : MethodId} {args : Array Value} {below : List Frame} {meth : Method} {c : Code} {Γ : gE} (C0 : gCx p s m args meth c Γ RX7 cX7_joinByCount 5 none)   {z : Unit × gG} {F24 : Int32 → Int32 → Int32 → gG → Option (Unit × gG)} {l1 : Int32} {l3 : Int32} {l4 : Int32} {g : gG} {H : Heap} {locs : List Loc} {ls : Array Slot} (hF24 : ∀ (l1 : Int32) (l3 : Int32) (l4 : Int32) (g : gG) (H : Heap) (locs : List Loc) (ls : Array Slot), F24 l1 l3 l4 g = some z → va_P (gD Γ) gcls (lay Γ g) H → va_S (gA Γ) s.heap H locs → lv_has ls 5 [(0, .ref (gB Γ + 4)), (1, .int l1), (3, .int l3), (4, .int l4)] → W p l e (gRm 1 34) s m args below meth c H locs 0 0 (MQ below (gQv Γ z) args s 0 0 (gA Γ)) (F0 m 24 ls [])) (h : fs_X7_joinByCount_24 F24 l1 l3 l4 g = some z) (hP : va_P (gD Γ) gcls (lay Γ g) H) (hS : va_S (gA Γ) s.heap H locs) (hl : lv_has ls 5 [(0, .ref (gB Γ + 4)), (1, .int l1), (3, .int l3), (4, .int l4)]) : W p l e (gRm 1 34) s m args below meth c H locs 0 0 (MQ below (gQv Γ z) args s 0 0 (gA Γ)) (F0 m 24 ls []) := by
  unfold fs_X7_joinByCount_24 at h
  obtain ⟨hx, hb, hml, hr, hown, hts, hK, hlk, hX⟩ := id C0
  refine lv_iload hx hb dX7_joinByCount_24 (lv_at hl 3 rfl) ?_
  refine lv_bipush (v := 8) hx hb dX7_joinByCount_26 (by decide) ?_
  refine lv_icmp_ge (tgt := 57) hx hb dX7_joinByCount_28 (by decide) (fun c1 => ?_) (fun c1 => ?_)
  · replace h := gpos c1 h
    refine lv_aload_n hx hb dX7_joinByCount_57 rfl (lv_at hl 0 rfl) ?_
    refine lv_iload_n hx hb dX7_joinByCount_58 rfl (lv_at hl 2 rfl) ?_
    refine lv_iconst (v := 1) hx hb dX7_joinByCount_59 (by decide) ?_
    refine lv_iadd hx hb dX7_joinByCount_60 ?_
    refine gp_7_1 hx hb hown hts hK hP hS wf_X7_15 dX7_joinByCount_61 h (fun H locs g2 h hP hS => ?_)
    exact gvret hx hb hr hlk hP hS dX7_joinByCount_64 h
  · replace h := gneg c1 h
    refine lv_aload_n hx hb dX7_joinByCount_31 rfl (lv_at hl 0 rfl) ?_
    refine gf_7_0 hx hb hown hts hK hP wf_X7_9 dX7_joinByCount_32 ?_
    refine lv_iload_n hx hb dX7_joinByCount_35 rfl (lv_at hl 2 rfl) ?_
    refine lv_bipush (v := 8) hx hb dX7_joinByCount_36 (by decide) ?_
    refine lv_imul hx hb dX7_joinByCount_38 ?_
    refine lv_iload hx hb dX7_joinByCount_39 (lv_at hl 3 rfl) ?_
    refine lv_iadd hx hb dX7_joinByCount_41 ?_
    refine lv_aload_n hx hb dX7_joinByCount_42 rfl (lv_at hl 0 rfl) ?_
    refine lv_iload_n hx hb dX7_joinByCount_43 rfl (lv_at hl 1 rfl) ?_
    refine lv_iload_n hx hb dX7_joinByCount_44 rfl (lv_at hl 2 rfl) ?_
    refine lv_iload hx hb dX7_joinByCount_45 (lv_at hl 3 rfl) ?_
    refine gCVl (rest := [.int ((l3 * (8 : Int32)) + l4), .ref (gB Γ + 5)]) C0 cal_X7_atLeast wl_X7_32 wi_X7_atLeast ws_X7_atLeast ⟨Nat.le_of_ble_eq_true rfl, Nat.le_of_ble_eq_true rfl⟩ ⟨Nat.le_of_ble_eq_true rfl, Nat.le_of_ble_eq_true rfl⟩ grv_7 [.int l1, .int l3, .int l4] rfl (Nat.le_of_ble_eq_true rfl) hP hS hl.1 dX7_joinByCount_47 h (fun u hu => m_X7_atLeast l Γ l1 l3 l4 g u hu) (fun u3 H locs h hP hS => ?_) rfl
    refine gJst hx hb hK hP hS (is_5 Γ) dX7_joinByCount_50 h (fun H locs g4 h hP hS => ?_)
    obtain ⟨x5, ex5⟩ : ∃ y : Int32, y = l4 + (1 : Int32) := ⟨_, rfl⟩
    replace h := gLetI ex5 h
    refine lv_iinc (v := x5) (lv' := [(4, .int x5), (0, .ref (gB Γ + 4)), (1, .int l1), (3, .int l3)]) hx hb dX7_joinByCount_51 hl (k := 3) rfl (by rw [ex5]; rfl) (by decide) rfl (fun ls hl => ?_)
    refine lv_goto (tgt := 24) hx hb dX7_joinByCount_54 (by decide) ?_
    exact hF24 _ _ _ _ _ _ _ h hP hS (lv_sub hl [1, 2, 3, 0] rfl)
set_option maxHeartbeats 2000000 in
set_option maxRecDepth 20000 in
theorem bk_X7_joinByCount_24 {p : Program} {l : Launch} {e : Env} {s : State} {m : MethodId} {args : Array Value} {below : List Frame} {meth : Method} {c : Code} {Γ : gE} (C0 : gCx p s m args meth c Γ RX7 cX7_joinByCount 5 none)   {z : Unit × gG}   : ∀ (n : Nat) (l1 : Int32) (l3 : Int32) (l4 : Int32) (g : gG) (H : Heap) (locs : List Loc) (ls : Array Slot), fb_X7_joinByCount_24 n l1 l3 l4 g = some z → va_P (gD Γ) gcls (lay Γ g) H → va_S (gA Γ) s.heap H locs → lv_has ls 5 [(0, .ref (gB Γ + 4)), (1, .int l1), (3, .int l3), (4, .int l4)] → W p l e (gRm 1 34) s m args below meth c H locs 0 0 (MQ below (gQv Γ z) args s 0 0 (gA Γ)) (F0 m 24 ls []) := by
  intro n
  induction n with
  | zero => intro l1 l3 l4 g H locs ls h hP hS hl; cases h
  | succ n ih => intro l1 l3 l4 g H locs ls h hP hS hl; exact bs_X7_joinByCount_24 C0  ih h hP hS hl
set_option maxHeartbeats 2000000 in
set_option maxRecDepth 20000 in
theorem m_X7_joinByCount (l : Launch) (Γ : gE)   (a1 : Int32) (a2 : Int32) (g : gG) (z : Unit × gG) (h : f_X7_joinByCount a1 a2 g = some z) : gMv l yX7_joinByCount cX7_joinByCount 5 none 1 34 Γ [.ref (gB Γ + 4), .int a1, .int a2] g z := by
  unfold f_X7_joinByCount at h
  refine gStart (own := RX7) (by decide +kernel) rfl (Nat.le_of_ble_eq_true rfl) ?_
  intro p e s m below meth c C0 ls hl hP
  have hS : va_S (gA Γ) s.heap s.heap [] := va_S.rf
  have hl : lv_has ls 5 [(0, .ref (gB Γ + 4)), (1, .int a1), (2, .int a2)] := hl
  obtain ⟨hx, hb, hml, hr, hown, hts, hK, hlk, hX⟩ := id C0
  refine lv_iload_n hx hb dX7_joinByCount_0 rfl (lv_at hl 2 rfl) ?_
  refine lv_iconst (v := 1) hx hb dX7_joinByCount_1 (by decide) ?_
  refine lv_icmp_lt (tgt := 13) hx hb dX7_joinByCount_2 (by decide) (fun c1 => ?_) (fun c1 => ?_)
  · replace h := gpos c1 h
    exact gvret hx hb hr hlk hP hS dX7_joinByCount_13 h
  · replace h := gneg c1 h
    refine lv_iload_n hx hb dX7_joinByCount_5 rfl (lv_at hl 2 rfl) ?_
    refine lv_aload_n hx hb dX7_joinByCount_6 rfl (lv_at hl 0 rfl) ?_
    refine gf_7_1 hx hb hown hts hK hP wf_X7_15 dX7_joinByCount_7 ?_
    refine lv_icmp_le (tgt := 14) hx hb dX7_joinByCount_10 (by decide) (fun c2 => ?_) (fun c2 => ?_)
    · replace h := gpos c2 h
      refine lv_aload_n hx hb dX7_joinByCount_14 rfl (lv_at hl 0 rfl) ?_
      refine gf_7_1 hx hb hown hts hK hP wf_X7_15 dX7_joinByCount_15 ?_
      refine lv_iload_n hx hb dX7_joinByCount_18 rfl (lv_at hl 2 rfl) ?_
      refine lv_isub hx hb dX7_joinByCount_19 ?_
      refine lv_topi (fun x3 ex3 => ?_)
      replace h := gLetI ex3 h
      refine lv_istore_n (lv' := [(3, .int x3), (0, .ref (gB Γ + 4)), (1, .int a1), (2, .int a2)]) hx hb dX7_joinByCount_20 rfl hl (by decide) rfl (fun ls hl => ?_)
      refine lv_iconst (v := 0) hx hb dX7_joinByCount_21 (by decide) ?_
      refine lv_istore (lv' := [(4, .int (0 : Int32)), (3, .int x3), (0, .ref (gB Γ + 4)), (1, .int a1), (2, .int a2)]) hx hb dX7_joinByCount_22 hl (by decide) rfl (fun ls hl => ?_)
      exact bk_X7_joinByCount_24 C0  gFuel _ _ _ _ _ _ _ h hP hS (lv_sub hl [2, 3, 1, 0] rfl)
    · replace h := gneg c2 h
      exact gvret hx hb hr hlk hP hS dX7_joinByCount_13 h
set_option maxHeartbeats 2000000 in
set_option maxRecDepth 20000 in
theorem m_X7_result (l : Launch) (Γ : gE)   (a1 : Int32) (g : gG) (z : Int64 × gG) (h : f_X7_result a1 g = some z) : gMl l yX7_result cX7_result 2 (some .long) 0 0 Γ [.ref (gB Γ + 4), .int a1] g z := by
  unfold f_X7_result at h
  refine gStart (own := RX7) (by decide +kernel) rfl (Nat.le_of_ble_eq_true rfl) ?_
  intro p e s m below meth c C0 ls hl hP
  have hS : va_S (gA Γ) s.heap s.heap [] := va_S.rf
  have hl : lv_has ls 2 [(0, .ref (gB Γ + 4)), (1, .int a1)] := hl
  obtain ⟨hx, hb, hml, hr, hown, hts, hK, hlk, hX⟩ := id C0
  refine lv_iload_n hx hb dX7_result_0 rfl (lv_at hl 1 rfl) ?_
  refine lv_if_lt (tgt := 19) hx hb dX7_result_1 (by decide) (fun c1 => ?_) (fun c1 => ?_)
  · replace h := gpos c1 h
    refine lv_lconst (v := 0) hx hb dX7_result_19 (by decide) ?_
    exact glret hx hb hr hlk hP hS dX7_result_20 h
  · replace h := gneg c1 h
    refine lv_iload_n hx hb dX7_result_4 rfl (lv_at hl 1 rfl) ?_
    refine lv_bipush (v := 8) hx hb dX7_result_5 (by decide) ?_
    refine lv_icmp_ge (tgt := 19) hx hb dX7_result_7 (by decide) (fun c2 => ?_) (fun c2 => ?_)
    · replace h := gpos c2 h
      refine lv_lconst (v := 0) hx hb dX7_result_19 (by decide) ?_
      exact glret hx hb hr hlk hP hS dX7_result_20 h
    · replace h := gneg c2 h
      refine lv_aload_n hx hb dX7_result_10 rfl (lv_at hl 0 rfl) ?_
      refine gf_7_0 hx hb hown hts hK hP wf_X7_9 dX7_result_11 ?_
      refine lv_iload_n hx hb dX7_result_14 rfl (lv_at hl 1 rfl) ?_
      refine gJld hx hb hK hP (is_5 Γ) dX7_result_15 h (fun h => ?_)
      refine lv_goto (tgt := 20) hx hb dX7_result_16 (by decide) ?_
      exact glret hx hb hr hlk hP hS dX7_result_20 h
set_option maxHeartbeats 2000000 in
set_option maxRecDepth 20000 in
theorem bs_X2_keepCondition_2 {p : Program} {l : Launch} {e : Env} {s : State} {m : MethodId} {args : Array Value} {below : List Frame} {meth : Method} {c : Code} {Γ : gE} (C0 : gCx p s m args meth c Γ RX2 cX2_keepCondition 2 none)   {z : Unit × gG} {F2 : Int32 → gG → Option (Unit × gG)} {l1 : Int32} {g : gG} {H : Heap} {locs : List Loc} {ls : Array Slot} (hF2 : ∀ (l1 : Int32) (g : gG) (H : Heap) (locs : List Loc) (ls : Array Slot), F2 l1 g = some z → va_P (gD Γ) gcls (lay Γ g) H → va_S (gA Γ) s.heap H locs → lv_has ls 2 [(0, .ref (gB Γ + 3)), (1, .int l1)] → W p l e (gRm 1 21) s m args below meth c H locs 0 0 (MQ below (gQv Γ z) args s 0 0 (gA Γ)) (F0 m 2 ls [])) (h : fs_X2_keepCondition_2 F2 l1 g = some z) (hP : va_P (gD Γ) gcls (lay Γ g) H) (hS : va_S (gA Γ) s.heap H locs) (hl : lv_has ls 2 [(0, .ref (gB Γ + 3)), (1, .int l1)]) : W p l e (gRm 1 21) s m args below meth c H locs 0 0 (MQ below (gQv Γ z) args s 0 0 (gA Γ)) (F0 m 2 ls []) := by
  unfold fs_X2_keepCondition_2 at h
  obtain ⟨hx, hb, hml, hr, hown, hts, hK, hlk, hX⟩ := id C0
  refine lv_iload_n hx hb dX2_keepCondition_2 rfl (lv_at hl 1 rfl) ?_
  refine lv_bipush (v := 8) hx hb dX2_keepCondition_3 (by decide) ?_
  refine lv_icmp_ge (tgt := 38) hx hb dX2_keepCondition_5 (by decide) (fun c1 => ?_) (fun c1 => ?_)
  · replace h := gpos c1 h
    exact gvret hx hb hr hlk hP hS dX2_keepCondition_38 h
  · replace h := gneg c1 h
    refine lv_aload_n hx hb dX2_keepCondition_8 rfl (lv_at hl 0 rfl) ?_
    refine gf_2_3 hx hb hown hts hK hP wf_X2_25 dX2_keepCondition_9 ?_
    refine lv_aload_n hx hb dX2_keepCondition_12 rfl (lv_at hl 0 rfl) ?_
    refine gf_2_10 hx hb hown hts hK hP wf_X2_45 dX2_keepCondition_13 ?_
    refine lv_iconst (v := 1) hx hb dX2_keepCondition_16 (by decide) ?_
    refine lv_isub hx hb dX2_keepCondition_17 ?_
    refine lv_bipush (v := 8) hx hb dX2_keepCondition_18 (by decide) ?_
    refine lv_imul hx hb dX2_keepCondition_20 ?_
    refine lv_iload_n hx hb dX2_keepCondition_21 rfl (lv_at hl 1 rfl) ?_
    refine lv_iadd hx hb dX2_keepCondition_22 ?_
    refine lv_aload_n hx hb dX2_keepCondition_23 rfl (lv_at hl 0 rfl) ?_
    refine gf_2_0 hx hb hown hts hK hP wf_X2_12 dX2_keepCondition_24 ?_
    refine lv_iload_n hx hb dX2_keepCondition_27 rfl (lv_at hl 1 rfl) ?_
    refine gCVl (rest := [.int ((((g.1 3 10) - (1 : Int32)) * (8 : Int32)) + l1), .ref (gB Γ + 8)]) C0 cal_X7_result wl_X2_124 wi_X7_result ws_X7_result ⟨Nat.le_of_ble_eq_true rfl, Nat.le_of_ble_eq_true rfl⟩ ⟨Nat.le_of_ble_eq_true rfl, Nat.le_of_ble_eq_true rfl⟩ grv_7 [.int l1] rfl (Nat.le_of_ble_eq_true rfl) hP hS hl.1 dX2_keepCondition_28 h (fun u hu => m_X7_result l Γ l1 g u hu) (fun u2 H locs h hP hS => ?_) rfl
    refine gJst hx hb hK hP hS (is_8 Γ) dX2_keepCondition_31 h (fun H locs g3 h hP hS => ?_)
    obtain ⟨x4, ex4⟩ : ∃ y : Int32, y = l1 + (1 : Int32) := ⟨_, rfl⟩
    replace h := gLetI ex4 h
    refine lv_iinc (v := x4) (lv' := [(1, .int x4), (0, .ref (gB Γ + 3))]) hx hb dX2_keepCondition_32 hl (k := 1) rfl (by rw [ex4]; rfl) (by decide) rfl (fun ls hl => ?_)
    refine lv_goto (tgt := 2) hx hb dX2_keepCondition_35 (by decide) ?_
    exact hF2 _ _ _ _ _ h hP hS (lv_sub hl [1, 0] rfl)
set_option maxHeartbeats 2000000 in
set_option maxRecDepth 20000 in
theorem bk_X2_keepCondition_2 {p : Program} {l : Launch} {e : Env} {s : State} {m : MethodId} {args : Array Value} {below : List Frame} {meth : Method} {c : Code} {Γ : gE} (C0 : gCx p s m args meth c Γ RX2 cX2_keepCondition 2 none)   {z : Unit × gG}   : ∀ (n : Nat) (l1 : Int32) (g : gG) (H : Heap) (locs : List Loc) (ls : Array Slot), fb_X2_keepCondition_2 n l1 g = some z → va_P (gD Γ) gcls (lay Γ g) H → va_S (gA Γ) s.heap H locs → lv_has ls 2 [(0, .ref (gB Γ + 3)), (1, .int l1)] → W p l e (gRm 1 21) s m args below meth c H locs 0 0 (MQ below (gQv Γ z) args s 0 0 (gA Γ)) (F0 m 2 ls []) := by
  intro n
  induction n with
  | zero => intro l1 g H locs ls h hP hS hl; cases h
  | succ n ih => intro l1 g H locs ls h hP hS hl; exact bs_X2_keepCondition_2 C0  ih h hP hS hl
set_option maxHeartbeats 2000000 in
set_option maxRecDepth 20000 in
theorem m_X2_keepCondition (l : Launch) (Γ : gE)    (g : gG) (z : Unit × gG) (h : f_X2_keepCondition g = some z) : gMv l yX2_keepCondition cX2_keepCondition 2 none 1 21 Γ [.ref (gB Γ + 3)] g z := by
  unfold f_X2_keepCondition at h
  refine gStart (own := RX2) (by decide +kernel) rfl (Nat.le_of_ble_eq_true rfl) ?_
  intro p e s m below meth c C0 ls hl hP
  have hS : va_S (gA Γ) s.heap s.heap [] := va_S.rf
  have hl : lv_has ls 2 [(0, .ref (gB Γ + 3))] := hl
  obtain ⟨hx, hb, hml, hr, hown, hts, hK, hlk, hX⟩ := id C0
  refine lv_iconst (v := 0) hx hb dX2_keepCondition_0 (by decide) ?_
  refine lv_istore_n (lv' := [(1, .int (0 : Int32)), (0, .ref (gB Γ + 3))]) hx hb dX2_keepCondition_1 rfl hl (by decide) rfl (fun ls hl => ?_)
  exact bk_X2_keepCondition_2 C0  gFuel _ _ _ _ _ h hP hS (lv_sub hl [1, 0] rfl)
set_option maxHeartbeats 2000000 in
set_option maxRecDepth 20000 in
theorem bs_X2_takesJoin_186 {p : Program} {l : Launch} {e : Env} {s : State} {m : MethodId} {args : Array Value} {below : List Frame} {meth : Method} {c : Code} {Γ : gE} (C0 : gCx p s m args meth c Γ RX2 cX2_takesJoin 4 (some .boolean))   {z : Int32 × gG}  {l1 : Int32} {g : gG} {H : Heap} {locs : List Loc} {ls : Array Slot}  (h : fs_X2_takesJoin_186 l1 g = some z) (hP : va_P (gD Γ) gcls (lay Γ g) H) (hS : va_S (gA Γ) s.heap H locs) (hl : lv_has ls 4 [(0, .ref (gB Γ + 3)), (1, .int l1)]) : W p l e (gRm 3 61) s m args below meth c H locs 0 0 (MQ below (gQi Γ z) args s 0 0 (gA Γ)) (F0 m 186 ls []) := by
  unfold fs_X2_takesJoin_186 at h
  obtain ⟨hx, hb, hml, hr, hown, hts, hK, hlk, hX⟩ := id C0
  refine lv_iload_n hx hb dX2_takesJoin_186 rfl (lv_at hl 1 rfl) ?_
  refine lv_bipush (v := 47) hx hb dX2_takesJoin_187 (by decide) ?_
  refine lv_icmp_ne (tgt := 212) hx hb dX2_takesJoin_189 (by decide) (fun c1 => ?_) (fun c1 => ?_)
  · replace h := gneg c1 h
    refine lv_iconst (v := 0) hx hb dX2_takesJoin_212 (by decide) ?_
    exact gzret0 hx hb hr hlk hP hS rfl dX2_takesJoin_213 h
  · replace h := gpos c1 h
    refine lv_aload_n hx hb dX2_takesJoin_192 rfl (lv_at hl 0 rfl) ?_
    refine gf_2_9 hx hb hown hts hK hP wf_X2_66 dX2_takesJoin_193 ?_
    refine lv_if_ne (tgt := 212) hx hb dX2_takesJoin_196 (by decide) (fun c2 => ?_) (fun c2 => ?_)
    · replace h := gneg c2 h
      refine lv_iconst (v := 0) hx hb dX2_takesJoin_212 (by decide) ?_
      exact gzret0 hx hb hr hlk hP hS rfl dX2_takesJoin_213 h
    · replace h := gpos c2 h
      refine lv_aload_n hx hb dX2_takesJoin_199 rfl (lv_at hl 0 rfl) ?_
      refine gCVv (rest := []) C0 cal_X2_endCondition wl_X2_69 wi_X2_endCondition ws_X2_endCondition ⟨Nat.le_of_ble_eq_true rfl, Nat.le_of_ble_eq_true rfl⟩ ⟨Nat.le_of_ble_eq_true rfl, Nat.le_of_ble_eq_true rfl⟩ grv_2 [] rfl (Nat.le_of_ble_eq_true rfl) hP hS hl.1 dX2_takesJoin_200 h (fun u hu => m_X2_endCondition l Γ g u hu) (fun u3 H locs h hP hS => ?_) rfl
      refine lv_aload_n hx hb dX2_takesJoin_203 rfl (lv_at hl 0 rfl) ?_
      refine gCVv (rest := []) C0 cal_X2_keepCondition wl_X2_72 wi_X2_keepCondition ws_X2_keepCondition ⟨Nat.le_of_ble_eq_true rfl, Nat.le_of_ble_eq_true rfl⟩ ⟨Nat.le_of_ble_eq_true rfl, Nat.le_of_ble_eq_true rfl⟩ grv_2 [] rfl (Nat.le_of_ble_eq_true rfl) hP hS hl.1 dX2_takesJoin_204 h (fun u hu => m_X2_keepCondition l Γ u3.2 u hu) (fun u4 H locs h hP hS => ?_) rfl
      refine lv_aload_n hx hb dX2_takesJoin_207 rfl (lv_at hl 0 rfl) ?_
      refine gCVi (rest := []) C0 cal_X2_beginsPlace wl_X2_75 wi_X2_beginsPlace ws_X2_beginsPlace ⟨Nat.le_of_ble_eq_true rfl, Nat.le_of_ble_eq_true rfl⟩ ⟨Nat.le_of_ble_eq_true rfl, Nat.le_of_ble_eq_true rfl⟩ grv_2 [] rfl (Nat.le_of_ble_eq_true rfl) hP hS hl.1 dX2_takesJoin_208 h (fun u hu => m_X2_beginsPlace l Γ u4.2 u hu) (fun u5 H locs h hP hS => ?_) rfl
      exact gzret hx hb hr hlk hP hS dX2_takesJoin_211 h
set_option maxHeartbeats 2000000 in
set_option maxRecDepth 20000 in
theorem bs_X2_takesJoin_156 {p : Program} {l : Launch} {e : Env} {s : State} {m : MethodId} {args : Array Value} {below : List Frame} {meth : Method} {c : Code} {Γ : gE} (C0 : gCx p s m args meth c Γ RX2 cX2_takesJoin 4 (some .boolean))   {z : Int32 × gG}  {l1 : Int32} {l3 : Int32} {g : gG} {H : Heap} {locs : List Loc} {ls : Array Slot}  (h : fs_X2_takesJoin_156 l1 l3 g = some z) (hP : va_P (gD Γ) gcls (lay Γ g) H) (hS : va_S (gA Γ) s.heap H locs) (hl : lv_has ls 4 [(0, .ref (gB Γ + 3)), (1, .int l1), (3, .int l3)]) : W p l e (gRm 3 61) s m args below meth c H locs 0 0 (MQ below (gQi Γ z) args s 0 0 (gA Γ)) (F0 m 156 ls []) := by
  unfold fs_X2_takesJoin_156 at h
  obtain ⟨hx, hb, hml, hr, hown, hts, hK, hlk, hX⟩ := id C0
  refine lv_iload_n hx hb dX2_takesJoin_156 rfl (lv_at hl 1 rfl) ?_
  refine lv_bipush (v := 41) hx hb dX2_takesJoin_157 (by decide) ?_
  refine lv_icmp_ne (tgt := 186) hx hb dX2_takesJoin_159 (by decide) (fun c1 => ?_) (fun c1 => ?_)
  · replace h := gneg c1 h
    exact bs_X2_takesJoin_186 C0  h hP hS (lv_sub hl [0, 1] rfl)
  · replace h := gpos c1 h
    refine lv_iload_n hx hb dX2_takesJoin_162 rfl (lv_at hl 2 rfl) ?_
    refine lv_if_eq (tgt := 186) hx hb dX2_takesJoin_163 (by decide) (fun c2 => ?_) (fun c2 => ?_)
    · replace h := gpos c2 h
      exact bs_X2_takesJoin_186 C0  h hP hS (lv_sub hl [0, 1] rfl)
    · replace h := gneg c2 h
      refine lv_aload_n hx hb dX2_takesJoin_166 rfl (lv_at hl 0 rfl) ?_
      refine gCVv (rest := []) C0 cal_X2_endCondition wl_X2_69 wi_X2_endCondition ws_X2_endCondition ⟨Nat.le_of_ble_eq_true rfl, Nat.le_of_ble_eq_true rfl⟩ ⟨Nat.le_of_ble_eq_true rfl, Nat.le_of_ble_eq_true rfl⟩ grv_2 [] rfl (Nat.le_of_ble_eq_true rfl) hP hS hl.1 dX2_takesJoin_167 h (fun u hu => m_X2_endCondition l Γ g u hu) (fun u3 H locs h hP hS => ?_) rfl
      refine lv_aload_n hx hb dX2_takesJoin_170 rfl (lv_at hl 0 rfl) ?_
      refine lv_dup hx hb dX2_takesJoin_171 rfl ?_
      refine gf_2_9 hx hb hown hts hK hP wf_X2_66 dX2_takesJoin_172 ?_
      refine lv_iconst (v := 1) hx hb dX2_takesJoin_175 (by decide) ?_
      refine lv_isub hx hb dX2_takesJoin_176 ?_
      refine gp_2_9 hx hb hown hts hK hP hS wf_X2_66 dX2_takesJoin_177 h (fun H locs g4 h hP hS => ?_)
      refine lv_aload_n hx hb dX2_takesJoin_180 rfl (lv_at hl 0 rfl) ?_
      refine gCVv (rest := []) C0 cal_X2_endPart wl_X2_105 wi_X2_endPart ws_X2_endPart ⟨Nat.le_of_ble_eq_true rfl, Nat.le_of_ble_eq_true rfl⟩ ⟨Nat.le_of_ble_eq_true rfl, Nat.le_of_ble_eq_true rfl⟩ grv_2 [] rfl (Nat.le_of_ble_eq_true rfl) hP hS hl.1 dX2_takesJoin_181 h (fun u hu => m_X2_endPart l Γ g4 u hu) (fun u5 H locs h hP hS => ?_) rfl
      refine lv_iconst (v := 1) hx hb dX2_takesJoin_184 (by decide) ?_
      exact gzret0 hx hb hr hlk hP hS rfl dX2_takesJoin_185 h
set_option maxHeartbeats 2000000 in
set_option maxRecDepth 20000 in
theorem bs_X2_takesJoin_101 {p : Program} {l : Launch} {e : Env} {s : State} {m : MethodId} {args : Array Value} {below : List Frame} {meth : Method} {c : Code} {Γ : gE} (C0 : gCx p s m args meth c Γ RX2 cX2_takesJoin 4 (some .boolean))   {z : Int32 × gG}  {l1 : Int32} {l2 : Int32} {l3 : Int32} {g : gG} {H : Heap} {locs : List Loc} {ls : Array Slot}  (h : fs_X2_takesJoin_101 l1 l2 l3 g = some z) (hP : va_P (gD Γ) gcls (lay Γ g) H) (hS : va_S (gA Γ) s.heap H locs) (hl : lv_has ls 4 [(0, .ref (gB Γ + 3)), (1, .int l1), (2, .int l2), (3, .int l3)]) : W p l e (gRm 3 61) s m args below meth c H locs 0 0 (MQ below (gQi Γ z) args s 0 0 (gA Γ)) (F0 m 101 ls []) := by
  unfold fs_X2_takesJoin_101 at h
  obtain ⟨hx, hb, hml, hr, hown, hts, hK, hlk, hX⟩ := id C0
  refine lv_iload_n hx hb dX2_takesJoin_101 rfl (lv_at hl 1 rfl) ?_
  refine lv_bipush (v := 93) hx hb dX2_takesJoin_102 (by decide) ?_
  refine lv_icmp_ne (tgt := 156) hx hb dX2_takesJoin_104 (by decide) (fun c1 => ?_) (fun c1 => ?_)
  · replace h := gneg c1 h
    exact bs_X2_takesJoin_156 C0  h hP hS (lv_sub hl [0, 1, 3] rfl)
  · replace h := gpos c1 h
    refine lv_iload_n hx hb dX2_takesJoin_107 rfl (lv_at hl 2 rfl) ?_
    refine lv_if_eq (tgt := 156) hx hb dX2_takesJoin_108 (by decide) (fun c2 => ?_) (fun c2 => ?_)
    · replace h := gpos c2 h
      exact bs_X2_takesJoin_156 C0  h hP hS (lv_sub hl [0, 1, 3] rfl)
    · replace h := gneg c2 h
      refine lv_aload_n hx hb dX2_takesJoin_111 rfl (lv_at hl 0 rfl) ?_
      refine gCVv (rest := []) C0 cal_X2_endCondition wl_X2_69 wi_X2_endCondition ws_X2_endCondition ⟨Nat.le_of_ble_eq_true rfl, Nat.le_of_ble_eq_true rfl⟩ ⟨Nat.le_of_ble_eq_true rfl, Nat.le_of_ble_eq_true rfl⟩ grv_2 [] rfl (Nat.le_of_ble_eq_true rfl) hP hS hl.1 dX2_takesJoin_112 h (fun u hu => m_X2_endCondition l Γ g u hu) (fun u3 H locs h hP hS => ?_) rfl
      refine lv_aload_n hx hb dX2_takesJoin_115 rfl (lv_at hl 0 rfl) ?_
      refine gf_2_0 hx hb hown hts hK hP wf_X2_12 dX2_takesJoin_116 ?_
      refine lv_aload_n hx hb dX2_takesJoin_119 rfl (lv_at hl 0 rfl) ?_
      refine gf_2_4 hx hb hown hts hK hP wf_X2_29 dX2_takesJoin_120 ?_
      refine lv_aload_n hx hb dX2_takesJoin_123 rfl (lv_at hl 0 rfl) ?_
      refine gf_2_9 hx hb hown hts hK hP wf_X2_66 dX2_takesJoin_124 ?_
      refine gIld hx hb hK hP is_9 dX2_takesJoin_127 h (fun h => ?_)
      refine lv_aload_n hx hb dX2_takesJoin_128 rfl (lv_at hl 0 rfl) ?_
      refine gf_2_5 hx hb hown hts hK hP wf_X2_32 dX2_takesJoin_129 ?_
      refine lv_aload_n hx hb dX2_takesJoin_132 rfl (lv_at hl 0 rfl) ?_
      refine gf_2_9 hx hb hown hts hK hP wf_X2_66 dX2_takesJoin_133 ?_
      refine gIld hx hb hK hP is_10 dX2_takesJoin_136 h (fun h => ?_)
      refine gCVv (rest := []) C0 cal_X7_joinByCount wl_X2_111 wi_X7_joinByCount ws_X7_joinByCount ⟨Nat.le_of_ble_eq_true rfl, Nat.le_of_ble_eq_true rfl⟩ ⟨Nat.le_of_ble_eq_true rfl, Nat.le_of_ble_eq_true rfl⟩ grv_7 [.int (u3.2.1 9 (u3.2.1 3 9).toNatClampNeg), .int (u3.2.1 10 (u3.2.1 3 9).toNatClampNeg)] rfl (Nat.le_of_ble_eq_true rfl) hP hS hl.1 dX2_takesJoin_137 h (fun u hu => m_X7_joinByCount l Γ (u3.2.1 9 (u3.2.1 3 9).toNatClampNeg) (u3.2.1 10 (u3.2.1 3 9).toNatClampNeg) u3.2 u hu) (fun u4 H locs h hP hS => ?_) rfl
      refine lv_aload_n hx hb dX2_takesJoin_140 rfl (lv_at hl 0 rfl) ?_
      refine lv_dup hx hb dX2_takesJoin_141 rfl ?_
      refine gf_2_9 hx hb hown hts hK hP wf_X2_66 dX2_takesJoin_142 ?_
      refine lv_iconst (v := 1) hx hb dX2_takesJoin_145 (by decide) ?_
      refine lv_isub hx hb dX2_takesJoin_146 ?_
      refine gp_2_9 hx hb hown hts hK hP hS wf_X2_66 dX2_takesJoin_147 h (fun H locs g5 h hP hS => ?_)
      refine lv_aload_n hx hb dX2_takesJoin_150 rfl (lv_at hl 0 rfl) ?_
      refine gCVv (rest := []) C0 cal_X2_endPart wl_X2_105 wi_X2_endPart ws_X2_endPart ⟨Nat.le_of_ble_eq_true rfl, Nat.le_of_ble_eq_true rfl⟩ ⟨Nat.le_of_ble_eq_true rfl, Nat.le_of_ble_eq_true rfl⟩ grv_2 [] rfl (Nat.le_of_ble_eq_true rfl) hP hS hl.1 dX2_takesJoin_151 h (fun u hu => m_X2_endPart l Γ g5 u hu) (fun u6 H locs h hP hS => ?_) rfl
      refine lv_iconst (v := 1) hx hb dX2_takesJoin_154 (by decide) ?_
      exact gzret0 hx hb hr hlk hP hS rfl dX2_takesJoin_155 h
set_option maxHeartbeats 2000000 in
set_option maxRecDepth 20000 in
theorem bs_X2_takesJoin_49 {p : Program} {l : Launch} {e : Env} {s : State} {m : MethodId} {args : Array Value} {below : List Frame} {meth : Method} {c : Code} {Γ : gE} (C0 : gCx p s m args meth c Γ RX2 cX2_takesJoin 4 (some .boolean))   {z : Int32 × gG}  {l1 : Int32} {l2 : Int32} {s0 : Int32} {g : gG} {H : Heap} {locs : List Loc} {ls : Array Slot}  (h : fs_X2_takesJoin_49 l1 l2 s0 g = some z) (hP : va_P (gD Γ) gcls (lay Γ g) H) (hS : va_S (gA Γ) s.heap H locs) (hl : lv_has ls 4 [(0, .ref (gB Γ + 3)), (1, .int l1), (2, .int l2)]) : W p l e (gRm 3 61) s m args below meth c H locs 0 0 (MQ below (gQi Γ z) args s 0 0 (gA Γ)) (F0 m 49 ls [.int s0]) := by
  unfold fs_X2_takesJoin_49 at h
  obtain ⟨hx, hb, hml, hr, hown, hts, hK, hlk, hX⟩ := id C0
  refine lv_istore_n (lv' := [(3, .int s0), (0, .ref (gB Γ + 3)), (1, .int l1), (2, .int l2)]) hx hb dX2_takesJoin_49 rfl hl (by decide) rfl (fun ls hl => ?_)
  refine lv_iload_n hx hb dX2_takesJoin_50 rfl (lv_at hl 2 rfl) ?_
  refine lv_bipush (v := 46) hx hb dX2_takesJoin_51 (by decide) ?_
  refine lv_icmp_ne (tgt := 63) hx hb dX2_takesJoin_53 (by decide) (fun c1 => ?_) (fun c1 => ?_)
  · replace h := gneg c1 h
    refine lv_iload_n hx hb dX2_takesJoin_63 rfl (lv_at hl 2 rfl) ?_
    refine lv_bipush (v := 43) hx hb dX2_takesJoin_64 (by decide) ?_
    refine lv_icmp_ne (tgt := 80) hx hb dX2_takesJoin_66 (by decide) (fun c2 => ?_) (fun c2 => ?_)
    · replace h := gneg c2 h
      refine lv_iload_n hx hb dX2_takesJoin_80 rfl (lv_at hl 2 rfl) ?_
      refine lv_bipush (v := 44) hx hb dX2_takesJoin_81 (by decide) ?_
      refine lv_icmp_ne (tgt := 101) hx hb dX2_takesJoin_83 (by decide) (fun c3 => ?_) (fun c3 => ?_)
      · replace h := gneg c3 h
        exact bs_X2_takesJoin_101 C0  h hP hS (lv_sub hl [1, 2, 3, 0] rfl)
      · replace h := gpos c3 h
        refine lv_iload_n hx hb dX2_takesJoin_86 rfl (lv_at hl 3 rfl) ?_
        refine lv_if_eq (tgt := 101) hx hb dX2_takesJoin_87 (by decide) (fun c4 => ?_) (fun c4 => ?_)
        · replace h := gpos c4 h
          exact bs_X2_takesJoin_101 C0  h hP hS (lv_sub hl [1, 2, 3, 0] rfl)
        · replace h := gneg c4 h
          refine lv_aload_n hx hb dX2_takesJoin_90 rfl (lv_at hl 1 rfl) ?_
          refine gCVv (rest := []) C0 cal_X2_endCondition wl_X2_69 wi_X2_endCondition ws_X2_endCondition ⟨Nat.le_of_ble_eq_true rfl, Nat.le_of_ble_eq_true rfl⟩ ⟨Nat.le_of_ble_eq_true rfl, Nat.le_of_ble_eq_true rfl⟩ grv_2 [] rfl (Nat.le_of_ble_eq_true rfl) hP hS hl.1 dX2_takesJoin_91 h (fun u hu => m_X2_endCondition l Γ g u hu) (fun u5 H locs h hP hS => ?_) rfl
          refine lv_aload_n hx hb dX2_takesJoin_94 rfl (lv_at hl 1 rfl) ?_
          refine lv_iconst (v := 4) hx hb dX2_takesJoin_95 (by decide) ?_
          refine gp_2_11 hx hb hown hts hK hP hS wf_X2_49 dX2_takesJoin_96 h (fun H locs g6 h hP hS => ?_)
          refine lv_iconst (v := 1) hx hb dX2_takesJoin_99 (by decide) ?_
          exact gzret0 hx hb hr hlk hP hS rfl dX2_takesJoin_100 h
    · replace h := gpos c2 h
      refine lv_aload_n hx hb dX2_takesJoin_69 rfl (lv_at hl 1 rfl) ?_
      refine gCVv (rest := []) C0 cal_X2_endGroup wl_X2_108 wi_X2_endGroup ws_X2_endGroup ⟨Nat.le_of_ble_eq_true rfl, Nat.le_of_ble_eq_true rfl⟩ ⟨Nat.le_of_ble_eq_true rfl, Nat.le_of_ble_eq_true rfl⟩ grv_2 [] rfl (Nat.le_of_ble_eq_true rfl) hP hS hl.1 dX2_takesJoin_70 h (fun u hu => m_X2_endGroup l Γ g u hu) (fun u7 H locs h hP hS => ?_) rfl
      refine lv_aload_n hx hb dX2_takesJoin_73 rfl (lv_at hl 1 rfl) ?_
      refine lv_iconst (v := 4) hx hb dX2_takesJoin_74 (by decide) ?_
      refine gp_2_11 hx hb hown hts hK hP hS wf_X2_49 dX2_takesJoin_75 h (fun H locs g8 h hP hS => ?_)
      refine lv_iconst (v := 1) hx hb dX2_takesJoin_78 (by decide) ?_
      exact gzret0 hx hb hr hlk hP hS rfl dX2_takesJoin_79 h
  · replace h := gpos c1 h
    refine lv_aload_n hx hb dX2_takesJoin_56 rfl (lv_at hl 1 rfl) ?_
    refine lv_iconst (v := 4) hx hb dX2_takesJoin_57 (by decide) ?_
    refine gp_2_11 hx hb hown hts hK hP hS wf_X2_49 dX2_takesJoin_58 h (fun H locs g9 h hP hS => ?_)
    refine lv_iconst (v := 1) hx hb dX2_takesJoin_61 (by decide) ?_
    exact gzret0 hx hb hr hlk hP hS rfl dX2_takesJoin_62 h
set_option maxHeartbeats 2000000 in
set_option maxRecDepth 20000 in
theorem bs_X2_takesJoin_48 {p : Program} {l : Launch} {e : Env} {s : State} {m : MethodId} {args : Array Value} {below : List Frame} {meth : Method} {c : Code} {Γ : gE} (C0 : gCx p s m args meth c Γ RX2 cX2_takesJoin 4 (some .boolean))   {z : Int32 × gG}  {l1 : Int32} {l2 : Int32} {g : gG} {H : Heap} {locs : List Loc} {ls : Array Slot}  (h : fs_X2_takesJoin_48 l1 l2 g = some z) (hP : va_P (gD Γ) gcls (lay Γ g) H) (hS : va_S (gA Γ) s.heap H locs) (hl : lv_has ls 4 [(0, .ref (gB Γ + 3)), (1, .int l1), (2, .int l2)]) : W p l e (gRm 3 61) s m args below meth c H locs 0 0 (MQ below (gQi Γ z) args s 0 0 (gA Γ)) (F0 m 48 ls []) := by
  unfold fs_X2_takesJoin_48 at h
  obtain ⟨hx, hb, hml, hr, hown, hts, hK, hlk, hX⟩ := id C0
  refine lv_iconst (v := 0) hx hb dX2_takesJoin_48 (by decide) ?_
  exact bs_X2_takesJoin_49 C0  h hP hS (lv_sub hl [0, 1, 2] rfl)
set_option maxHeartbeats 2000000 in
set_option maxRecDepth 20000 in
theorem bs_X2_takesJoin_24 {p : Program} {l : Launch} {e : Env} {s : State} {m : MethodId} {args : Array Value} {below : List Frame} {meth : Method} {c : Code} {Γ : gE} (C0 : gCx p s m args meth c Γ RX2 cX2_takesJoin 4 (some .boolean))   {z : Int32 × gG}  {l1 : Int32} {s0 : Int32} {g : gG} {H : Heap} {locs : List Loc} {ls : Array Slot}  (h : fs_X2_takesJoin_24 l1 s0 g = some z) (hP : va_P (gD Γ) gcls (lay Γ g) H) (hS : va_S (gA Γ) s.heap H locs) (hl : lv_has ls 4 [(0, .ref (gB Γ + 3)), (1, .int l1)]) : W p l e (gRm 3 61) s m args below meth c H locs 0 0 (MQ below (gQi Γ z) args s 0 0 (gA Γ)) (F0 m 24 ls [.int s0]) := by
  unfold fs_X2_takesJoin_24 at h
  obtain ⟨hx, hb, hml, hr, hown, hts, hK, hlk, hX⟩ := id C0
  refine lv_istore_n (lv' := [(2, .int s0), (0, .ref (gB Γ + 3)), (1, .int l1)]) hx hb dX2_takesJoin_24 rfl hl (by decide) rfl (fun ls hl => ?_)
  refine lv_aload_n hx hb dX2_takesJoin_25 rfl (lv_at hl 1 rfl) ?_
  refine gf_2_9 hx hb hown hts hK hP wf_X2_66 dX2_takesJoin_26 ?_
  refine lv_if_le (tgt := 48) hx hb dX2_takesJoin_29 (by decide) (fun c1 => ?_) (fun c1 => ?_)
  · replace h := gpos c1 h
    exact bs_X2_takesJoin_48 C0  h hP hS (lv_sub hl [1, 2, 0] rfl)
  · replace h := gneg c1 h
    refine lv_aload_n hx hb dX2_takesJoin_32 rfl (lv_at hl 1 rfl) ?_
    refine gf_2_4 hx hb hown hts hK hP wf_X2_29 dX2_takesJoin_33 ?_
    refine lv_aload_n hx hb dX2_takesJoin_36 rfl (lv_at hl 1 rfl) ?_
    refine gf_2_9 hx hb hown hts hK hP wf_X2_66 dX2_takesJoin_37 ?_
    refine gIld hx hb hK hP is_9 dX2_takesJoin_40 h (fun h => ?_)
    refine lv_if_ne (tgt := 48) hx hb dX2_takesJoin_41 (by decide) (fun c2 => ?_) (fun c2 => ?_)
    · replace h := gneg c2 h
      exact bs_X2_takesJoin_48 C0  h hP hS (lv_sub hl [1, 2, 0] rfl)
    · replace h := gpos c2 h
      refine lv_iconst (v := 1) hx hb dX2_takesJoin_44 (by decide) ?_
      refine lv_goto (tgt := 49) hx hb dX2_takesJoin_45 (by decide) ?_
      exact bs_X2_takesJoin_49 C0  h hP hS (lv_sub hl [1, 2, 0] rfl)
set_option maxHeartbeats 2000000 in
set_option maxRecDepth 20000 in
theorem bs_X2_takesJoin_23 {p : Program} {l : Launch} {e : Env} {s : State} {m : MethodId} {args : Array Value} {below : List Frame} {meth : Method} {c : Code} {Γ : gE} (C0 : gCx p s m args meth c Γ RX2 cX2_takesJoin 4 (some .boolean))   {z : Int32 × gG}  {l1 : Int32} {g : gG} {H : Heap} {locs : List Loc} {ls : Array Slot}  (h : fs_X2_takesJoin_23 l1 g = some z) (hP : va_P (gD Γ) gcls (lay Γ g) H) (hS : va_S (gA Γ) s.heap H locs) (hl : lv_has ls 4 [(0, .ref (gB Γ + 3)), (1, .int l1)]) : W p l e (gRm 3 61) s m args below meth c H locs 0 0 (MQ below (gQi Γ z) args s 0 0 (gA Γ)) (F0 m 23 ls []) := by
  unfold fs_X2_takesJoin_23 at h
  obtain ⟨hx, hb, hml, hr, hown, hts, hK, hlk, hX⟩ := id C0
  refine lv_iconst (v := 0) hx hb dX2_takesJoin_23 (by decide) ?_
  exact bs_X2_takesJoin_24 C0  h hP hS (lv_sub hl [0, 1] rfl)
set_option maxHeartbeats 2000000 in
set_option maxRecDepth 20000 in
theorem m_X2_takesJoin (l : Launch) (Γ : gE)   (a1 : Int32) (g : gG) (z : Int32 × gG) (h : f_X2_takesJoin a1 g = some z) : gMi l yX2_takesJoin cX2_takesJoin 4 (some .boolean) 3 61 Γ [.ref (gB Γ + 3), .int a1] g z := by
  unfold f_X2_takesJoin at h
  refine gStart (own := RX2) (by decide +kernel) rfl (Nat.le_of_ble_eq_true rfl) ?_
  intro p e s m below meth c C0 ls hl hP
  have hS : va_S (gA Γ) s.heap s.heap [] := va_S.rf
  have hl : lv_has ls 4 [(0, .ref (gB Γ + 3)), (1, .int a1)] := hl
  obtain ⟨hx, hb, hml, hr, hown, hts, hK, hlk, hX⟩ := id C0
  refine lv_aload_n hx hb dX2_takesJoin_0 rfl (lv_at hl 0 rfl) ?_
  refine gf_2_9 hx hb hown hts hK hP wf_X2_66 dX2_takesJoin_1 ?_
  refine lv_if_le (tgt := 23) hx hb dX2_takesJoin_4 (by decide) (fun c1 => ?_) (fun c1 => ?_)
  · replace h := gpos c1 h
    exact bs_X2_takesJoin_23 C0  h hP hS (lv_sub hl [0, 1] rfl)
  · replace h := gneg c1 h
    refine lv_aload_n hx hb dX2_takesJoin_7 rfl (lv_at hl 0 rfl) ?_
    refine gf_2_4 hx hb hown hts hK hP wf_X2_29 dX2_takesJoin_8 ?_
    refine lv_aload_n hx hb dX2_takesJoin_11 rfl (lv_at hl 0 rfl) ?_
    refine gf_2_9 hx hb hown hts hK hP wf_X2_66 dX2_takesJoin_12 ?_
    refine gIld hx hb hK hP is_9 dX2_takesJoin_15 h (fun h => ?_)
    refine lv_if_le (tgt := 23) hx hb dX2_takesJoin_16 (by decide) (fun c2 => ?_) (fun c2 => ?_)
    · replace h := gpos c2 h
      exact bs_X2_takesJoin_23 C0  h hP hS (lv_sub hl [0, 1] rfl)
    · replace h := gneg c2 h
      refine lv_iconst (v := 1) hx hb dX2_takesJoin_19 (by decide) ?_
      refine lv_goto (tgt := 24) hx hb dX2_takesJoin_20 (by decide) ?_
      exact bs_X2_takesJoin_24 C0  h hP hS (lv_sub hl [0, 1] rfl)
set_option maxHeartbeats 2000000 in
set_option maxRecDepth 20000 in
theorem bs_X2_takes_80 {p : Program} {l : Launch} {e : Env} {s : State} {m : MethodId} {args : Array Value} {below : List Frame} {meth : Method} {c : Code} {Γ : gE} (C0 : gCx p s m args meth c Γ RX2 cX2_takes 2 (some .boolean))   {z : Int32 × gG}  {l1 : Int32} {g : gG} {H : Heap} {locs : List Loc} {ls : Array Slot}  (h : fs_X2_takes_80 l1 g = some z) (hP : va_P (gD Γ) gcls (lay Γ g) H) (hS : va_S (gA Γ) s.heap H locs) (hl : lv_has ls 2 [(0, .ref (gB Γ + 3)), (1, .int l1)]) : W p l e (gRm 4 85) s m args below meth c H locs 0 0 (MQ below (gQi Γ z) args s 0 0 (gA Γ)) (F0 m 80 ls []) := by
  unfold fs_X2_takes_80 at h
  obtain ⟨hx, hb, hml, hr, hown, hts, hK, hlk, hX⟩ := id C0
  refine lv_aload_n hx hb dX2_takes_80 rfl (lv_at hl 0 rfl) ?_
  refine lv_iload_n hx hb dX2_takes_81 rfl (lv_at hl 1 rfl) ?_
  refine gCVi (rest := []) C0 cal_X2_takesCoordinate wl_X2_79 wi_X2_takesCoordinate ws_X2_takesCoordinate ⟨Nat.le_of_ble_eq_true rfl, Nat.le_of_ble_eq_true rfl⟩ ⟨Nat.le_of_ble_eq_true rfl, Nat.le_of_ble_eq_true rfl⟩ grv_2 [.int l1] rfl (Nat.le_of_ble_eq_true rfl) hP hS hl.1 dX2_takes_82 h (fun u hu => m_X2_takesCoordinate l Γ l1 g u hu) (fun u1 H locs h hP hS => ?_) rfl
  exact gzret hx hb hr hlk hP hS dX2_takes_85 h
set_option maxHeartbeats 2000000 in
set_option maxRecDepth 20000 in
theorem m_X2_takes (l : Launch) (Γ : gE)   (a1 : Int32) (g : gG) (z : Int32 × gG) (h : f_X2_takes a1 g = some z) : gMi l yX2_takes cX2_takes 2 (some .boolean) 4 85 Γ [.ref (gB Γ + 3), .int a1] g z := by
  unfold f_X2_takes at h
  refine gStart (own := RX2) (by decide +kernel) rfl (Nat.le_of_ble_eq_true rfl) ?_
  intro p e s m below meth c C0 ls hl hP
  have hS : va_S (gA Γ) s.heap s.heap [] := va_S.rf
  have hl : lv_has ls 2 [(0, .ref (gB Γ + 3)), (1, .int a1)] := hl
  obtain ⟨hx, hb, hml, hr, hown, hts, hK, hlk, hX⟩ := id C0
  refine lv_aload_n hx hb dX2_takes_0 rfl (lv_at hl 0 rfl) ?_
  refine gf_2_11 hx hb hown hts hK hP wf_X2_49 dX2_takes_1 ?_
  by_cases c1 : (g.1 3 11) = (0 : Int32)
  · replace h := gpos c1 h
    refine lv_tableIn (tgt := 44) hx hb dX2_takes_4 (by rw [c1]; decide) (by rw [c1]; decide) (by rw [c1]; rfl) (by decide) ?_
    refine lv_aload_n hx hb dX2_takes_44 rfl (lv_at hl 0 rfl) ?_
    refine lv_iconst (v := 1) hx hb dX2_takes_45 (by decide) ?_
    refine gp_2_11 hx hb hown hts hK hP hS wf_X2_49 dX2_takes_46 h (fun H locs g2 h hP hS => ?_)
    refine lv_iload_n hx hb dX2_takes_49 rfl (lv_at hl 1 rfl) ?_
    refine lv_bipush (v := 72) hx hb dX2_takes_50 (by decide) ?_
    refine lv_icmp_ne (tgt := 59) hx hb dX2_takes_52 (by decide) (fun c3 => ?_) (fun c3 => ?_)
    · replace h := gneg c3 h
      refine lv_iconst (v := 0) hx hb dX2_takes_59 (by decide) ?_
      exact gzret0 hx hb hr hlk hP hS rfl dX2_takes_60 h
    · replace h := gpos c3 h
      refine lv_iconst (v := 1) hx hb dX2_takes_55 (by decide) ?_
      refine lv_goto (tgt := 60) hx hb dX2_takes_56 (by decide) ?_
      exact gzret0 hx hb hr hlk hP hS rfl dX2_takes_60 h
  replace h := gneg c1 h
  by_cases c4 : (g.1 3 11) = (1 : Int32)
  · replace h := gpos c4 h
    refine lv_tableIn (tgt := 61) hx hb dX2_takes_4 (by rw [c4]; decide) (by rw [c4]; decide) (by rw [c4]; rfl) (by decide) ?_
    refine lv_iload_n hx hb dX2_takes_61 rfl (lv_at hl 1 rfl) ?_
    refine lv_bipush (v := 47) hx hb dX2_takes_62 (by decide) ?_
    refine lv_icmp_ne (tgt := 78) hx hb dX2_takes_64 (by decide) (fun c5 => ?_) (fun c5 => ?_)
    · replace h := gneg c5 h
      refine lv_iconst (v := 0) hx hb dX2_takes_78 (by decide) ?_
      exact gzret0 hx hb hr hlk hP hS rfl dX2_takes_79 h
    · replace h := gpos c5 h
      refine lv_aload_n hx hb dX2_takes_67 rfl (lv_at hl 0 rfl) ?_
      refine gCVi (rest := []) C0 cal_X2_beginsPlace wl_X2_75 wi_X2_beginsPlace ws_X2_beginsPlace ⟨Nat.le_of_ble_eq_true rfl, Nat.le_of_ble_eq_true rfl⟩ ⟨Nat.le_of_ble_eq_true rfl, Nat.le_of_ble_eq_true rfl⟩ grv_2 [] rfl (Nat.le_of_ble_eq_true rfl) hP hS hl.1 dX2_takes_68 h (fun u hu => m_X2_beginsPlace l Γ g u hu) (fun u6 H locs h hP hS => ?_) rfl
      refine lv_if_eq (tgt := 78) hx hb dX2_takes_71 (by decide) (fun c7 => ?_) (fun c7 => ?_)
      · replace h := gpos c7 h
        refine lv_iconst (v := 0) hx hb dX2_takes_78 (by decide) ?_
        exact gzret0 hx hb hr hlk hP hS rfl dX2_takes_79 h
      · replace h := gneg c7 h
        refine lv_iconst (v := 1) hx hb dX2_takes_74 (by decide) ?_
        refine lv_goto (tgt := 79) hx hb dX2_takes_75 (by decide) ?_
        exact gzret0 hx hb hr hlk hP hS rfl dX2_takes_79 h
  replace h := gneg c4 h
  by_cases c8 : (g.1 3 11) = (2 : Int32)
  · replace h := gpos c8 h
    refine lv_tableIn (tgt := 80) hx hb dX2_takes_4 (by rw [c8]; decide) (by rw [c8]; decide) (by rw [c8]; rfl) (by decide) ?_
    exact bs_X2_takes_80 C0  h hP hS (lv_sub hl [0, 1] rfl)
  replace h := gneg c8 h
  by_cases c9 : (g.1 3 11) = (3 : Int32)
  · replace h := gpos c9 h
    refine lv_tableIn (tgt := 80) hx hb dX2_takes_4 (by rw [c9]; decide) (by rw [c9]; decide) (by rw [c9]; rfl) (by decide) ?_
    exact bs_X2_takes_80 C0  h hP hS (lv_sub hl [0, 1] rfl)
  replace h := gneg c9 h
  by_cases c10 : (g.1 3 11) = (4 : Int32)
  · replace h := gpos c10 h
    refine lv_tableIn (tgt := 86) hx hb dX2_takes_4 (by rw [c10]; decide) (by rw [c10]; decide) (by rw [c10]; rfl) (by decide) ?_
    refine lv_aload_n hx hb dX2_takes_86 rfl (lv_at hl 0 rfl) ?_
    refine lv_iload_n hx hb dX2_takes_87 rfl (lv_at hl 1 rfl) ?_
    refine gCVi (rest := []) C0 cal_X2_takesPart wl_X2_82 wi_X2_takesPart ws_X2_takesPart ⟨Nat.le_of_ble_eq_true rfl, Nat.le_of_ble_eq_true rfl⟩ ⟨Nat.le_of_ble_eq_true rfl, Nat.le_of_ble_eq_true rfl⟩ grv_2 [.int a1] rfl (Nat.le_of_ble_eq_true rfl) hP hS hl.1 dX2_takes_88 h (fun u hu => m_X2_takesPart l Γ a1 g u hu) (fun u11 H locs h hP hS => ?_) rfl
    exact gzret hx hb hr hlk hP hS dX2_takes_91 h
  replace h := gneg c10 h
  by_cases c12 : (g.1 3 11) = (5 : Int32)
  · replace h := gpos c12 h
    refine lv_tableIn (tgt := 92) hx hb dX2_takes_4 (by rw [c12]; decide) (by rw [c12]; decide) (by rw [c12]; rfl) (by decide) ?_
    refine lv_aload_n hx hb dX2_takes_92 rfl (lv_at hl 0 rfl) ?_
    refine lv_iconst (v := 4) hx hb dX2_takes_93 (by decide) ?_
    refine gp_2_11 hx hb hown hts hK hP hS wf_X2_49 dX2_takes_94 h (fun H locs g13 h hP hS => ?_)
    refine lv_iload_n hx hb dX2_takes_97 rfl (lv_at hl 1 rfl) ?_
    refine lv_bipush (v := 91) hx hb dX2_takes_98 (by decide) ?_
    refine lv_icmp_ne (tgt := 107) hx hb dX2_takes_100 (by decide) (fun c14 => ?_) (fun c14 => ?_)
    · replace h := gneg c14 h
      refine lv_iconst (v := 0) hx hb dX2_takes_107 (by decide) ?_
      exact gzret0 hx hb hr hlk hP hS rfl dX2_takes_108 h
    · replace h := gpos c14 h
      refine lv_iconst (v := 1) hx hb dX2_takes_103 (by decide) ?_
      refine lv_goto (tgt := 108) hx hb dX2_takes_104 (by decide) ?_
      exact gzret0 hx hb hr hlk hP hS rfl dX2_takes_108 h
  replace h := gneg c12 h
  have nc1 := gNe c1
  simp only [show ((0 : Int32)).toInt = 0 from by decide] at nc1
  have nc4 := gNe c4
  simp only [show ((1 : Int32)).toInt = 1 from by decide] at nc4
  have nc8 := gNe c8
  simp only [show ((2 : Int32)).toInt = 2 from by decide] at nc8
  have nc9 := gNe c9
  simp only [show ((3 : Int32)).toInt = 3 from by decide] at nc9
  have nc10 := gNe c10
  simp only [show ((4 : Int32)).toInt = 4 from by decide] at nc10
  have nc12 := gNe c12
  simp only [show ((5 : Int32)).toInt = 5 from by decide] at nc12
  refine lv_tableOut (tgt := 109) hx hb dX2_takes_4 (gTabOut (by omega)) (by decide) ?_
  refine lv_aload_n hx hb dX2_takes_109 rfl (lv_at hl 0 rfl) ?_
  refine lv_iload_n hx hb dX2_takes_110 rfl (lv_at hl 1 rfl) ?_
  refine gCVi (rest := []) C0 cal_X2_takesJoin wl_X2_85 wi_X2_takesJoin ws_X2_takesJoin ⟨Nat.le_of_ble_eq_true rfl, Nat.le_of_ble_eq_true rfl⟩ ⟨Nat.le_of_ble_eq_true rfl, Nat.le_of_ble_eq_true rfl⟩ grv_2 [.int a1] rfl (Nat.le_of_ble_eq_true rfl) hP hS hl.1 dX2_takes_111 h (fun u hu => m_X2_takesJoin l Γ a1 g u hu) (fun u15 H locs h hP hS => ?_) rfl
  exact gzret hx hb hr hlk hP hS dX2_takes_114 h
set_option maxHeartbeats 2000000 in
set_option maxRecDepth 20000 in
theorem bs_X2_errorIn_17 {p : Program} {l : Launch} {e : Env} {s : State} {m : MethodId} {args : Array Value} {below : List Frame} {meth : Method} {c : Code} {Γ : gE} (C0 : gCx p s m args meth c Γ RX2 cX2_errorIn 4 (some .int))   {z : Int32 × gG} {F17 : Int32 → Int32 → gG → Option (Int32 × gG)} {l2 : Int32} {l3 : Int32} {g : gG} {H : Heap} {locs : List Loc} {ls : Array Slot} (hF17 : ∀ (l2 : Int32) (l3 : Int32) (g : gG) (H : Heap) (locs : List Loc) (ls : Array Slot), F17 l2 l3 g = some z → va_P (gD Γ) gcls (lay Γ g) H → va_S (gA Γ) s.heap H locs → lv_has ls 4 [(0, .ref (gB Γ + 3)), (1, .ref (gB Γ + 1)), (2, .int l2), (3, .int l3)] → W p l e (gRm 5 106) s m args below meth c H locs 0 0 (MQ below (gQi Γ z) args s 0 0 (gA Γ)) (F0 m 17 ls [])) (h : fs_X2_errorIn_17 F17 l2 l3 g = some z) (hP : va_P (gD Γ) gcls (lay Γ g) H) (hS : va_S (gA Γ) s.heap H locs) (hl : lv_has ls 4 [(0, .ref (gB Γ + 3)), (1, .ref (gB Γ + 1)), (2, .int l2), (3, .int l3)]) : W p l e (gRm 5 106) s m args below meth c H locs 0 0 (MQ below (gQi Γ z) args s 0 0 (gA Γ)) (F0 m 17 ls []) := by
  unfold fs_X2_errorIn_17 at h
  obtain ⟨hx, hb, hml, hr, hown, hts, hK, hlk, hX⟩ := id C0
  refine lv_iload_n hx hb dX2_errorIn_17 rfl (lv_at hl 3 rfl) ?_
  refine lv_iload_n hx hb dX2_errorIn_18 rfl (lv_at hl 2 rfl) ?_
  refine lv_icmp_ge (tgt := 42) hx hb dX2_errorIn_19 (by decide) (fun c1 => ?_) (fun c1 => ?_)
  · replace h := gpos c1 h
    refine lv_aload_n hx hb dX2_errorIn_42 rfl (lv_at hl 0 rfl) ?_
    refine gf_2_11 hx hb hown hts hK hP wf_X2_49 dX2_errorIn_43 ?_
    refine lv_bipush (v := 6) hx hb dX2_errorIn_46 (by decide) ?_
    refine lv_icmp_ne (tgt := 66) hx hb dX2_errorIn_48 (by decide) (fun c2 => ?_) (fun c2 => ?_)
    · replace h := gneg c2 h
      refine lv_iload_n hx hb dX2_errorIn_66 rfl (lv_at hl 2 rfl) ?_
      exact giret hx hb hr hlk hP hS dX2_errorIn_67 h
    · replace h := gpos c2 h
      refine lv_aload_n hx hb dX2_errorIn_51 rfl (lv_at hl 0 rfl) ?_
      refine gf_2_9 hx hb hown hts hK hP wf_X2_66 dX2_errorIn_52 ?_
      refine lv_if_ne (tgt := 66) hx hb dX2_errorIn_55 (by decide) (fun c3 => ?_) (fun c3 => ?_)
      · replace h := gneg c3 h
        refine lv_iload_n hx hb dX2_errorIn_66 rfl (lv_at hl 2 rfl) ?_
        exact giret hx hb hr hlk hP hS dX2_errorIn_67 h
      · replace h := gpos c3 h
        refine lv_aload_n hx hb dX2_errorIn_58 rfl (lv_at hl 0 rfl) ?_
        refine gf_2_10 hx hb hown hts hK hP wf_X2_45 dX2_errorIn_59 ?_
        refine lv_iconst (v := 2) hx hb dX2_errorIn_62 (by decide) ?_
        refine lv_icmp_ge (tgt := 68) hx hb dX2_errorIn_63 (by decide) (fun c4 => ?_) (fun c4 => ?_)
        · replace h := gpos c4 h
          refine lv_aload_n hx hb dX2_errorIn_68 rfl (lv_at hl 0 rfl) ?_
          refine gCVv (rest := []) C0 cal_X2_endCondition wl_X2_69 wi_X2_endCondition ws_X2_endCondition ⟨Nat.le_of_ble_eq_true rfl, Nat.le_of_ble_eq_true rfl⟩ ⟨Nat.le_of_ble_eq_true rfl, Nat.le_of_ble_eq_true rfl⟩ grv_2 [] rfl (Nat.le_of_ble_eq_true rfl) hP hS hl.1 dX2_errorIn_69 h (fun u hu => m_X2_endCondition l Γ g u hu) (fun u5 H locs h hP hS => ?_) rfl
          refine lv_aload_n hx hb dX2_errorIn_72 rfl (lv_at hl 0 rfl) ?_
          refine gCVv (rest := []) C0 cal_X2_keepCondition wl_X2_72 wi_X2_keepCondition ws_X2_keepCondition ⟨Nat.le_of_ble_eq_true rfl, Nat.le_of_ble_eq_true rfl⟩ ⟨Nat.le_of_ble_eq_true rfl, Nat.le_of_ble_eq_true rfl⟩ grv_2 [] rfl (Nat.le_of_ble_eq_true rfl) hP hS hl.1 dX2_errorIn_73 h (fun u hu => m_X2_keepCondition l Γ u5.2 u hu) (fun u6 H locs h hP hS => ?_) rfl
          refine lv_bipush (v := -9) hx hb dX2_errorIn_76 (by decide) ?_
          exact giret hx hb hr hlk hP hS dX2_errorIn_78 h
        · replace h := gneg c4 h
          refine lv_iload_n hx hb dX2_errorIn_66 rfl (lv_at hl 2 rfl) ?_
          exact giret hx hb hr hlk hP hS dX2_errorIn_67 h
  · replace h := gneg c1 h
    refine lv_aload_n hx hb dX2_errorIn_22 rfl (lv_at hl 0 rfl) ?_
    refine lv_aload_n hx hb dX2_errorIn_23 rfl (lv_at hl 1 rfl) ?_
    refine lv_iload_n hx hb dX2_errorIn_24 rfl (lv_at hl 3 rfl) ?_
    refine gCVi (rest := [.ref (gB Γ + 3)]) C0 cal_X6_signAt wl_X2_58 wi_X6_signAt ws_X6_signAt ⟨Nat.le_of_ble_eq_true rfl, Nat.le_of_ble_eq_true rfl⟩ ⟨Nat.le_of_ble_eq_true rfl, Nat.le_of_ble_eq_true rfl⟩ grv_6 [.int l3] rfl (Nat.le_of_ble_eq_true rfl) hP hS hl.1 dX2_errorIn_25 h (fun u hu => m_X6_signAt l Γ l3 g u hu) (fun u7 H locs h hP hS => ?_) rfl
    refine gCVi (rest := []) C0 cal_X2_takes wl_X2_62 wi_X2_takes ws_X2_takes ⟨Nat.le_of_ble_eq_true rfl, Nat.le_of_ble_eq_true rfl⟩ ⟨Nat.le_of_ble_eq_true rfl, Nat.le_of_ble_eq_true rfl⟩ grv_2 [.int u7.1] rfl (Nat.le_of_ble_eq_true rfl) hP hS hl.1 dX2_errorIn_28 h (fun u hu => m_X2_takes l Γ u7.1 u7.2 u hu) (fun u8 H locs h hP hS => ?_) rfl
    refine lv_if_ne (tgt := 36) hx hb dX2_errorIn_31 (by decide) (fun c9 => ?_) (fun c9 => ?_)
    · replace h := gneg c9 h
      obtain ⟨x10, ex10⟩ : ∃ y : Int32, y = l3 + (1 : Int32) := ⟨_, rfl⟩
      replace h := gLetI ex10 h
      refine lv_iinc (v := x10) (lv' := [(3, .int x10), (0, .ref (gB Γ + 3)), (1, .ref (gB Γ + 1)), (2, .int l2)]) hx hb dX2_errorIn_36 hl (k := 3) rfl (by rw [ex10]; rfl) (by decide) rfl (fun ls hl => ?_)
      refine lv_goto (tgt := 17) hx hb dX2_errorIn_39 (by decide) ?_
      exact hF17 _ _ _ _ _ _ h hP hS (lv_sub hl [1, 2, 3, 0] rfl)
    · replace h := gpos c9 h
      refine lv_iload_n hx hb dX2_errorIn_34 rfl (lv_at hl 3 rfl) ?_
      exact giret hx hb hr hlk hP hS dX2_errorIn_35 h
set_option maxHeartbeats 2000000 in
set_option maxRecDepth 20000 in
theorem bk_X2_errorIn_17 {p : Program} {l : Launch} {e : Env} {s : State} {m : MethodId} {args : Array Value} {below : List Frame} {meth : Method} {c : Code} {Γ : gE} (C0 : gCx p s m args meth c Γ RX2 cX2_errorIn 4 (some .int))   {z : Int32 × gG}   : ∀ (n : Nat) (l2 : Int32) (l3 : Int32) (g : gG) (H : Heap) (locs : List Loc) (ls : Array Slot), fb_X2_errorIn_17 n l2 l3 g = some z → va_P (gD Γ) gcls (lay Γ g) H → va_S (gA Γ) s.heap H locs → lv_has ls 4 [(0, .ref (gB Γ + 3)), (1, .ref (gB Γ + 1)), (2, .int l2), (3, .int l3)] → W p l e (gRm 5 106) s m args below meth c H locs 0 0 (MQ below (gQi Γ z) args s 0 0 (gA Γ)) (F0 m 17 ls []) := by
  intro n
  induction n with
  | zero => intro l2 l3 g H locs ls h hP hS hl; cases h
  | succ n ih => intro l2 l3 g H locs ls h hP hS hl; exact bs_X2_errorIn_17 C0  ih h hP hS hl
set_option maxHeartbeats 2000000 in
set_option maxRecDepth 20000 in
theorem m_X2_errorIn (l : Launch) (Γ : gE)    (g : gG) (z : Int32 × gG) (h : f_X2_errorIn g = some z) : gMi l yX2_errorIn cX2_errorIn 4 (some .int) 5 106 Γ [.ref (gB Γ + 3), .ref (gB Γ + 1)] g z := by
  unfold f_X2_errorIn at h
  refine gStart (own := RX2) (by decide +kernel) rfl (Nat.le_of_ble_eq_true rfl) ?_
  intro p e s m below meth c C0 ls hl hP
  have hS : va_S (gA Γ) s.heap s.heap [] := va_S.rf
  have hl : lv_has ls 4 [(0, .ref (gB Γ + 3)), (1, .ref (gB Γ + 1))] := hl
  obtain ⟨hx, hb, hml, hr, hown, hts, hK, hlk, hX⟩ := id C0
  refine lv_aload_n hx hb dX2_errorIn_0 rfl (lv_at hl 0 rfl) ?_
  refine lv_iconst (v := 0) hx hb dX2_errorIn_1 (by decide) ?_
  refine gp_2_10 hx hb hown hts hK hP hS wf_X2_45 dX2_errorIn_2 h (fun H locs g1 h hP hS => ?_)
  refine lv_aload_n hx hb dX2_errorIn_5 rfl (lv_at hl 0 rfl) ?_
  refine lv_iconst (v := 0) hx hb dX2_errorIn_6 (by decide) ?_
  refine gp_2_11 hx hb hown hts hK hP hS wf_X2_49 dX2_errorIn_7 h (fun H locs g2 h hP hS => ?_)
  refine lv_aload_n hx hb dX2_errorIn_10 rfl (lv_at hl 1 rfl) ?_
  refine gCVi (rest := []) C0 cal_X6_length wl_X2_52 wi_X6_length ws_X6_length ⟨Nat.le_of_ble_eq_true rfl, Nat.le_of_ble_eq_true rfl⟩ ⟨Nat.le_of_ble_eq_true rfl, Nat.le_of_ble_eq_true rfl⟩ grv_6 [] rfl (Nat.le_of_ble_eq_true rfl) hP hS hl.1 dX2_errorIn_11 h (fun u hu => m_X6_length l Γ g2 u hu) (fun u3 H locs h hP hS => ?_) rfl
  refine lv_topi (fun x4 ex4 => ?_)
  replace h := gLetI ex4 h
  refine lv_istore_n (lv' := [(2, .int x4), (0, .ref (gB Γ + 3)), (1, .ref (gB Γ + 1))]) hx hb dX2_errorIn_14 rfl hl (by decide) rfl (fun ls hl => ?_)
  refine lv_iconst (v := 0) hx hb dX2_errorIn_15 (by decide) ?_
  refine lv_istore_n (lv' := [(3, .int (0 : Int32)), (2, .int x4), (0, .ref (gB Γ + 3)), (1, .ref (gB Γ + 1))]) hx hb dX2_errorIn_16 rfl hl (by decide) rfl (fun ls hl => ?_)
  exact bk_X2_errorIn_17 C0  gFuel _ _ _ _ _ _ h hP hS (lv_sub hl [2, 3, 1, 0] rfl)
set_option maxHeartbeats 2000000 in
set_option maxRecDepth 20000 in
theorem m_X2_count (l : Launch) (Γ : gE)    (g : gG) (z : Int32 × gG) (h : f_X2_count g = some z) : gMi l yX2_count cX2_count 1 (some .int) 0 0 Γ [.ref (gB Γ + 3)] g z := by
  unfold f_X2_count at h
  refine gStart (own := RX2) (by decide +kernel) rfl (Nat.le_of_ble_eq_true rfl) ?_
  intro p e s m below meth c C0 ls hl hP
  have hS : va_S (gA Γ) s.heap s.heap [] := va_S.rf
  have hl : lv_has ls 1 [(0, .ref (gB Γ + 3))] := hl
  obtain ⟨hx, hb, hml, hr, hown, hts, hK, hlk, hX⟩ := id C0
  refine lv_aload_n hx hb dX2_count_0 rfl (lv_at hl 0 rfl) ?_
  refine gf_2_10 hx hb hown hts hK hP wf_X2_45 dX2_count_1 ?_
  exact giret hx hb hr hlk hP hS dX2_count_4 h
set_option maxHeartbeats 2000000 in
set_option maxRecDepth 20000 in
theorem bs_X2_heldFor_13 {p : Program} {l : Launch} {e : Env} {s : State} {m : MethodId} {args : Array Value} {below : List Frame} {meth : Method} {c : Code} {Γ : gE} (C0 : gCx p s m args meth c Γ RX2 cX2_heldFor 5 (some .int))   {z : Int32 × gG} {F13 : Int32 → Int32 → Int32 → Int32 → gG → Option (Int32 × gG)} {l1 : Int32} {l2 : Int32} {l3 : Int32} {l4 : Int32} {g : gG} {H : Heap} {locs : List Loc} {ls : Array Slot} (hF13 : ∀ (l1 : Int32) (l2 : Int32) (l3 : Int32) (l4 : Int32) (g : gG) (H : Heap) (locs : List Loc) (ls : Array Slot), F13 l1 l2 l3 l4 g = some z → va_P (gD Γ) gcls (lay Γ g) H → va_S (gA Γ) s.heap H locs → lv_has ls 5 [(0, .ref (gB Γ + 3)), (1, .int l1), (2, .int l2), (3, .int l3), (4, .int l4)] → W p l e (gRm 0 0) s m args below meth c H locs 0 0 (MQ below (gQi Γ z) args s 0 0 (gA Γ)) (F0 m 13 ls [])) (h : fs_X2_heldFor_13 F13 l1 l2 l3 l4 g = some z) (hP : va_P (gD Γ) gcls (lay Γ g) H) (hS : va_S (gA Γ) s.heap H locs) (hl : lv_has ls 5 [(0, .ref (gB Γ + 3)), (1, .int l1), (2, .int l2), (3, .int l3), (4, .int l4)]) : W p l e (gRm 0 0) s m args below meth c H locs 0 0 (MQ below (gQi Γ z) args s 0 0 (gA Γ)) (F0 m 13 ls []) := by
  unfold fs_X2_heldFor_13 at h
  obtain ⟨hx, hb, hml, hr, hown, hts, hK, hlk, hX⟩ := id C0
  refine lv_iload hx hb dX2_heldFor_13 (lv_at hl 4 rfl) ?_
  refine lv_aload_n hx hb dX2_heldFor_15 rfl (lv_at hl 0 rfl) ?_
  refine gf_2_10 hx hb hown hts hK hP wf_X2_45 dX2_heldFor_16 ?_
  refine lv_icmp_ge (tgt := 59) hx hb dX2_heldFor_19 (by decide) (fun c1 => ?_) (fun c1 => ?_)
  · replace h := gpos c1 h
    refine lv_iload_n hx hb dX2_heldFor_59 rfl (lv_at hl 3 rfl) ?_
    exact giret hx hb hr hlk hP hS dX2_heldFor_60 h
  · replace h := gneg c1 h
    refine lv_aload_n hx hb dX2_heldFor_22 rfl (lv_at hl 0 rfl) ?_
    refine gf_2_3 hx hb hown hts hK hP wf_X2_25 dX2_heldFor_23 ?_
    refine lv_iload hx hb dX2_heldFor_26 (lv_at hl 4 rfl) ?_
    refine lv_bipush (v := 8) hx hb dX2_heldFor_28 (by decide) ?_
    refine lv_imul hx hb dX2_heldFor_30 ?_
    refine lv_iload_n hx hb dX2_heldFor_31 rfl (lv_at hl 2 rfl) ?_
    refine lv_iadd hx hb dX2_heldFor_32 ?_
    refine gJld hx hb hK hP (is_8 Γ) dX2_heldFor_33 h (fun h => ?_)
    refine lv_iload_n hx hb dX2_heldFor_34 rfl (lv_at hl 1 rfl) ?_
    refine lv_bipush (v := 63) hx hb dX2_heldFor_35 (by decide) ?_
    refine lv_iand hx hb dX2_heldFor_37 ?_
    refine lv_lushr hx hb dX2_heldFor_38 rfl ?_
    refine lv_lconst (v := 1) hx hb dX2_heldFor_39 (by decide) ?_
    refine lv_land hx hb dX2_heldFor_40 ?_
    refine lv_lconst (v := 0) hx hb dX2_heldFor_41 (by decide) ?_
    refine W.lcmp hx hb dX2_heldFor_42 ?_
    refine lv_if_eq (tgt := 53) hx hb dX2_heldFor_43 (by decide) (fun c2 => ?_) (fun c2 => ?_)
    · replace h := gpos c2 h
      obtain ⟨x3, ex3⟩ : ∃ y : Int32, y = l4 + (1 : Int32) := ⟨_, rfl⟩
      replace h := gLetI ex3 h
      refine lv_iinc (v := x3) (lv' := [(4, .int x3), (0, .ref (gB Γ + 3)), (1, .int l1), (2, .int l2), (3, .int l3)]) hx hb dX2_heldFor_53 hl (k := 4) rfl (by rw [ex3]; rfl) (by decide) rfl (fun ls hl => ?_)
      refine lv_goto (tgt := 13) hx hb dX2_heldFor_56 (by decide) ?_
      exact hF13 _ _ _ _ _ _ _ _ h hP hS (lv_sub hl [1, 2, 3, 4, 0] rfl)
    · replace h := gneg c2 h
      refine lv_iload_n hx hb dX2_heldFor_46 rfl (lv_at hl 3 rfl) ?_
      refine lv_iconst (v := 1) hx hb dX2_heldFor_47 (by decide) ?_
      refine lv_iload hx hb dX2_heldFor_48 (lv_at hl 4 rfl) ?_
      refine lv_ishl hx hb dX2_heldFor_50 ?_
      refine lv_ior hx hb dX2_heldFor_51 ?_
      refine lv_topi (fun x4 ex4 => ?_)
      replace h := gLetI ex4 h
      refine lv_istore_n (lv' := [(3, .int x4), (0, .ref (gB Γ + 3)), (1, .int l1), (2, .int l2), (4, .int l4)]) hx hb dX2_heldFor_52 rfl hl (by decide) rfl (fun ls hl => ?_)
      obtain ⟨x5, ex5⟩ : ∃ y : Int32, y = l4 + (1 : Int32) := ⟨_, rfl⟩
      replace h := gLetI ex5 h
      refine lv_iinc (v := x5) (lv' := [(4, .int x5), (3, .int x4), (0, .ref (gB Γ + 3)), (1, .int l1), (2, .int l2)]) hx hb dX2_heldFor_53 hl (k := 4) rfl (by rw [ex5]; rfl) (by decide) rfl (fun ls hl => ?_)
      refine lv_goto (tgt := 13) hx hb dX2_heldFor_56 (by decide) ?_
      exact hF13 _ _ _ _ _ _ _ _ h hP hS (lv_sub hl [2, 3, 4, 1, 0] rfl)
set_option maxHeartbeats 2000000 in
set_option maxRecDepth 20000 in
theorem bk_X2_heldFor_13 {p : Program} {l : Launch} {e : Env} {s : State} {m : MethodId} {args : Array Value} {below : List Frame} {meth : Method} {c : Code} {Γ : gE} (C0 : gCx p s m args meth c Γ RX2 cX2_heldFor 5 (some .int))   {z : Int32 × gG}   : ∀ (n : Nat) (l1 : Int32) (l2 : Int32) (l3 : Int32) (l4 : Int32) (g : gG) (H : Heap) (locs : List Loc) (ls : Array Slot), fb_X2_heldFor_13 n l1 l2 l3 l4 g = some z → va_P (gD Γ) gcls (lay Γ g) H → va_S (gA Γ) s.heap H locs → lv_has ls 5 [(0, .ref (gB Γ + 3)), (1, .int l1), (2, .int l2), (3, .int l3), (4, .int l4)] → W p l e (gRm 0 0) s m args below meth c H locs 0 0 (MQ below (gQi Γ z) args s 0 0 (gA Γ)) (F0 m 13 ls []) := by
  intro n
  induction n with
  | zero => intro l1 l2 l3 l4 g H locs ls h hP hS hl; cases h
  | succ n ih => intro l1 l2 l3 l4 g H locs ls h hP hS hl; exact bs_X2_heldFor_13 C0  ih h hP hS hl
set_option maxHeartbeats 2000000 in
set_option maxRecDepth 20000 in
theorem m_X2_heldFor (l : Launch) (Γ : gE)   (a1 : Int32) (g : gG) (z : Int32 × gG) (h : f_X2_heldFor a1 g = some z) : gMi l yX2_heldFor cX2_heldFor 5 (some .int) 0 0 Γ [.ref (gB Γ + 3), .int a1] g z := by
  unfold f_X2_heldFor at h
  refine gStart (own := RX2) (by decide +kernel) rfl (Nat.le_of_ble_eq_true rfl) ?_
  intro p e s m below meth c C0 ls hl hP
  have hS : va_S (gA Γ) s.heap s.heap [] := va_S.rf
  have hl : lv_has ls 5 [(0, .ref (gB Γ + 3)), (1, .int a1)] := hl
  obtain ⟨hx, hb, hml, hr, hown, hts, hK, hlk, hX⟩ := id C0
  refine lv_iload_n hx hb dX2_heldFor_0 rfl (lv_at hl 1 rfl) ?_
  refine lv_bipush (v := 64) hx hb dX2_heldFor_1 (by decide) ?_
  refine lv_idiv hx hb dX2_heldFor_3 (by decide) ?_
  refine lv_bipush (v := 8) hx hb dX2_heldFor_4 (by decide) ?_
  refine lv_irem hx hb dX2_heldFor_6 (by decide) ?_
  refine lv_topi (fun x1 ex1 => ?_)
  replace h := gLetI ex1 h
  refine lv_istore_n (lv' := [(2, .int x1), (0, .ref (gB Γ + 3)), (1, .int a1)]) hx hb dX2_heldFor_7 rfl hl (by decide) rfl (fun ls hl => ?_)
  refine lv_iconst (v := 0) hx hb dX2_heldFor_8 (by decide) ?_
  refine lv_istore_n (lv' := [(3, .int (0 : Int32)), (2, .int x1), (0, .ref (gB Γ + 3)), (1, .int a1)]) hx hb dX2_heldFor_9 rfl hl (by decide) rfl (fun ls hl => ?_)
  refine lv_iconst (v := 0) hx hb dX2_heldFor_10 (by decide) ?_
  refine lv_istore (lv' := [(4, .int (0 : Int32)), (3, .int (0 : Int32)), (2, .int x1), (0, .ref (gB Γ + 3)), (1, .int a1)]) hx hb dX2_heldFor_11 hl (by decide) rfl (fun ls hl => ?_)
  exact bk_X2_heldFor_13 C0  gFuel _ _ _ _ _ _ _ _ h hP hS (lv_sub hl [3, 4, 2, 1, 0] rfl)
set_option maxHeartbeats 2000000 in
set_option maxRecDepth 20000 in
theorem bs_X0_take_10 {p : Program} {l : Launch} {e : Env} {s : State} {m : MethodId} {args : Array Value} {below : List Frame} {meth : Method} {c : Code} {Γ : gE} (C0 : gCx p s m args meth c Γ RX0 cX0_take 3 none)   {z : Unit × gG} {F10 : Int32 → gG → Option (Unit × gG)} {l2 : Int32} {g : gG} {H : Heap} {locs : List Loc} {ls : Array Slot} (hF10 : ∀ (l2 : Int32) (g : gG) (H : Heap) (locs : List Loc) (ls : Array Slot), F10 l2 g = some z → va_P (gD Γ) gcls (lay Γ g) H → va_S (gA Γ) s.heap H locs → lv_has ls 3 [(0, .ref (gB Γ + 14)), (1, .ref (gB Γ + 3)), (2, .int l2)] → W p l e (gRm 1 24) s m args below meth c H locs 0 0 (MQ below (gQv Γ z) args s 0 0 (gA Γ)) (F0 m 10 ls [])) (h : fs_X0_take_10 F10 l2 g = some z) (hP : va_P (gD Γ) gcls (lay Γ g) H) (hS : va_S (gA Γ) s.heap H locs) (hl : lv_has ls 3 [(0, .ref (gB Γ + 14)), (1, .ref (gB Γ + 3)), (2, .int l2)]) : W p l e (gRm 1 24) s m args below meth c H locs 0 0 (MQ below (gQv Γ z) args s 0 0 (gA Γ)) (F0 m 10 ls []) := by
  unfold fs_X0_take_10 at h
  obtain ⟨hx, hb, hml, hr, hown, hts, hK, hlk, hX⟩ := id C0
  refine lv_iload_n hx hb dX0_take_10 rfl (lv_at hl 2 rfl) ?_
  refine lv_sipush (v := 512) hx hb dX0_take_11 (by decide) ?_
  refine lv_icmp_ge (tgt := 34) hx hb dX0_take_14 (by decide) (fun c1 => ?_) (fun c1 => ?_)
  · replace h := gpos c1 h
    exact gvret hx hb hr hlk hP hS dX0_take_34 h
  · replace h := gneg c1 h
    refine lv_aload_n hx hb dX0_take_17 rfl (lv_at hl 0 rfl) ?_
    refine gf_0_0 hx hb hown hts hK hP wf_X0_9 dX0_take_18 ?_
    refine lv_iload_n hx hb dX0_take_21 rfl (lv_at hl 2 rfl) ?_
    refine lv_aload_n hx hb dX0_take_22 rfl (lv_at hl 1 rfl) ?_
    refine lv_iload_n hx hb dX0_take_23 rfl (lv_at hl 2 rfl) ?_
    refine gCVi (rest := [.int l2, .ref (gB Γ + 15)]) C0 cal_X2_heldFor wl_X0_25 wi_X2_heldFor ws_X2_heldFor ⟨Nat.le_of_ble_eq_true rfl, Nat.le_of_ble_eq_true rfl⟩ ⟨Nat.le_of_ble_eq_true rfl, Nat.le_of_ble_eq_true rfl⟩ grv_2 [.int l2] rfl (Nat.le_of_ble_eq_true rfl) hP hS hl.1 dX0_take_24 h (fun u hu => m_X2_heldFor l Γ l2 g u hu) (fun u2 H locs h hP hS => ?_) rfl
    refine gIst hx hb hK hP hS is_15 dX0_take_27 h (fun H locs g3 h hP hS => ?_)
    obtain ⟨x4, ex4⟩ : ∃ y : Int32, y = l2 + (1 : Int32) := ⟨_, rfl⟩
    replace h := gLetI ex4 h
    refine lv_iinc (v := x4) (lv' := [(2, .int x4), (0, .ref (gB Γ + 14)), (1, .ref (gB Γ + 3))]) hx hb dX0_take_28 hl (k := 2) rfl (by rw [ex4]; rfl) (by decide) rfl (fun ls hl => ?_)
    refine lv_goto (tgt := 10) hx hb dX0_take_31 (by decide) ?_
    exact hF10 _ _ _ _ _ h hP hS (lv_sub hl [1, 2, 0] rfl)
set_option maxHeartbeats 2000000 in
set_option maxRecDepth 20000 in
theorem bk_X0_take_10 {p : Program} {l : Launch} {e : Env} {s : State} {m : MethodId} {args : Array Value} {below : List Frame} {meth : Method} {c : Code} {Γ : gE} (C0 : gCx p s m args meth c Γ RX0 cX0_take 3 none)   {z : Unit × gG}   : ∀ (n : Nat) (l2 : Int32) (g : gG) (H : Heap) (locs : List Loc) (ls : Array Slot), fb_X0_take_10 n l2 g = some z → va_P (gD Γ) gcls (lay Γ g) H → va_S (gA Γ) s.heap H locs → lv_has ls 3 [(0, .ref (gB Γ + 14)), (1, .ref (gB Γ + 3)), (2, .int l2)] → W p l e (gRm 1 24) s m args below meth c H locs 0 0 (MQ below (gQv Γ z) args s 0 0 (gA Γ)) (F0 m 10 ls []) := by
  intro n
  induction n with
  | zero => intro l2 g H locs ls h hP hS hl; cases h
  | succ n ih => intro l2 g H locs ls h hP hS hl; exact bs_X0_take_10 C0  ih h hP hS hl
set_option maxHeartbeats 2000000 in
set_option maxRecDepth 20000 in
theorem m_X0_take (l : Launch) (Γ : gE)    (g : gG) (z : Unit × gG) (h : f_X0_take g = some z) : gMv l yX0_take cX0_take 3 none 1 24 Γ [.ref (gB Γ + 14), .ref (gB Γ + 3)] g z := by
  unfold f_X0_take at h
  refine gStart (own := RX0) (by decide +kernel) rfl (Nat.le_of_ble_eq_true rfl) ?_
  intro p e s m below meth c C0 ls hl hP
  have hS : va_S (gA Γ) s.heap s.heap [] := va_S.rf
  have hl : lv_has ls 3 [(0, .ref (gB Γ + 14)), (1, .ref (gB Γ + 3))] := hl
  obtain ⟨hx, hb, hml, hr, hown, hts, hK, hlk, hX⟩ := id C0
  refine lv_aload_n hx hb dX0_take_0 rfl (lv_at hl 0 rfl) ?_
  refine lv_aload_n hx hb dX0_take_1 rfl (lv_at hl 1 rfl) ?_
  refine gCVi (rest := [.ref (gB Γ + 14)]) C0 cal_X2_count wl_X0_19 wi_X2_count ws_X2_count ⟨Nat.le_of_ble_eq_true rfl, Nat.le_of_ble_eq_true rfl⟩ ⟨Nat.le_of_ble_eq_true rfl, Nat.le_of_ble_eq_true rfl⟩ grv_2 [] rfl (Nat.le_of_ble_eq_true rfl) hP hS hl.1 dX0_take_2 h (fun u hu => m_X2_count l Γ g u hu) (fun u1 H locs h hP hS => ?_) rfl
  refine gp_0_1 hx hb hown hts hK hP hS wf_X0_15 dX0_take_5 h (fun H locs g2 h hP hS => ?_)
  refine lv_iconst (v := 0) hx hb dX0_take_8 (by decide) ?_
  refine lv_istore_n (lv' := [(2, .int (0 : Int32)), (0, .ref (gB Γ + 14)), (1, .ref (gB Γ + 3))]) hx hb dX0_take_9 rfl hl (by decide) rfl (fun ls hl => ?_)
  exact bk_X0_take_10 C0  gFuel _ _ _ _ _ h hP hS (lv_sub hl [1, 2, 0] rfl)
set_option maxHeartbeats 2000000 in
set_option maxRecDepth 20000 in
theorem m_X2_xOf (l : Launch) (Γ : gE)   (a1 : Int32) (g : gG) (z : Int32 × gG) (h : f_X2_xOf a1 g = some z) : gMi l yX2_xOf cX2_xOf 2 (some .int) 0 0 Γ [.ref (gB Γ + 3), .int a1] g z := by
  unfold f_X2_xOf at h
  refine gStart (own := RX2) (by decide +kernel) rfl (Nat.le_of_ble_eq_true rfl) ?_
  intro p e s m below meth c C0 ls hl hP
  have hS : va_S (gA Γ) s.heap s.heap [] := va_S.rf
  have hl : lv_has ls 2 [(0, .ref (gB Γ + 3)), (1, .int a1)] := hl
  obtain ⟨hx, hb, hml, hr, hown, hts, hK, hlk, hX⟩ := id C0
  refine lv_iload_n hx hb dX2_xOf_0 rfl (lv_at hl 1 rfl) ?_
  refine lv_if_lt (tgt := 19) hx hb dX2_xOf_1 (by decide) (fun c1 => ?_) (fun c1 => ?_)
  · replace h := gpos c1 h
    refine lv_iconst (v := 0) hx hb dX2_xOf_19 (by decide) ?_
    exact giret hx hb hr hlk hP hS dX2_xOf_20 h
  · replace h := gneg c1 h
    refine lv_iload_n hx hb dX2_xOf_4 rfl (lv_at hl 1 rfl) ?_
    refine lv_bipush (v := 10) hx hb dX2_xOf_5 (by decide) ?_
    refine lv_icmp_ge (tgt := 19) hx hb dX2_xOf_7 (by decide) (fun c2 => ?_) (fun c2 => ?_)
    · replace h := gpos c2 h
      refine lv_iconst (v := 0) hx hb dX2_xOf_19 (by decide) ?_
      exact giret hx hb hr hlk hP hS dX2_xOf_20 h
    · replace h := gneg c2 h
      refine lv_aload_n hx hb dX2_xOf_10 rfl (lv_at hl 0 rfl) ?_
      refine gf_2_1 hx hb hown hts hK hP wf_X2_18 dX2_xOf_11 ?_
      refine lv_iload_n hx hb dX2_xOf_14 rfl (lv_at hl 1 rfl) ?_
      refine gIld hx hb hK hP is_6 dX2_xOf_15 h (fun h => ?_)
      refine lv_goto (tgt := 20) hx hb dX2_xOf_16 (by decide) ?_
      exact giret hx hb hr hlk hP hS dX2_xOf_20 h
set_option maxHeartbeats 2000000 in
set_option maxRecDepth 20000 in
theorem m_X2_yOf (l : Launch) (Γ : gE)   (a1 : Int32) (g : gG) (z : Int32 × gG) (h : f_X2_yOf a1 g = some z) : gMi l yX2_yOf cX2_yOf 2 (some .int) 0 0 Γ [.ref (gB Γ + 3), .int a1] g z := by
  unfold f_X2_yOf at h
  refine gStart (own := RX2) (by decide +kernel) rfl (Nat.le_of_ble_eq_true rfl) ?_
  intro p e s m below meth c C0 ls hl hP
  have hS : va_S (gA Γ) s.heap s.heap [] := va_S.rf
  have hl : lv_has ls 2 [(0, .ref (gB Γ + 3)), (1, .int a1)] := hl
  obtain ⟨hx, hb, hml, hr, hown, hts, hK, hlk, hX⟩ := id C0
  refine lv_iload_n hx hb dX2_yOf_0 rfl (lv_at hl 1 rfl) ?_
  refine lv_if_lt (tgt := 19) hx hb dX2_yOf_1 (by decide) (fun c1 => ?_) (fun c1 => ?_)
  · replace h := gpos c1 h
    refine lv_iconst (v := 0) hx hb dX2_yOf_19 (by decide) ?_
    exact giret hx hb hr hlk hP hS dX2_yOf_20 h
  · replace h := gneg c1 h
    refine lv_iload_n hx hb dX2_yOf_4 rfl (lv_at hl 1 rfl) ?_
    refine lv_bipush (v := 10) hx hb dX2_yOf_5 (by decide) ?_
    refine lv_icmp_ge (tgt := 19) hx hb dX2_yOf_7 (by decide) (fun c2 => ?_) (fun c2 => ?_)
    · replace h := gpos c2 h
      refine lv_iconst (v := 0) hx hb dX2_yOf_19 (by decide) ?_
      exact giret hx hb hr hlk hP hS dX2_yOf_20 h
    · replace h := gneg c2 h
      refine lv_aload_n hx hb dX2_yOf_10 rfl (lv_at hl 0 rfl) ?_
      refine gf_2_2 hx hb hown hts hK hP wf_X2_22 dX2_yOf_11 ?_
      refine lv_iload_n hx hb dX2_yOf_14 rfl (lv_at hl 1 rfl) ?_
      refine gIld hx hb hK hP is_7 dX2_yOf_15 h (fun h => ?_)
      refine lv_goto (tgt := 20) hx hb dX2_yOf_16 (by decide) ?_
      exact giret hx hb hr hlk hP hS dX2_yOf_20 h
set_option maxHeartbeats 2000000 in
set_option maxRecDepth 20000 in
theorem m_X0_count (l : Launch) (Γ : gE)    (g : gG) (z : Int32 × gG) (h : f_X0_count g = some z) : gMi l yX0_count cX0_count 1 (some .int) 0 0 Γ [.ref (gB Γ + 14)] g z := by
  unfold f_X0_count at h
  refine gStart (own := RX0) (by decide +kernel) rfl (Nat.le_of_ble_eq_true rfl) ?_
  intro p e s m below meth c C0 ls hl hP
  have hS : va_S (gA Γ) s.heap s.heap [] := va_S.rf
  have hl : lv_has ls 1 [(0, .ref (gB Γ + 14))] := hl
  obtain ⟨hx, hb, hml, hr, hown, hts, hK, hlk, hX⟩ := id C0
  refine lv_aload_n hx hb dX0_count_0 rfl (lv_at hl 0 rfl) ?_
  refine gf_0_1 hx hb hown hts hK hP wf_X0_15 dX0_count_1 ?_
  exact giret hx hb hr hlk hP hS dX0_count_4 h
set_option maxHeartbeats 2000000 in
set_option maxRecDepth 20000 in
theorem m_X0_chest (l : Launch) (Γ : gE)    (g : gG) (z : Int32 × gG) (h : f_X0_chest g = some z) : gMi l yX0_chest cX0_chest 1 (some .int) 0 0 Γ [.ref (gB Γ + 14)] g z := by
  unfold f_X0_chest at h
  refine gStart (own := RX0) (by decide +kernel) rfl (Nat.le_of_ble_eq_true rfl) ?_
  intro p e s m below meth c C0 ls hl hP
  have hS : va_S (gA Γ) s.heap s.heap [] := va_S.rf
  have hl : lv_has ls 1 [(0, .ref (gB Γ + 14))] := hl
  obtain ⟨hx, hb, hml, hr, hown, hts, hK, hlk, hX⟩ := id C0
  refine lv_aload_n hx hb dX0_chest_0 rfl (lv_at hl 0 rfl) ?_
  refine gf_0_1 hx hb hown hts hK hP wf_X0_15 dX0_chest_1 ?_
  refine lv_iconst (v := 1) hx hb dX0_chest_4 (by decide) ?_
  refine lv_isub hx hb dX0_chest_5 ?_
  exact giret hx hb hr hlk hP hS dX0_chest_6 h
set_option maxHeartbeats 2000000 in
set_option maxRecDepth 20000 in
theorem m_X0_hasChest (l : Launch) (Γ : gE)   (a1 : Int32) (g : gG) (z : Int32 × gG) (h : f_X0_hasChest a1 g = some z) : gMi l yX0_hasChest cX0_hasChest 2 (some .boolean) 0 0 Γ [.ref (gB Γ + 14), .int a1] g z := by
  unfold f_X0_hasChest at h
  refine gStart (own := RX0) (by decide +kernel) rfl (Nat.le_of_ble_eq_true rfl) ?_
  intro p e s m below meth c C0 ls hl hP
  have hS : va_S (gA Γ) s.heap s.heap [] := va_S.rf
  have hl : lv_has ls 2 [(0, .ref (gB Γ + 14)), (1, .int a1)] := hl
  obtain ⟨hx, hb, hml, hr, hown, hts, hK, hlk, hX⟩ := id C0
  refine lv_iload_n hx hb dX0_hasChest_0 rfl (lv_at hl 1 rfl) ?_
  refine lv_aload_n hx hb dX0_hasChest_1 rfl (lv_at hl 0 rfl) ?_
  refine gf_0_1 hx hb hown hts hK hP wf_X0_15 dX0_hasChest_2 ?_
  refine lv_iconst (v := 1) hx hb dX0_hasChest_5 (by decide) ?_
  refine lv_isub hx hb dX0_hasChest_6 ?_
  refine lv_ishr hx hb dX0_hasChest_7 ?_
  refine lv_iconst (v := 1) hx hb dX0_hasChest_8 (by decide) ?_
  refine lv_iand hx hb dX0_hasChest_9 ?_
  refine lv_if_eq (tgt := 17) hx hb dX0_hasChest_10 (by decide) (fun c1 => ?_) (fun c1 => ?_)
  · replace h := gpos c1 h
    refine lv_iconst (v := 0) hx hb dX0_hasChest_17 (by decide) ?_
    exact gzret0 hx hb hr hlk hP hS rfl dX0_hasChest_18 h
  · replace h := gneg c1 h
    refine lv_iconst (v := 1) hx hb dX0_hasChest_13 (by decide) ?_
    refine lv_goto (tgt := 18) hx hb dX0_hasChest_14 (by decide) ?_
    exact gzret0 hx hb hr hlk hP hS rfl dX0_hasChest_18 h
set_option maxHeartbeats 2000000 in
set_option maxRecDepth 20000 in
theorem m_J6_bitCount_0f7a4 (l : Launch) (Γ : gE)   (a0 : Int32) (g : gG) (z : Int32 × gG) (h : f_J6_bitCount_0f7a4 a0 g = some z) : gMi l yJ6_bitCount_0f7a4 cJ6_bitCount_0f7a4 1 (some .int) 0 0 Γ [.int a0] g z := by
  unfold f_J6_bitCount_0f7a4 at h
  refine gStart (own := RJ6) (by decide +kernel) rfl (Nat.le_of_ble_eq_true rfl) ?_
  intro p e s m below meth c C0 ls hl hP
  have hS : va_S (gA Γ) s.heap s.heap [] := va_S.rf
  have hl : lv_has ls 1 [(0, .int a0)] := hl
  obtain ⟨hx, hb, hml, hr, hown, hts, hK, hlk, hX⟩ := id C0
  refine lv_iload_n hx hb dJ6_bitCount_0f7a4_0 rfl (lv_at hl 0 rfl) ?_
  refine lv_iload_n hx hb dJ6_bitCount_0f7a4_1 rfl (lv_at hl 0 rfl) ?_
  refine lv_iconst (v := 1) hx hb dJ6_bitCount_0f7a4_2 (by decide) ?_
  refine lv_iushr hx hb dJ6_bitCount_0f7a4_3 rfl ?_
  refine lv_ldcw (v := 1431655765) hx hb hown (hts _ wk_J6_265) dJ6_bitCount_0f7a4_4 ?_
  refine lv_iand hx hb dJ6_bitCount_0f7a4_7 ?_
  refine lv_isub hx hb dJ6_bitCount_0f7a4_8 ?_
  refine lv_topi (fun x1 ex1 => ?_)
  replace h := gLetI ex1 h
  refine lv_istore_n (lv' := [(0, .int x1)]) hx hb dJ6_bitCount_0f7a4_9 rfl hl (by decide) rfl (fun ls hl => ?_)
  refine lv_iload_n hx hb dJ6_bitCount_0f7a4_10 rfl (lv_at hl 0 rfl) ?_
  refine lv_ldcw (v := 858993459) hx hb hown (hts _ wk_J6_266) dJ6_bitCount_0f7a4_11 ?_
  refine lv_iand hx hb dJ6_bitCount_0f7a4_14 ?_
  refine lv_iload_n hx hb dJ6_bitCount_0f7a4_15 rfl (lv_at hl 0 rfl) ?_
  refine lv_iconst (v := 2) hx hb dJ6_bitCount_0f7a4_16 (by decide) ?_
  refine lv_iushr hx hb dJ6_bitCount_0f7a4_17 rfl ?_
  refine lv_ldcw (v := 858993459) hx hb hown (hts _ wk_J6_266) dJ6_bitCount_0f7a4_18 ?_
  refine lv_iand hx hb dJ6_bitCount_0f7a4_21 ?_
  refine lv_iadd hx hb dJ6_bitCount_0f7a4_22 ?_
  refine lv_topi (fun x2 ex2 => ?_)
  replace h := gLetI ex2 h
  refine lv_istore_n (lv' := [(0, .int x2)]) hx hb dJ6_bitCount_0f7a4_23 rfl hl (by decide) rfl (fun ls hl => ?_)
  refine lv_iload_n hx hb dJ6_bitCount_0f7a4_24 rfl (lv_at hl 0 rfl) ?_
  refine lv_iload_n hx hb dJ6_bitCount_0f7a4_25 rfl (lv_at hl 0 rfl) ?_
  refine lv_iconst (v := 4) hx hb dJ6_bitCount_0f7a4_26 (by decide) ?_
  refine lv_iushr hx hb dJ6_bitCount_0f7a4_27 rfl ?_
  refine lv_iadd hx hb dJ6_bitCount_0f7a4_28 ?_
  refine lv_ldcw (v := 252645135) hx hb hown (hts _ wk_J6_267) dJ6_bitCount_0f7a4_29 ?_
  refine lv_iand hx hb dJ6_bitCount_0f7a4_32 ?_
  refine lv_topi (fun x3 ex3 => ?_)
  replace h := gLetI ex3 h
  refine lv_istore_n (lv' := [(0, .int x3)]) hx hb dJ6_bitCount_0f7a4_33 rfl hl (by decide) rfl (fun ls hl => ?_)
  refine lv_iload_n hx hb dJ6_bitCount_0f7a4_34 rfl (lv_at hl 0 rfl) ?_
  refine lv_iload_n hx hb dJ6_bitCount_0f7a4_35 rfl (lv_at hl 0 rfl) ?_
  refine lv_bipush (v := 8) hx hb dJ6_bitCount_0f7a4_36 (by decide) ?_
  refine lv_iushr hx hb dJ6_bitCount_0f7a4_38 rfl ?_
  refine lv_iadd hx hb dJ6_bitCount_0f7a4_39 ?_
  refine lv_topi (fun x4 ex4 => ?_)
  replace h := gLetI ex4 h
  refine lv_istore_n (lv' := [(0, .int x4)]) hx hb dJ6_bitCount_0f7a4_40 rfl hl (by decide) rfl (fun ls hl => ?_)
  refine lv_iload_n hx hb dJ6_bitCount_0f7a4_41 rfl (lv_at hl 0 rfl) ?_
  refine lv_iload_n hx hb dJ6_bitCount_0f7a4_42 rfl (lv_at hl 0 rfl) ?_
  refine lv_bipush (v := 16) hx hb dJ6_bitCount_0f7a4_43 (by decide) ?_
  refine lv_iushr hx hb dJ6_bitCount_0f7a4_45 rfl ?_
  refine lv_iadd hx hb dJ6_bitCount_0f7a4_46 ?_
  refine lv_topi (fun x5 ex5 => ?_)
  replace h := gLetI ex5 h
  refine lv_istore_n (lv' := [(0, .int x5)]) hx hb dJ6_bitCount_0f7a4_47 rfl hl (by decide) rfl (fun ls hl => ?_)
  refine lv_iload_n hx hb dJ6_bitCount_0f7a4_48 rfl (lv_at hl 0 rfl) ?_
  refine lv_bipush (v := 63) hx hb dJ6_bitCount_0f7a4_49 (by decide) ?_
  refine lv_iand hx hb dJ6_bitCount_0f7a4_51 ?_
  exact giret hx hb hr hlk hP hS dJ6_bitCount_0f7a4_52 h
set_option maxHeartbeats 2000000 in
set_option maxRecDepth 20000 in
theorem m_X0_hasPlace (l : Launch) (Γ : gE)   (a1 : Int32) (g : gG) (z : Int32 × gG) (h : f_X0_hasPlace a1 g = some z) : gMi l yX0_hasPlace cX0_hasPlace 2 (some .boolean) 0 0 Γ [.ref (gB Γ + 14), .int a1] g z := by
  unfold f_X0_hasPlace at h
  refine gStart (own := RX0) (by decide +kernel) rfl (Nat.le_of_ble_eq_true rfl) ?_
  intro p e s m below meth c C0 ls hl hP
  have hS : va_S (gA Γ) s.heap s.heap [] := va_S.rf
  have hl : lv_has ls 2 [(0, .ref (gB Γ + 14)), (1, .int a1)] := hl
  obtain ⟨hx, hb, hml, hr, hown, hts, hK, hlk, hX⟩ := id C0
  refine lv_iload_n hx hb dX0_hasPlace_0 rfl (lv_at hl 1 rfl) ?_
  refine lv_if_lt (tgt := 16) hx hb dX0_hasPlace_1 (by decide) (fun c1 => ?_) (fun c1 => ?_)
  · replace h := gpos c1 h
    refine lv_iconst (v := 0) hx hb dX0_hasPlace_16 (by decide) ?_
    exact gzret0 hx hb hr hlk hP hS rfl dX0_hasPlace_17 h
  · replace h := gneg c1 h
    refine lv_iload_n hx hb dX0_hasPlace_4 rfl (lv_at hl 1 rfl) ?_
    refine lv_aload_n hx hb dX0_hasPlace_5 rfl (lv_at hl 0 rfl) ?_
    refine gf_0_1 hx hb hown hts hK hP wf_X0_15 dX0_hasPlace_6 ?_
    refine lv_icmp_ge (tgt := 16) hx hb dX0_hasPlace_9 (by decide) (fun c2 => ?_) (fun c2 => ?_)
    · replace h := gpos c2 h
      refine lv_iconst (v := 0) hx hb dX0_hasPlace_16 (by decide) ?_
      exact gzret0 hx hb hr hlk hP hS rfl dX0_hasPlace_17 h
    · replace h := gneg c2 h
      refine lv_iconst (v := 1) hx hb dX0_hasPlace_12 (by decide) ?_
      refine lv_goto (tgt := 17) hx hb dX0_hasPlace_13 (by decide) ?_
      exact gzret0 hx hb hr hlk hP hS rfl dX0_hasPlace_17 h
set_option maxHeartbeats 2000000 in
set_option maxRecDepth 20000 in
theorem m_X0_allPlaces (l : Launch) (Γ : gE)    (g : gG) (z : Int32 × gG) (h : f_X0_allPlaces g = some z) : gMi l yX0_allPlaces cX0_allPlaces 1 (some .int) 0 0 Γ [.ref (gB Γ + 14)] g z := by
  unfold f_X0_allPlaces at h
  refine gStart (own := RX0) (by decide +kernel) rfl (Nat.le_of_ble_eq_true rfl) ?_
  intro p e s m below meth c C0 ls hl hP
  have hS : va_S (gA Γ) s.heap s.heap [] := va_S.rf
  have hl : lv_has ls 1 [(0, .ref (gB Γ + 14))] := hl
  obtain ⟨hx, hb, hml, hr, hown, hts, hK, hlk, hX⟩ := id C0
  refine lv_iconst (v := 1) hx hb dX0_allPlaces_0 (by decide) ?_
  refine lv_aload_n hx hb dX0_allPlaces_1 rfl (lv_at hl 0 rfl) ?_
  refine gf_0_1 hx hb hown hts hK hP wf_X0_15 dX0_allPlaces_2 ?_
  refine lv_ishl hx hb dX0_allPlaces_5 ?_
  refine lv_iconst (v := 1) hx hb dX0_allPlaces_6 (by decide) ?_
  refine lv_isub hx hb dX0_allPlaces_7 ?_
  exact giret hx hb hr hlk hP hS dX0_allPlaces_8 h
set_option maxHeartbeats 2000000 in
set_option maxRecDepth 20000 in
theorem m_X0_isHeld (l : Launch) (Γ : gE)   (a1 : Int32) (a2 : Int32) (a3 : Int32) (g : gG) (z : Int32 × gG) (h : f_X0_isHeld a1 a2 a3 g = some z) : gMi l yX0_isHeld cX0_isHeld 4 (some .boolean) 1 21 Γ [.ref (gB Γ + 14), .int a1, .int a2, .int a3] g z := by
  unfold f_X0_isHeld at h
  refine gStart (own := RX0) (by decide +kernel) rfl (Nat.le_of_ble_eq_true rfl) ?_
  intro p e s m below meth c C0 ls hl hP
  have hS : va_S (gA Γ) s.heap s.heap [] := va_S.rf
  have hl : lv_has ls 4 [(0, .ref (gB Γ + 14)), (1, .int a1), (2, .int a2), (3, .int a3)] := hl
  obtain ⟨hx, hb, hml, hr, hown, hts, hK, hlk, hX⟩ := id C0
  refine lv_iload_n hx hb dX0_isHeld_0 rfl (lv_at hl 1 rfl) ?_
  refine lv_aload_n hx hb dX0_isHeld_1 rfl (lv_at hl 0 rfl) ?_
  refine gf_0_0 hx hb hown hts hK hP wf_X0_9 dX0_isHeld_2 ?_
  refine lv_iload_n hx hb dX0_isHeld_5 rfl (lv_at hl 2 rfl) ?_
  refine lv_sipush (v := 511) hx hb dX0_isHeld_6 (by decide) ?_
  refine lv_iand hx hb dX0_isHeld_9 ?_
  refine gIld hx hb hK hP is_15 dX0_isHeld_10 h (fun h => ?_)
  refine lv_iload_n hx hb dX0_isHeld_11 rfl (lv_at hl 3 rfl) ?_
  refine lv_ior hx hb dX0_isHeld_12 ?_
  refine gCNi (rest := []) C0 cal_X9_isIn wln_X0_29 wt_X9_isIn ⟨Nat.le_of_ble_eq_true rfl, Nat.le_of_ble_eq_true rfl⟩ ⟨Nat.le_of_ble_eq_true rfl, Nat.le_of_ble_eq_true rfl⟩ [.int a1, .int ((g.1 15 (a2 &&& (511 : Int32)).toNatClampNeg) ||| a3)] rfl (Nat.le_of_ble_eq_true rfl) hP hS hl.1 dX0_isHeld_13 h (fun u hu => m_X9_isIn l Γ a1 ((g.1 15 (a2 &&& (511 : Int32)).toNatClampNeg) ||| a3) g u hu) (fun u1 H locs h hP hS => ?_) rfl
  exact gzret hx hb hr hlk hP hS dX0_isHeld_16 h
set_option maxHeartbeats 2000000 in
set_option maxRecDepth 20000 in
theorem bs_X0_openAfter_18 {p : Program} {l : Launch} {e : Env} {s : State} {m : MethodId} {args : Array Value} {below : List Frame} {meth : Method} {c : Code} {Γ : gE} (C0 : gCx p s m args meth c Γ RX0 cX0_openAfter 4 (some .int))   {z : Int32 × gG}  {l1 : Int32} {l2 : Int32} {s0 : Int32} {g : gG} {H : Heap} {locs : List Loc} {ls : Array Slot}  (h : fs_X0_openAfter_18 l1 l2 s0 g = some z) (hP : va_P (gD Γ) gcls (lay Γ g) H) (hS : va_S (gA Γ) s.heap H locs) (hl : lv_has ls 4 [(0, .ref (gB Γ + 14)), (1, .int l1), (2, .int l2)]) : W p l e (gRm 0 0) s m args below meth c H locs 0 0 (MQ below (gQi Γ z) args s 0 0 (gA Γ)) (F0 m 18 ls [.int s0]) := by
  unfold fs_X0_openAfter_18 at h
  obtain ⟨hx, hb, hml, hr, hown, hts, hK, hlk, hX⟩ := id C0
  refine lv_istore_n (lv' := [(3, .int s0), (0, .ref (gB Γ + 14)), (1, .int l1), (2, .int l2)]) hx hb dX0_openAfter_18 rfl hl (by decide) rfl (fun ls hl => ?_)
  refine lv_iload_n hx hb dX0_openAfter_19 rfl (lv_at hl 0 rfl) ?_
  refine lv_if_eq (tgt := 27) hx hb dX0_openAfter_20 (by decide) (fun c1 => ?_) (fun c1 => ?_)
  · replace h := gpos c1 h
    refine lv_aload_n hx hb dX0_openAfter_27 rfl (lv_at hl 1 rfl) ?_
    refine gf_0_0 hx hb hown hts hK hP wf_X0_9 dX0_openAfter_28 ?_
    refine lv_iload_n hx hb dX0_openAfter_31 rfl (lv_at hl 2 rfl) ?_
    refine lv_sipush (v := 511) hx hb dX0_openAfter_32 (by decide) ?_
    refine lv_iand hx hb dX0_openAfter_35 ?_
    refine gIld hx hb hK hP is_15 dX0_openAfter_36 h (fun h => ?_)
    refine lv_iload_n hx hb dX0_openAfter_37 rfl (lv_at hl 3 rfl) ?_
    refine lv_ior hx hb dX0_openAfter_38 ?_
    refine lv_iload_n hx hb dX0_openAfter_39 rfl (lv_at hl 2 rfl) ?_
    refine lv_iconst (v := -1) hx hb dX0_openAfter_40 (by decide) ?_
    refine lv_ixor hx hb dX0_openAfter_41 ?_
    refine lv_iand hx hb dX0_openAfter_42 ?_
    exact giret hx hb hr hlk hP hS dX0_openAfter_43 h
  · replace h := gneg c1 h
    refine lv_iconst (v := 0) hx hb dX0_openAfter_23 (by decide) ?_
    refine lv_goto (tgt := 43) hx hb dX0_openAfter_24 (by decide) ?_
    exact giret hx hb hr hlk hP hS dX0_openAfter_43 h
set_option maxHeartbeats 2000000 in
set_option maxRecDepth 20000 in
theorem m_X0_openAfter (l : Launch) (Γ : gE)   (a1 : Int32) (a2 : Int32) (g : gG) (z : Int32 × gG) (h : f_X0_openAfter a1 a2 g = some z) : gMi l yX0_openAfter cX0_openAfter 4 (some .int) 0 0 Γ [.ref (gB Γ + 14), .int a1, .int a2] g z := by
  unfold f_X0_openAfter at h
  refine gStart (own := RX0) (by decide +kernel) rfl (Nat.le_of_ble_eq_true rfl) ?_
  intro p e s m below meth c C0 ls hl hP
  have hS : va_S (gA Γ) s.heap s.heap [] := va_S.rf
  have hl : lv_has ls 4 [(0, .ref (gB Γ + 14)), (1, .int a1), (2, .int a2)] := hl
  obtain ⟨hx, hb, hml, hr, hown, hts, hK, hlk, hX⟩ := id C0
  refine lv_iload_n hx hb dX0_openAfter_0 rfl (lv_at hl 1 rfl) ?_
  refine lv_aload_n hx hb dX0_openAfter_1 rfl (lv_at hl 0 rfl) ?_
  refine gf_0_1 hx hb hown hts hK hP wf_X0_15 dX0_openAfter_2 ?_
  refine lv_iconst (v := 1) hx hb dX0_openAfter_5 (by decide) ?_
  refine lv_isub hx hb dX0_openAfter_6 ?_
  refine lv_ishr hx hb dX0_openAfter_7 ?_
  refine lv_iconst (v := 1) hx hb dX0_openAfter_8 (by decide) ?_
  refine lv_iand hx hb dX0_openAfter_9 ?_
  refine lv_if_eq (tgt := 17) hx hb dX0_openAfter_10 (by decide) (fun c1 => ?_) (fun c1 => ?_)
  · replace h := gpos c1 h
    refine lv_iconst (v := 0) hx hb dX0_openAfter_17 (by decide) ?_
    exact bs_X0_openAfter_18 C0  h hP hS (lv_sub hl [0, 1, 2] rfl)
  · replace h := gneg c1 h
    refine lv_iconst (v := 1) hx hb dX0_openAfter_13 (by decide) ?_
    refine lv_goto (tgt := 18) hx hb dX0_openAfter_14 (by decide) ?_
    exact bs_X0_openAfter_18 C0  h hP hS (lv_sub hl [0, 1, 2] rfl)
set_option maxHeartbeats 2000000 in
set_option maxRecDepth 20000 in
theorem bs_X9_smallestOf_2 {p : Program} {l : Launch} {e : Env} {s : State} {m : MethodId} {args : Array Value} {below : List Frame} {meth : Method} {c : Code} {Γ : gE} (C0 : gCx p s m args meth c Γ RX9 cX9_smallestOf 2 (some .int))   {z : Int32 × gG} {F2 : Int32 → Int32 → gG → Option (Int32 × gG)} {l0 : Int32} {l1 : Int32} {g : gG} {H : Heap} {locs : List Loc} {ls : Array Slot} (hF2 : ∀ (l0 : Int32) (l1 : Int32) (g : gG) (H : Heap) (locs : List Loc) (ls : Array Slot), F2 l0 l1 g = some z → va_P (gD Γ) gcls (lay Γ g) H → va_S (gA Γ) s.heap H locs → lv_has ls 2 [(0, .int l0), (1, .int l1)] → W p l e (gRm 1 21) s m args below meth c H locs 0 0 (MQ below (gQi Γ z) args s 0 0 (gA Γ)) (F0 m 2 ls [])) (h : fs_X9_smallestOf_2 F2 l0 l1 g = some z) (hP : va_P (gD Γ) gcls (lay Γ g) H) (hS : va_S (gA Γ) s.heap H locs) (hl : lv_has ls 2 [(0, .int l0), (1, .int l1)]) : W p l e (gRm 1 21) s m args below meth c H locs 0 0 (MQ below (gQi Γ z) args s 0 0 (gA Γ)) (F0 m 2 ls []) := by
  unfold fs_X9_smallestOf_2 at h
  obtain ⟨hx, hb, hml, hr, hown, hts, hK, hlk, hX⟩ := id C0
  refine lv_iload_n hx hb dX9_smallestOf_2 rfl (lv_at hl 1 rfl) ?_
  refine lv_bipush (v := 10) hx hb dX9_smallestOf_3 (by decide) ?_
  refine lv_icmp_ge (tgt := 24) hx hb dX9_smallestOf_5 (by decide) (fun c1 => ?_) (fun c1 => ?_)
  · replace h := gpos c1 h
    refine lv_bipush (v := -9) hx hb dX9_smallestOf_24 (by decide) ?_
    exact giret hx hb hr hlk hP hS dX9_smallestOf_26 h
  · replace h := gneg c1 h
    refine lv_iload_n hx hb dX9_smallestOf_8 rfl (lv_at hl 1 rfl) ?_
    refine lv_iload_n hx hb dX9_smallestOf_9 rfl (lv_at hl 0 rfl) ?_
    refine gCSi (rest := []) C0 cal_X9_isIn wl_X9_325 wt_X9_isIn ⟨Nat.le_of_ble_eq_true rfl, Nat.le_of_ble_eq_true rfl⟩ ⟨Nat.le_of_ble_eq_true rfl, Nat.le_of_ble_eq_true rfl⟩ [.int l1, .int l0] rfl (Nat.le_of_ble_eq_true rfl) hP hS hl.1 dX9_smallestOf_10 h (fun u hu => m_X9_isIn l Γ l1 l0 g u hu) (fun u2 H locs h hP hS => ?_) rfl
    refine lv_if_eq (tgt := 18) hx hb dX9_smallestOf_13 (by decide) (fun c3 => ?_) (fun c3 => ?_)
    · replace h := gpos c3 h
      obtain ⟨x4, ex4⟩ : ∃ y : Int32, y = l1 + (1 : Int32) := ⟨_, rfl⟩
      replace h := gLetI ex4 h
      refine lv_iinc (v := x4) (lv' := [(1, .int x4), (0, .int l0)]) hx hb dX9_smallestOf_18 hl (k := 1) rfl (by rw [ex4]; rfl) (by decide) rfl (fun ls hl => ?_)
      refine lv_goto (tgt := 2) hx hb dX9_smallestOf_21 (by decide) ?_
      exact hF2 _ _ _ _ _ _ h hP hS (lv_sub hl [1, 0] rfl)
    · replace h := gneg c3 h
      refine lv_iload_n hx hb dX9_smallestOf_16 rfl (lv_at hl 1 rfl) ?_
      exact giret hx hb hr hlk hP hS dX9_smallestOf_17 h
set_option maxHeartbeats 2000000 in
set_option maxRecDepth 20000 in
theorem bk_X9_smallestOf_2 {p : Program} {l : Launch} {e : Env} {s : State} {m : MethodId} {args : Array Value} {below : List Frame} {meth : Method} {c : Code} {Γ : gE} (C0 : gCx p s m args meth c Γ RX9 cX9_smallestOf 2 (some .int))   {z : Int32 × gG}   : ∀ (n : Nat) (l0 : Int32) (l1 : Int32) (g : gG) (H : Heap) (locs : List Loc) (ls : Array Slot), fb_X9_smallestOf_2 n l0 l1 g = some z → va_P (gD Γ) gcls (lay Γ g) H → va_S (gA Γ) s.heap H locs → lv_has ls 2 [(0, .int l0), (1, .int l1)] → W p l e (gRm 1 21) s m args below meth c H locs 0 0 (MQ below (gQi Γ z) args s 0 0 (gA Γ)) (F0 m 2 ls []) := by
  intro n
  induction n with
  | zero => intro l0 l1 g H locs ls h hP hS hl; cases h
  | succ n ih => intro l0 l1 g H locs ls h hP hS hl; exact bs_X9_smallestOf_2 C0  ih h hP hS hl
set_option maxHeartbeats 2000000 in
set_option maxRecDepth 20000 in
theorem m_X9_smallestOf (l : Launch) (Γ : gE)   (a0 : Int32) (g : gG) (z : Int32 × gG) (h : f_X9_smallestOf a0 g = some z) : gMi l yX9_smallestOf cX9_smallestOf 2 (some .int) 1 21 Γ [.int a0] g z := by
  unfold f_X9_smallestOf at h
  refine gStart (own := RX9) (by decide +kernel) rfl (Nat.le_of_ble_eq_true rfl) ?_
  intro p e s m below meth c C0 ls hl hP
  have hS : va_S (gA Γ) s.heap s.heap [] := va_S.rf
  have hl : lv_has ls 2 [(0, .int a0)] := hl
  obtain ⟨hx, hb, hml, hr, hown, hts, hK, hlk, hX⟩ := id C0
  refine lv_iconst (v := 0) hx hb dX9_smallestOf_0 (by decide) ?_
  refine lv_istore_n (lv' := [(1, .int (0 : Int32)), (0, .int a0)]) hx hb dX9_smallestOf_1 rfl hl (by decide) rfl (fun ls hl => ?_)
  exact bk_X9_smallestOf_2 C0  gFuel _ _ _ _ _ _ h hP hS (lv_sub hl [1, 0] rfl)
