theorem wcw_L_load : Cond.codeWith yL_load cL_load 2 (some .long) [(0, 5, 6, 19)] ∈ lw_good := wm 302 (by decide +kernel) (by decide +kernel)
theorem wk_L_243 : Cond.constant RL 243 (83003 : Int32) ∈ lw_good := wm 1158 (by decide +kernel) (by decide +kernel)
theorem wkl_L_203 : Cond.constantLong RL 203 (3000100010101020 : Int64) ∈ lw_good := wm 1138 (by decide +kernel) (by decide +kernel)
theorem wl_L_216 : Cond.methodLink RL 216 yL_draw ∈ lw_good := wm 295 (by decide +kernel) (by decide +kernel)
theorem wl_L_220 : Cond.methodLink RL 220 yL_alike ∈ lw_good := wm 1131 (by decide +kernel) (by decide +kernel)
theorem wl_L_224 : Cond.methodLink RL 224 yL_errors ∈ lw_good := wm 557 (by decide +kernel) (by decide +kernel)
theorem wl_L_228 : Cond.methodLink RL 228 yL_kept ∈ lw_good := wm 1083 (by decide +kernel) (by decide +kernel)
theorem wl_L_231 : Cond.methodLink RL 231 yL_tells ∈ lw_good := wm 1139 (by decide +kernel) (by decide +kernel)
theorem wl_L_235 : Cond.methodLink RL 235 yL_load ∈ lw_good := wm 300 (by decide +kernel) (by decide +kernel)
theorem wl_L_237 : Cond.methodLink RL 237 yL_act ∈ lw_good := wm 1154 (by decide +kernel) (by decide +kernel)
theorem wl_L_240 : Cond.methodLink RL 240 yL_follows ∈ lw_good := wm 1110 (by decide +kernel) (by decide +kernel)
theorem wt_L_act : Cond.static yL_act ∈ lw_good := wm 1155 (by decide +kernel) (by decide +kernel)
theorem wt_L_alike : Cond.static yL_alike ∈ lw_good := wm 1132 (by decide +kernel) (by decide +kernel)
theorem wt_L_draw : Cond.static yL_draw ∈ lw_good := wm 296 (by decide +kernel) (by decide +kernel)
theorem wt_L_errors : Cond.static yL_errors ∈ lw_good := wm 558 (by decide +kernel) (by decide +kernel)
theorem wt_L_follows : Cond.static yL_follows ∈ lw_good := wm 1111 (by decide +kernel) (by decide +kernel)
theorem wt_L_kept : Cond.static yL_kept ∈ lw_good := wm 1084 (by decide +kernel) (by decide +kernel)
theorem wt_L_load : Cond.static yL_load ∈ lw_good := wm 301 (by decide +kernel) (by decide +kernel)
theorem wt_L_tells : Cond.static yL_tells ∈ lw_good := wm 1140 (by decide +kernel) (by decide +kernel)
theorem cal_L_act : gCal yL_act cL_act 9 (some .long) 3 := ⟨wm 1156 (by decide +kernel) (by decide +kernel), wm 32 (by decide +kernel) (by decide +kernel), by decide +kernel⟩
theorem cal_L_alike : gCal yL_alike cL_alike 3 (some .boolean) 3 := ⟨wm 1133 (by decide +kernel) (by decide +kernel), wm 32 (by decide +kernel) (by decide +kernel), by decide +kernel⟩
theorem cal_L_draw : gCal yL_draw cL_draw 2 (some .int) 2 := ⟨wm 297 (by decide +kernel) (by decide +kernel), wm 32 (by decide +kernel) (by decide +kernel), by decide +kernel⟩
theorem cal_L_errors : gCal yL_errors cL_errors 8 (some .boolean) 1 := ⟨wm 559 (by decide +kernel) (by decide +kernel), wm 32 (by decide +kernel) (by decide +kernel), by decide +kernel⟩
set_option maxRecDepth 100000 in
set_option maxHeartbeats 4000000 in
theorem cal_L_follows : gCal yL_follows cL_follows 32 (some .boolean) 2 := ⟨wm 1112 rfl (by decide +kernel), wm 32 (by decide +kernel) (by decide +kernel), by decide +kernel⟩
set_option maxRecDepth 100000 in
set_option maxHeartbeats 4000000 in
theorem cal_L_kept : gCal yL_kept cL_kept 27 (some .boolean) 1 := ⟨wm 1085 rfl (by decide +kernel), wm 32 (by decide +kernel) (by decide +kernel), by decide +kernel⟩
theorem cal_L_tells : gCal yL_tells cL_tells 10 (some .boolean) 3 := ⟨wm 1141 (by decide +kernel) (by decide +kernel), wm 32 (by decide +kernel) (by decide +kernel), by decide +kernel⟩
def gFuelW : Nat := 55
def f_L_alike (a2 : Int32) (g h0 : gG) : Option (Int32 × gG × gG) :=
  (f_L_now g).bind (fun u1 => (f_L_now h0).bind (fun u2 => if (lg_cmp u1.1 u2.1) = (0 : Int32) then ((f_X9_errorPosition u1.2).bind (fun u4 => (f_X9_errorPosition u2.2).bind (fun u5 => if u4.1 = u5.1 then ((f_X9_deadEnds u4.2).bind (fun u7 => (f_X9_deadEnds u5.2).bind (fun u8 => if u7.1 = u8.1 then ((f_X9_easeBy u7.2).bind (fun u10 => (f_X9_easeBy u8.2).bind (fun u11 => if u10.1 = u11.1 then ((f_L_simulate a2.toInt64 (12 : Int32) u10.2).bind (fun u13 => (f_L_simulate a2.toInt64 (12 : Int32) u11.2).bind (fun u14 => if (lg_cmp u13.1 u14.1) = (0 : Int32) then ((f_L_holds (a2 - a2 / (10 : Int32) * (10 : Int32)) ((a2 / (10 : Int32)) - (a2 / (10 : Int32)) / (64 : Int32) * (64 : Int32)) u13.2).bind (fun u16 => (f_L_holds (a2 - a2 / (10 : Int32) * (10 : Int32)) ((a2 / (10 : Int32)) - (a2 / (10 : Int32)) / (64 : Int32) * (64 : Int32)) u14.2).bind (fun u17 => if (lg_cmp u16.1 u17.1) = (0 : Int32) then ((f_L_script (4 : Int32) ((3000100010101020 : Int64) + (a2 - a2 / (9 : Int32) * (9 : Int32)).toInt64) u16.2).bind (fun u19 => (f_L_script (4 : Int32) ((3000100010101020 : Int64) + (a2 - a2 / (9 : Int32) * (9 : Int32)).toInt64) u17.2).bind (fun u20 => if (lg_cmp u19.1 u20.1) = (0 : Int32) then ((f_L_quickest (a2 - a2 / (4 : Int32) * (4 : Int32)) (0 : Int32) u19.2).bind (fun u22 => (f_L_quickest (a2 - a2 / (4 : Int32) * (4 : Int32)) (0 : Int32) u20.2).bind (fun u23 => if (lg_cmp u22.1 u23.1) = (0 : Int32) then ((f_L_needed (a2 - a2 / (4 : Int32) * (4 : Int32)) u22.2).bind (fun u25 => (f_L_needed (a2 - a2 / (4 : Int32) * (4 : Int32)) u23.2).bind (fun u26 => if (lg_cmp u25.1 u26.1) = (0 : Int32) then (some ((1 : Int32), u25.2, u26.2)) else (some ((0 : Int32), u25.2, u26.2))))) else (some ((0 : Int32), u22.2, u23.2))))) else (some ((0 : Int32), u19.2, u20.2))))) else (some ((0 : Int32), u16.2, u17.2))))) else (some ((0 : Int32), u13.2, u14.2))))) else (some ((0 : Int32), u10.2, u11.2))))) else (some ((0 : Int32), u7.2, u8.2))))) else (some ((0 : Int32), u4.2, u5.2))))) else (some ((0 : Int32), u1.2, u2.2))))
set_option maxHeartbeats 2000000 in
set_option maxRecDepth 20000 in
theorem m_L_alike (l : Launch) (hst : l.stackTraces = false) (Γ Γ' : gE) (hT : gTw Γ Γ') (a2 : Int32) (g h0 : gG) (z : Int32 × gG × gG) (h : f_L_alike a2 g h0 = some z) : gAl l yL_alike cL_alike 3 (some .boolean) 10 190 466 2796 Γ Γ' [.ref (gB Γ + 0), .ref (gB Γ' + 0), .int a2] g h0 z := by
  unfold f_L_alike at h
  refine gStart2 hT (own := RL) (by decide +kernel) rfl (Nat.le_of_ble_eq_true rfl) ?_
  intro p e s m below meth c C0 C1 ls hl hP hQ
  have hS : va_S (gA2 Γ Γ') s.heap s.heap [] := va_S.rf
  have hl : lv_has ls 3 [(0, .ref (gB Γ + 0)), (1, .ref (gB Γ' + 0)), (2, .int a2)] := hl
  obtain ⟨hx, hb, hml, hr, hown, hts, hK, hlk, hX, hA⟩ := id C0
  refine lv_aload_n hx hb dL_alike_0 rfl (lv_at hl 0 rfl) ?_
  refine dKl (rest := []) C0 cal_L_now wl_L_120 wt_L_now ⟨Nat.le_of_ble_eq_true rfl, Nat.le_of_ble_eq_true rfl⟩ ⟨gRcl (by omega), gRsl (by omega)⟩ [.ref (gB Γ + 0)] rfl (Nat.le_of_ble_eq_true rfl) hP hS hl.1 dL_alike_1 h (fun u hu => m_L_now l hst Γ g u hu) (fun u1 H locs h hP1 hk hS => ?_) rfl
  replace hQ := dkeep hT hQ hk
  replace hP := hP1
  clear hP1 hk
  refine lv_aload_n hx hb dL_alike_4 rfl (lv_at hl 1 rfl) ?_
  refine dKl (rest := [.long u1.1]) C1 cal_L_now wl_L_120 wt_L_now ⟨Nat.le_of_ble_eq_true rfl, Nat.le_of_ble_eq_true rfl⟩ ⟨gRcl (by omega), gRsl (by omega)⟩ [.ref (gB Γ' + 0)] rfl (Nat.le_of_ble_eq_true rfl) hQ hS hl.1 dL_alike_5 h (fun u hu => m_L_now l hst Γ' h0 u hu) (fun u2 H locs h hQ1 hk hS => ?_) rfl
  replace hP := dkeep' hT hP hk
  replace hQ := hQ1
  clear hQ1 hk
  refine W.lcmp hx hb dL_alike_8 ?_
  refine lv_if_ne (tgt := 173) hx hb dL_alike_9 (by decide) (fun c3 => ?_) (fun c3 => ?_)
  · replace h := gneg c3 h
    refine lv_iconst (v := 0) hx hb dL_alike_173 (by decide) ?_
    refine W.widen (k := 466) (n := 2796) (by omega) (by omega) ?_
    exact dzret0 hx hb hr hlk hP hQ hS rfl dL_alike_174 h
  · replace h := gpos c3 h
    refine lv_aload_n hx hb dL_alike_12 rfl (lv_at hl 0 rfl) ?_
    refine dVi (rest := []) C0 cal_X9_errorPosition wl_L_200 wi_X9_errorPosition ws_X9_errorPosition ⟨Nat.le_of_ble_eq_true rfl, Nat.le_of_ble_eq_true rfl⟩ ⟨gRcl (by omega), gRsl (by omega)⟩ grv_9 [] rfl (Nat.le_of_ble_eq_true rfl) hP hS hl.1 dL_alike_13 h (fun u hu => m_X9_errorPosition l Γ u1.2 u hu) (fun u4 H locs h hP1 hk hS => ?_) rfl
    replace hQ := dkeep hT hQ hk
    replace hP := hP1
    clear hP1 hk
    refine lv_aload_n hx hb dL_alike_16 rfl (lv_at hl 1 rfl) ?_
    refine dVi (rest := [.int u4.1]) C1 cal_X9_errorPosition wl_L_200 wi_X9_errorPosition ws_X9_errorPosition ⟨Nat.le_of_ble_eq_true rfl, Nat.le_of_ble_eq_true rfl⟩ ⟨gRcl (by omega), gRsl (by omega)⟩ grv_9 [] rfl (Nat.le_of_ble_eq_true rfl) hQ hS hl.1 dL_alike_17 h (fun u hu => m_X9_errorPosition l Γ' u2.2 u hu) (fun u5 H locs h hQ1 hk hS => ?_) rfl
    replace hP := dkeep' hT hP hk
    replace hQ := hQ1
    clear hQ1 hk
    refine lv_icmp_ne (tgt := 173) hx hb dL_alike_20 (by decide) (fun c6 => ?_) (fun c6 => ?_)
    · replace h := gneg c6 h
      refine lv_iconst (v := 0) hx hb dL_alike_173 (by decide) ?_
      refine W.widen (k := 466) (n := 2796) (by omega) (by omega) ?_
      exact dzret0 hx hb hr hlk hP hQ hS rfl dL_alike_174 h
    · replace h := gpos c6 h
      refine lv_aload_n hx hb dL_alike_23 rfl (lv_at hl 0 rfl) ?_
      refine dVi (rest := []) C0 cal_X9_deadEnds wl_L_191 wi_X9_deadEnds ws_X9_deadEnds ⟨Nat.le_of_ble_eq_true rfl, Nat.le_of_ble_eq_true rfl⟩ ⟨gRcl (by omega), gRsl (by omega)⟩ grv_9 [] rfl (Nat.le_of_ble_eq_true rfl) hP hS hl.1 dL_alike_24 h (fun u hu => m_X9_deadEnds l Γ u4.2 u hu) (fun u7 H locs h hP1 hk hS => ?_) rfl
      replace hQ := dkeep hT hQ hk
      replace hP := hP1
      clear hP1 hk
      refine lv_aload_n hx hb dL_alike_27 rfl (lv_at hl 1 rfl) ?_
      refine dVi (rest := [.int u7.1]) C1 cal_X9_deadEnds wl_L_191 wi_X9_deadEnds ws_X9_deadEnds ⟨Nat.le_of_ble_eq_true rfl, Nat.le_of_ble_eq_true rfl⟩ ⟨gRcl (by omega), gRsl (by omega)⟩ grv_9 [] rfl (Nat.le_of_ble_eq_true rfl) hQ hS hl.1 dL_alike_28 h (fun u hu => m_X9_deadEnds l Γ' u5.2 u hu) (fun u8 H locs h hQ1 hk hS => ?_) rfl
      replace hP := dkeep' hT hP hk
      replace hQ := hQ1
      clear hQ1 hk
      refine lv_icmp_ne (tgt := 173) hx hb dL_alike_31 (by decide) (fun c9 => ?_) (fun c9 => ?_)
      · replace h := gneg c9 h
        refine lv_iconst (v := 0) hx hb dL_alike_173 (by decide) ?_
        refine W.widen (k := 466) (n := 2796) (by omega) (by omega) ?_
        exact dzret0 hx hb hr hlk hP hQ hS rfl dL_alike_174 h
      · replace h := gpos c9 h
        refine lv_aload_n hx hb dL_alike_34 rfl (lv_at hl 0 rfl) ?_
        refine dVi (rest := []) C0 cal_X9_easeBy wl_L_188 wi_X9_easeBy ws_X9_easeBy ⟨Nat.le_of_ble_eq_true rfl, Nat.le_of_ble_eq_true rfl⟩ ⟨gRcl (by omega), gRsl (by omega)⟩ grv_9 [] rfl (Nat.le_of_ble_eq_true rfl) hP hS hl.1 dL_alike_35 h (fun u hu => m_X9_easeBy l Γ u7.2 u hu) (fun u10 H locs h hP1 hk hS => ?_) rfl
        replace hQ := dkeep hT hQ hk
        replace hP := hP1
        clear hP1 hk
        refine lv_aload_n hx hb dL_alike_38 rfl (lv_at hl 1 rfl) ?_
        refine dVi (rest := [.int u10.1]) C1 cal_X9_easeBy wl_L_188 wi_X9_easeBy ws_X9_easeBy ⟨Nat.le_of_ble_eq_true rfl, Nat.le_of_ble_eq_true rfl⟩ ⟨gRcl (by omega), gRsl (by omega)⟩ grv_9 [] rfl (Nat.le_of_ble_eq_true rfl) hQ hS hl.1 dL_alike_39 h (fun u hu => m_X9_easeBy l Γ' u8.2 u hu) (fun u11 H locs h hQ1 hk hS => ?_) rfl
        replace hP := dkeep' hT hP hk
        replace hQ := hQ1
        clear hQ1 hk
        refine lv_icmp_ne (tgt := 173) hx hb dL_alike_42 (by decide) (fun c12 => ?_) (fun c12 => ?_)
        · replace h := gneg c12 h
          refine lv_iconst (v := 0) hx hb dL_alike_173 (by decide) ?_
          refine W.widen (k := 466) (n := 2796) (by omega) (by omega) ?_
          exact dzret0 hx hb hr hlk hP hQ hS rfl dL_alike_174 h
        · replace h := gpos c12 h
          refine lv_aload_n hx hb dL_alike_45 rfl (lv_at hl 0 rfl) ?_
          refine lv_iload_n hx hb dL_alike_46 rfl (lv_at hl 2 rfl) ?_
          refine lv_i2l hx hb dL_alike_47 rfl ?_
          refine lv_bipush (v := 12) hx hb dL_alike_48 (by decide) ?_
          refine dHl (n2 := 3) (rest := []) C0 wcw_L_simulate wn_L (by decide +kernel) wl_L_159 wt_L_simulate ⟨Nat.le_of_ble_eq_true rfl, Nat.le_of_ble_eq_true rfl⟩ ⟨gRcl (by omega), gRsl (by omega)⟩ [.ref (gB Γ + 0), .long a2.toInt64, .int (12 : Int32)] rfl (Nat.le_of_ble_eq_true rfl) hP hS hl.1 dL_alike_50 h (fun u hu => m_L_simulate l hst Γ a2.toInt64 (12 : Int32) u10.2 u hu) (fun u13 H locs h hP1 hk hS => ?_) rfl
          replace hQ := dkeep hT hQ hk
          replace hP := hP1
          clear hP1 hk
          refine lv_aload_n hx hb dL_alike_53 rfl (lv_at hl 1 rfl) ?_
          refine lv_iload_n hx hb dL_alike_54 rfl (lv_at hl 2 rfl) ?_
          refine lv_i2l hx hb dL_alike_55 rfl ?_
          refine lv_bipush (v := 12) hx hb dL_alike_56 (by decide) ?_
          refine dHl (n2 := 3) (rest := [.long u13.1]) C1 wcw_L_simulate wn_L (by decide +kernel) wl_L_159 wt_L_simulate ⟨Nat.le_of_ble_eq_true rfl, Nat.le_of_ble_eq_true rfl⟩ ⟨gRcl (by omega), gRsl (by omega)⟩ [.ref (gB Γ' + 0), .long a2.toInt64, .int (12 : Int32)] rfl (Nat.le_of_ble_eq_true rfl) hQ hS hl.1 dL_alike_58 h (fun u hu => m_L_simulate l hst Γ' a2.toInt64 (12 : Int32) u11.2 u hu) (fun u14 H locs h hQ1 hk hS => ?_) rfl
          replace hP := dkeep' hT hP hk
          replace hQ := hQ1
          clear hQ1 hk
          refine W.lcmp hx hb dL_alike_61 ?_
          refine lv_if_ne (tgt := 173) hx hb dL_alike_62 (by decide) (fun c15 => ?_) (fun c15 => ?_)
          · replace h := gneg c15 h
            refine lv_iconst (v := 0) hx hb dL_alike_173 (by decide) ?_
            refine W.widen (k := 466) (n := 2796) (by omega) (by omega) ?_
            exact dzret0 hx hb hr hlk hP hQ hS rfl dL_alike_174 h
          · replace h := gpos c15 h
            refine lv_aload_n hx hb dL_alike_65 rfl (lv_at hl 0 rfl) ?_
            refine lv_iload_n hx hb dL_alike_66 rfl (lv_at hl 2 rfl) ?_
            refine lv_bipush (v := 10) hx hb dL_alike_67 (by decide) ?_
            refine lv_irem hx hb dL_alike_69 (by decide) ?_
            refine lv_iload_n hx hb dL_alike_70 rfl (lv_at hl 2 rfl) ?_
            refine lv_bipush (v := 10) hx hb dL_alike_71 (by decide) ?_
            refine lv_idiv hx hb dL_alike_73 (by decide) ?_
            refine lv_bipush (v := 64) hx hb dL_alike_74 (by decide) ?_
            refine lv_irem hx hb dL_alike_76 (by decide) ?_
            refine dHl (n2 := 3) (rest := []) C0 wcw_L_holds wn_L (by decide +kernel) wl_L_124 wt_L_holds ⟨Nat.le_of_ble_eq_true rfl, Nat.le_of_ble_eq_true rfl⟩ ⟨gRcl (by omega), gRsl (by omega)⟩ [.ref (gB Γ + 0), .int (a2 - a2 / (10 : Int32) * (10 : Int32)), .int ((a2 / (10 : Int32)) - (a2 / (10 : Int32)) / (64 : Int32) * (64 : Int32))] rfl (Nat.le_of_ble_eq_true rfl) hP hS hl.1 dL_alike_77 h (fun u hu => m_L_holds l hst Γ (a2 - a2 / (10 : Int32) * (10 : Int32)) ((a2 / (10 : Int32)) - (a2 / (10 : Int32)) / (64 : Int32) * (64 : Int32)) u13.2 u hu) (fun u16 H locs h hP1 hk hS => ?_) rfl
            replace hQ := dkeep hT hQ hk
            replace hP := hP1
            clear hP1 hk
            refine lv_aload_n hx hb dL_alike_80 rfl (lv_at hl 1 rfl) ?_
            refine lv_iload_n hx hb dL_alike_81 rfl (lv_at hl 2 rfl) ?_
            refine lv_bipush (v := 10) hx hb dL_alike_82 (by decide) ?_
            refine lv_irem hx hb dL_alike_84 (by decide) ?_
            refine lv_iload_n hx hb dL_alike_85 rfl (lv_at hl 2 rfl) ?_
            refine lv_bipush (v := 10) hx hb dL_alike_86 (by decide) ?_
            refine lv_idiv hx hb dL_alike_88 (by decide) ?_
            refine lv_bipush (v := 64) hx hb dL_alike_89 (by decide) ?_
            refine lv_irem hx hb dL_alike_91 (by decide) ?_
            refine dHl (n2 := 3) (rest := [.long u16.1]) C1 wcw_L_holds wn_L (by decide +kernel) wl_L_124 wt_L_holds ⟨Nat.le_of_ble_eq_true rfl, Nat.le_of_ble_eq_true rfl⟩ ⟨gRcl (by omega), gRsl (by omega)⟩ [.ref (gB Γ' + 0), .int (a2 - a2 / (10 : Int32) * (10 : Int32)), .int ((a2 / (10 : Int32)) - (a2 / (10 : Int32)) / (64 : Int32) * (64 : Int32))] rfl (Nat.le_of_ble_eq_true rfl) hQ hS hl.1 dL_alike_92 h (fun u hu => m_L_holds l hst Γ' (a2 - a2 / (10 : Int32) * (10 : Int32)) ((a2 / (10 : Int32)) - (a2 / (10 : Int32)) / (64 : Int32) * (64 : Int32)) u14.2 u hu) (fun u17 H locs h hQ1 hk hS => ?_) rfl
            replace hP := dkeep' hT hP hk
            replace hQ := hQ1
            clear hQ1 hk
            refine W.lcmp hx hb dL_alike_95 ?_
            refine lv_if_ne (tgt := 173) hx hb dL_alike_96 (by decide) (fun c18 => ?_) (fun c18 => ?_)
            · replace h := gneg c18 h
              refine lv_iconst (v := 0) hx hb dL_alike_173 (by decide) ?_
              refine W.widen (k := 466) (n := 2796) (by omega) (by omega) ?_
              exact dzret0 hx hb hr hlk hP hQ hS rfl dL_alike_174 h
            · replace h := gpos c18 h
              refine lv_aload_n hx hb dL_alike_99 rfl (lv_at hl 0 rfl) ?_
              refine lv_iconst (v := 4) hx hb dL_alike_100 (by decide) ?_
              refine lv_ldc2 (v := 3000100010101020) hx hb hown (hts _ wkl_L_203) dL_alike_101 ?_
              refine lv_iload_n hx hb dL_alike_104 rfl (lv_at hl 2 rfl) ?_
              refine lv_bipush (v := 9) hx hb dL_alike_105 (by decide) ?_
              refine lv_irem hx hb dL_alike_107 (by decide) ?_
              refine lv_i2l hx hb dL_alike_108 rfl ?_
              refine lv_ladd hx hb dL_alike_109 ?_
              refine dHl (n2 := 3) (rest := []) C0 wcw_L_script wn_L (by decide +kernel) wl_L_153 wt_L_script ⟨Nat.le_of_ble_eq_true rfl, Nat.le_of_ble_eq_true rfl⟩ ⟨gRcl (by omega), gRsl (by omega)⟩ [.ref (gB Γ + 0), .int (4 : Int32), .long ((3000100010101020 : Int64) + (a2 - a2 / (9 : Int32) * (9 : Int32)).toInt64)] rfl (Nat.le_of_ble_eq_true rfl) hP hS hl.1 dL_alike_110 h (fun u hu => m_L_script l hst Γ (4 : Int32) ((3000100010101020 : Int64) + (a2 - a2 / (9 : Int32) * (9 : Int32)).toInt64) u16.2 u hu) (fun u19 H locs h hP1 hk hS => ?_) rfl
              replace hQ := dkeep hT hQ hk
              replace hP := hP1
              clear hP1 hk
              refine lv_aload_n hx hb dL_alike_113 rfl (lv_at hl 1 rfl) ?_
              refine lv_iconst (v := 4) hx hb dL_alike_114 (by decide) ?_
              refine lv_ldc2 (v := 3000100010101020) hx hb hown (hts _ wkl_L_203) dL_alike_115 ?_
              refine lv_iload_n hx hb dL_alike_118 rfl (lv_at hl 2 rfl) ?_
              refine lv_bipush (v := 9) hx hb dL_alike_119 (by decide) ?_
              refine lv_irem hx hb dL_alike_121 (by decide) ?_
              refine lv_i2l hx hb dL_alike_122 rfl ?_
              refine lv_ladd hx hb dL_alike_123 ?_
              refine dHl (n2 := 3) (rest := [.long u19.1]) C1 wcw_L_script wn_L (by decide +kernel) wl_L_153 wt_L_script ⟨Nat.le_of_ble_eq_true rfl, Nat.le_of_ble_eq_true rfl⟩ ⟨gRcl (by omega), gRsl (by omega)⟩ [.ref (gB Γ' + 0), .int (4 : Int32), .long ((3000100010101020 : Int64) + (a2 - a2 / (9 : Int32) * (9 : Int32)).toInt64)] rfl (Nat.le_of_ble_eq_true rfl) hQ hS hl.1 dL_alike_124 h (fun u hu => m_L_script l hst Γ' (4 : Int32) ((3000100010101020 : Int64) + (a2 - a2 / (9 : Int32) * (9 : Int32)).toInt64) u17.2 u hu) (fun u20 H locs h hQ1 hk hS => ?_) rfl
              replace hP := dkeep' hT hP hk
              replace hQ := hQ1
              clear hQ1 hk
              refine W.lcmp hx hb dL_alike_127 ?_
              refine lv_if_ne (tgt := 173) hx hb dL_alike_128 (by decide) (fun c21 => ?_) (fun c21 => ?_)
              · replace h := gneg c21 h
                refine lv_iconst (v := 0) hx hb dL_alike_173 (by decide) ?_
                refine W.widen (k := 466) (n := 2796) (by omega) (by omega) ?_
                exact dzret0 hx hb hr hlk hP hQ hS rfl dL_alike_174 h
              · replace h := gpos c21 h
                refine lv_aload_n hx hb dL_alike_131 rfl (lv_at hl 0 rfl) ?_
                refine lv_iload_n hx hb dL_alike_132 rfl (lv_at hl 2 rfl) ?_
                refine lv_iconst (v := 4) hx hb dL_alike_133 (by decide) ?_
                refine lv_irem hx hb dL_alike_134 (by decide) ?_
                refine lv_iconst (v := 0) hx hb dL_alike_135 (by decide) ?_
                refine dHl (n2 := 3) (rest := []) C0 wcw_L_quickest wn_L (by decide +kernel) wl_L_143 wt_L_quickest ⟨Nat.le_of_ble_eq_true rfl, Nat.le_of_ble_eq_true rfl⟩ ⟨gRcl (by omega), gRsl (by omega)⟩ [.ref (gB Γ + 0), .int (a2 - a2 / (4 : Int32) * (4 : Int32)), .int (0 : Int32)] rfl (Nat.le_of_ble_eq_true rfl) hP hS hl.1 dL_alike_136 h (fun u hu => m_L_quickest l hst Γ (a2 - a2 / (4 : Int32) * (4 : Int32)) (0 : Int32) u19.2 u hu) (fun u22 H locs h hP1 hk hS => ?_) rfl
                replace hQ := dkeep hT hQ hk
                replace hP := hP1
                clear hP1 hk
                refine lv_aload_n hx hb dL_alike_139 rfl (lv_at hl 1 rfl) ?_
                refine lv_iload_n hx hb dL_alike_140 rfl (lv_at hl 2 rfl) ?_
                refine lv_iconst (v := 4) hx hb dL_alike_141 (by decide) ?_
                refine lv_irem hx hb dL_alike_142 (by decide) ?_
                refine lv_iconst (v := 0) hx hb dL_alike_143 (by decide) ?_
                refine dHl (n2 := 3) (rest := [.long u22.1]) C1 wcw_L_quickest wn_L (by decide +kernel) wl_L_143 wt_L_quickest ⟨Nat.le_of_ble_eq_true rfl, Nat.le_of_ble_eq_true rfl⟩ ⟨gRcl (by omega), gRsl (by omega)⟩ [.ref (gB Γ' + 0), .int (a2 - a2 / (4 : Int32) * (4 : Int32)), .int (0 : Int32)] rfl (Nat.le_of_ble_eq_true rfl) hQ hS hl.1 dL_alike_144 h (fun u hu => m_L_quickest l hst Γ' (a2 - a2 / (4 : Int32) * (4 : Int32)) (0 : Int32) u20.2 u hu) (fun u23 H locs h hQ1 hk hS => ?_) rfl
                replace hP := dkeep' hT hP hk
                replace hQ := hQ1
                clear hQ1 hk
                refine W.lcmp hx hb dL_alike_147 ?_
                refine lv_if_ne (tgt := 173) hx hb dL_alike_148 (by decide) (fun c24 => ?_) (fun c24 => ?_)
                · replace h := gneg c24 h
                  refine lv_iconst (v := 0) hx hb dL_alike_173 (by decide) ?_
                  refine W.widen (k := 466) (n := 2796) (by omega) (by omega) ?_
                  exact dzret0 hx hb hr hlk hP hQ hS rfl dL_alike_174 h
                · replace h := gpos c24 h
                  refine lv_aload_n hx hb dL_alike_151 rfl (lv_at hl 0 rfl) ?_
                  refine lv_iload_n hx hb dL_alike_152 rfl (lv_at hl 2 rfl) ?_
                  refine lv_iconst (v := 4) hx hb dL_alike_153 (by decide) ?_
                  refine lv_irem hx hb dL_alike_154 (by decide) ?_
                  refine dHl (n2 := 2) (rest := []) C0 wcw_L_needed wn_L (by decide +kernel) wl_L_151 wt_L_needed ⟨Nat.le_of_ble_eq_true rfl, Nat.le_of_ble_eq_true rfl⟩ ⟨gRcl (by omega), gRsl (by omega)⟩ [.ref (gB Γ + 0), .int (a2 - a2 / (4 : Int32) * (4 : Int32))] rfl (Nat.le_of_ble_eq_true rfl) hP hS hl.1 dL_alike_155 h (fun u hu => m_L_needed l hst Γ (a2 - a2 / (4 : Int32) * (4 : Int32)) u22.2 u hu) (fun u25 H locs h hP1 hk hS => ?_) rfl
                  replace hQ := dkeep hT hQ hk
                  replace hP := hP1
                  clear hP1 hk
                  refine lv_aload_n hx hb dL_alike_158 rfl (lv_at hl 1 rfl) ?_
                  refine lv_iload_n hx hb dL_alike_159 rfl (lv_at hl 2 rfl) ?_
                  refine lv_iconst (v := 4) hx hb dL_alike_160 (by decide) ?_
                  refine lv_irem hx hb dL_alike_161 (by decide) ?_
                  refine dHl (n2 := 2) (rest := [.long u25.1]) C1 wcw_L_needed wn_L (by decide +kernel) wl_L_151 wt_L_needed ⟨Nat.le_of_ble_eq_true rfl, Nat.le_of_ble_eq_true rfl⟩ ⟨gRcl (by omega), gRsl (by omega)⟩ [.ref (gB Γ' + 0), .int (a2 - a2 / (4 : Int32) * (4 : Int32))] rfl (Nat.le_of_ble_eq_true rfl) hQ hS hl.1 dL_alike_162 h (fun u hu => m_L_needed l hst Γ' (a2 - a2 / (4 : Int32) * (4 : Int32)) u23.2 u hu) (fun u26 H locs h hQ1 hk hS => ?_) rfl
                  replace hP := dkeep' hT hP hk
                  replace hQ := hQ1
                  clear hQ1 hk
                  refine W.lcmp hx hb dL_alike_165 ?_
                  refine lv_if_ne (tgt := 173) hx hb dL_alike_166 (by decide) (fun c27 => ?_) (fun c27 => ?_)
                  · replace h := gneg c27 h
                    refine lv_iconst (v := 0) hx hb dL_alike_173 (by decide) ?_
                    refine W.widen (k := 466) (n := 2796) (by omega) (by omega) ?_
                    exact dzret0 hx hb hr hlk hP hQ hS rfl dL_alike_174 h
                  · replace h := gpos c27 h
                    refine lv_iconst (v := 1) hx hb dL_alike_169 (by decide) ?_
                    refine lv_goto (tgt := 174) hx hb dL_alike_170 (by decide) ?_
                    refine W.widen (k := 466) (n := 2796) (by omega) (by omega) ?_
                    exact dzret0 hx hb hr hlk hP hQ hS rfl dL_alike_174 h
