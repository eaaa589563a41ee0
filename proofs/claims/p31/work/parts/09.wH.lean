set_option maxHeartbeats 2000000 in
set_option maxRecDepth 20000 in
theorem bs_L_errors_438 {p : Program} {l : Launch} {e : Env} {s : State} {m : MethodId} {args : Array Value} {below : List Frame} {meth : Method} {c : Code} {Γ : gE} (C0 : gCx p s m args meth c Γ RL cL_errors 8 (some .boolean)) (hst : l.stackTraces = false)   {z : Int32 × gG}  {l1 : Int64} {l4 : Int32} {l5 : Int32} {g : gG} {H : Heap} {locs : List Loc} {ls : Array Slot} {cells slots N : Nat} (hr1 : cells + N ≤ 807) (hr2 : slots + 6 * N ≤ 4842) (hn_ret : 240 ≤ N)  (h : fs_L_errors_438 l1 l4 l5 g = some z) (hP : va_P (gD Γ) gcls (lay Γ g) H) (hS : va_S (gA Γ) s.heap H locs) (hl : lv_has ls 8 [(0, .ref (gB Γ + 0)), (1, .long l1), (4, .int l4), (5, .int l5)]) : W p l e (gRx 10 190 807 4842) s m args below meth c H locs cells slots (MQ below (gQi Γ z) args s 807 4842 (gA Γ)) (F0 m 438 ls []) := by
  unfold fs_L_errors_438 at h
  obtain ⟨hx, hb, hml, hr, hown, hts, hK, hlk, hX⟩ := id C0
  refine lv_iload hx hb dL_errors_438 (lv_at hl 3 rfl) ?_
  refine lv_if_eq (tgt := 599) hx hb dL_errors_440 (by decide) (fun c1 => ?_) (fun c1 => ?_)
  · replace h := gpos c1 h
    refine lv_iconst (v := 0) hx hb dL_errors_599 (by decide) ?_
    refine W.widen (k := 807) (n := 4842) (by omega) (by omega) ?_
    exact gzret0 hx hb hr hlk hP hS rfl dL_errors_600 h
  · replace h := gneg c1 h
    refine lv_aload_n hx hb dL_errors_443 rfl (lv_at hl 0 rfl) ?_
    refine lv_iload hx hb dL_errors_444 (lv_at hl 2 rfl) ?_
    refine lv_iconst (v := 0) hx hb dL_errors_446 (by decide) ?_
    refine gCHl (n2 := 3) (rest := []) C0 wcw_L_shortest wn_L (by decide +kernel) wl_L_141 wt_L_shortest ⟨Nat.le_of_ble_eq_true rfl, Nat.le_of_ble_eq_true rfl⟩ ⟨gRcl (by omega), gRsl (by omega)⟩ [.ref (gB Γ + 0), .int l4, .int (0 : Int32)] rfl (Nat.le_of_ble_eq_true rfl) hP hS hl.1 dL_errors_447 h (fun u hu => m_L_shortest l hst Γ l4 (0 : Int32) g u hu) (fun u2 H locs h hP hS => ?_) rfl
    refine lv_ldc2 (v := -9000000000000000001) hx hb hown (hts _ wkl_L_36) dL_errors_450 ?_
    refine W.lcmp hx hb dL_errors_453 ?_
    refine lv_if_ne (tgt := 599) hx hb dL_errors_454 (by decide) (fun c3 => ?_) (fun c3 => ?_)
    · replace h := gneg c3 h
      refine lv_iconst (v := 0) hx hb dL_errors_599 (by decide) ?_
      refine W.widen (k := 807) (n := 4842) (by omega) (by omega) ?_
      exact gzret0 hx hb hr hlk hP hS rfl dL_errors_600 h
    · replace h := gpos c3 h
      refine lv_aload_n hx hb dL_errors_457 rfl (lv_at hl 0 rfl) ?_
      refine lv_iload hx hb dL_errors_458 (lv_at hl 2 rfl) ?_
      refine lv_iconst (v := 0) hx hb dL_errors_460 (by decide) ?_
      refine gCHl (n2 := 3) (rest := []) C0 wcw_L_quickest wn_L (by decide +kernel) wl_L_143 wt_L_quickest ⟨Nat.le_of_ble_eq_true rfl, Nat.le_of_ble_eq_true rfl⟩ ⟨gRcl (by omega), gRsl (by omega)⟩ [.ref (gB Γ + 0), .int l4, .int (0 : Int32)] rfl (Nat.le_of_ble_eq_true rfl) hP hS hl.1 dL_errors_461 h (fun u hu => m_L_quickest l hst Γ l4 (0 : Int32) u2.2 u hu) (fun u4 H locs h hP hS => ?_) rfl
      refine lv_ldc2 (v := -9000000000000000001) hx hb hown (hts _ wkl_L_36) dL_errors_464 ?_
      refine W.lcmp hx hb dL_errors_467 ?_
      refine lv_if_ne (tgt := 599) hx hb dL_errors_468 (by decide) (fun c5 => ?_) (fun c5 => ?_)
      · replace h := gneg c5 h
        refine lv_iconst (v := 0) hx hb dL_errors_599 (by decide) ?_
        refine W.widen (k := 807) (n := 4842) (by omega) (by omega) ?_
        exact gzret0 hx hb hr hlk hP hS rfl dL_errors_600 h
      · replace h := gpos c5 h
        refine lv_aload_n hx hb dL_errors_471 rfl (lv_at hl 0 rfl) ?_
        refine lv_iconst (v := -1) hx hb dL_errors_472 (by decide) ?_
        refine gCHl (n2 := 2) (rest := []) C0 wcw_L_orders wn_L (by decide +kernel) wl_L_118 wt_L_orders ⟨Nat.le_of_ble_eq_true rfl, Nat.le_of_ble_eq_true rfl⟩ ⟨gRcl (by omega), gRsl (by omega)⟩ [.ref (gB Γ + 0), .int (-1 : Int32)] rfl (Nat.le_of_ble_eq_true rfl) hP hS hl.1 dL_errors_473 h (fun u hu => m_L_orders l hst Γ (-1 : Int32) u4.2 u hu) (fun u6 H locs h hP hS => ?_) rfl
        refine lv_ldc2 (v := -9000000000000000001) hx hb hown (hts _ wkl_L_36) dL_errors_476 ?_
        refine W.lcmp hx hb dL_errors_479 ?_
        refine lv_if_ne (tgt := 599) hx hb dL_errors_480 (by decide) (fun c7 => ?_) (fun c7 => ?_)
        · replace h := gneg c7 h
          refine lv_iconst (v := 0) hx hb dL_errors_599 (by decide) ?_
          refine W.widen (k := 807) (n := 4842) (by omega) (by omega) ?_
          exact gzret0 hx hb hr hlk hP hS rfl dL_errors_600 h
        · replace h := gpos c7 h
          refine lv_aload_n hx hb dL_errors_483 rfl (lv_at hl 0 rfl) ?_
          refine lv_iload hx hb dL_errors_484 (lv_at hl 2 rfl) ?_
          refine gCHl (n2 := 2) (rest := []) C0 wcw_L_safe wn_L (by decide +kernel) wl_L_145 wt_L_safe ⟨Nat.le_of_ble_eq_true rfl, Nat.le_of_ble_eq_true rfl⟩ ⟨gRcl (by omega), gRsl (by omega)⟩ [.ref (gB Γ + 0), .int l4] rfl (Nat.le_of_ble_eq_true rfl) hP hS hl.1 dL_errors_486 h (fun u hu => m_L_safe l hst Γ l4 u6.2 u hu) (fun u8 H locs h hP hS => ?_) rfl
          refine lv_ldc2 (v := -9000000000000000001) hx hb hown (hts _ wkl_L_36) dL_errors_489 ?_
          refine W.lcmp hx hb dL_errors_492 ?_
          refine lv_if_ne (tgt := 599) hx hb dL_errors_493 (by decide) (fun c9 => ?_) (fun c9 => ?_)
          · replace h := gneg c9 h
            refine lv_iconst (v := 0) hx hb dL_errors_599 (by decide) ?_
            refine W.widen (k := 807) (n := 4842) (by omega) (by omega) ?_
            exact gzret0 hx hb hr hlk hP hS rfl dL_errors_600 h
          · replace h := gpos c9 h
            refine lv_aload_n hx hb dL_errors_496 rfl (lv_at hl 0 rfl) ?_
            refine lv_iload hx hb dL_errors_497 (lv_at hl 2 rfl) ?_
            refine gCHl (n2 := 2) (rest := []) C0 wcw_L_needed wn_L (by decide +kernel) wl_L_151 wt_L_needed ⟨Nat.le_of_ble_eq_true rfl, Nat.le_of_ble_eq_true rfl⟩ ⟨gRcl (by omega), gRsl (by omega)⟩ [.ref (gB Γ + 0), .int l4] rfl (Nat.le_of_ble_eq_true rfl) hP hS hl.1 dL_errors_499 h (fun u hu => m_L_needed l hst Γ l4 u8.2 u hu) (fun u10 H locs h hP hS => ?_) rfl
            refine lv_ldc2 (v := -9000000000000000001) hx hb hown (hts _ wkl_L_36) dL_errors_502 ?_
            refine W.lcmp hx hb dL_errors_505 ?_
            refine lv_if_ne (tgt := 599) hx hb dL_errors_506 (by decide) (fun c11 => ?_) (fun c11 => ?_)
            · replace h := gneg c11 h
              refine lv_iconst (v := 0) hx hb dL_errors_599 (by decide) ?_
              refine W.widen (k := 807) (n := 4842) (by omega) (by omega) ?_
              exact gzret0 hx hb hr hlk hP hS rfl dL_errors_600 h
            · replace h := gpos c11 h
              refine lv_aload_n hx hb dL_errors_509 rfl (lv_at hl 0 rfl) ?_
              refine lv_iconst (v := 0) hx hb dL_errors_510 (by decide) ?_
              refine lv_lconst (v := 0) hx hb dL_errors_511 (by decide) ?_
              refine gCHl (n2 := 3) (rest := []) C0 wcw_L_script wn_L (by decide +kernel) wl_L_153 wt_L_script ⟨Nat.le_of_ble_eq_true rfl, Nat.le_of_ble_eq_true rfl⟩ ⟨gRcl (by omega), gRsl (by omega)⟩ [.ref (gB Γ + 0), .int (0 : Int32), .long (0 : Int64)] rfl (Nat.le_of_ble_eq_true rfl) hP hS hl.1 dL_errors_512 h (fun u hu => m_L_script l hst Γ (0 : Int32) (0 : Int64) u10.2 u hu) (fun u12 H locs h hP hS => ?_) rfl
              refine lv_ldc2 (v := -9000000000000000002) hx hb hown (hts _ wkl_L_17) dL_errors_515 ?_
              refine W.lcmp hx hb dL_errors_518 ?_
              refine lv_if_ne (tgt := 599) hx hb dL_errors_519 (by decide) (fun c13 => ?_) (fun c13 => ?_)
              · replace h := gneg c13 h
                refine lv_iconst (v := 0) hx hb dL_errors_599 (by decide) ?_
                refine W.widen (k := 807) (n := 4842) (by omega) (by omega) ?_
                exact gzret0 hx hb hr hlk hP hS rfl dL_errors_600 h
              · replace h := gpos c13 h
                refine lv_aload_n hx hb dL_errors_522 rfl (lv_at hl 0 rfl) ?_
                refine lv_iconst (v := 4) hx hb dL_errors_523 (by decide) ?_
                refine lv_ldc2 (v := 10000000000000000) hx hb hown (hts _ wkl_L_157) dL_errors_524 ?_
                refine gCHl (n2 := 3) (rest := []) C0 wcw_L_script wn_L (by decide +kernel) wl_L_153 wt_L_script ⟨Nat.le_of_ble_eq_true rfl, Nat.le_of_ble_eq_true rfl⟩ ⟨gRcl (by omega), gRsl (by omega)⟩ [.ref (gB Γ + 0), .int (4 : Int32), .long (10000000000000000 : Int64)] rfl (Nat.le_of_ble_eq_true rfl) hP hS hl.1 dL_errors_527 h (fun u hu => m_L_script l hst Γ (4 : Int32) (10000000000000000 : Int64) u12.2 u hu) (fun u14 H locs h hP hS => ?_) rfl
                refine lv_ldc2 (v := -9000000000000000002) hx hb hown (hts _ wkl_L_17) dL_errors_530 ?_
                refine W.lcmp hx hb dL_errors_533 ?_
                refine lv_if_ne (tgt := 599) hx hb dL_errors_534 (by decide) (fun c15 => ?_) (fun c15 => ?_)
                · replace h := gneg c15 h
                  refine lv_iconst (v := 0) hx hb dL_errors_599 (by decide) ?_
                  refine W.widen (k := 807) (n := 4842) (by omega) (by omega) ?_
                  exact gzret0 hx hb hr hlk hP hS rfl dL_errors_600 h
                · replace h := gpos c15 h
                  refine lv_aload_n hx hb dL_errors_537 rfl (lv_at hl 0 rfl) ?_
                  refine lv_lconst (v := 1) hx hb dL_errors_538 (by decide) ?_
                  refine lv_iconst (v := 0) hx hb dL_errors_539 (by decide) ?_
                  refine gCHl (n2 := 3) (rest := []) C0 wcw_L_simulate wn_L (by decide +kernel) wl_L_159 wt_L_simulate ⟨Nat.le_of_ble_eq_true rfl, Nat.le_of_ble_eq_true rfl⟩ ⟨gRcl (by omega), gRsl (by omega)⟩ [.ref (gB Γ + 0), .long (1 : Int64), .int (0 : Int32)] rfl (Nat.le_of_ble_eq_true rfl) hP hS hl.1 dL_errors_540 h (fun u hu => m_L_simulate l hst Γ (1 : Int64) (0 : Int32) u14.2 u hu) (fun u16 H locs h hP hS => ?_) rfl
                  refine lv_ldc2 (v := -9000000000000000002) hx hb hown (hts _ wkl_L_17) dL_errors_543 ?_
                  refine W.lcmp hx hb dL_errors_546 ?_
                  refine lv_if_ne (tgt := 599) hx hb dL_errors_547 (by decide) (fun c17 => ?_) (fun c17 => ?_)
                  · replace h := gneg c17 h
                    refine lv_iconst (v := 0) hx hb dL_errors_599 (by decide) ?_
                    refine W.widen (k := 807) (n := 4842) (by omega) (by omega) ?_
                    exact gzret0 hx hb hr hlk hP hS rfl dL_errors_600 h
                  · replace h := gpos c17 h
                    refine lv_aload_n hx hb dL_errors_550 rfl (lv_at hl 0 rfl) ?_
                    refine lv_iconst (v := 2) hx hb dL_errors_551 (by decide) ?_
                    refine gCHl (n2 := 2) (rest := []) C0 wcw_L_save wn_L (by decide +kernel) wl_L_162 wt_L_save ⟨Nat.le_of_ble_eq_true rfl, Nat.le_of_ble_eq_true rfl⟩ ⟨gRcl (by omega), gRsl (by omega)⟩ [.ref (gB Γ + 0), .int (2 : Int32)] rfl (Nat.le_of_ble_eq_true rfl) hP hS hl.1 dL_errors_552 h (fun u hu => m_L_save l hst Γ (2 : Int32) u16.2 u hu) (fun u18 H locs h hP hS => ?_) rfl
                    refine lv_ldc2 (v := -9000000000000000001) hx hb hown (hts _ wkl_L_36) dL_errors_555 ?_
                    refine W.lcmp hx hb dL_errors_558 ?_
                    refine lv_if_ne (tgt := 599) hx hb dL_errors_559 (by decide) (fun c19 => ?_) (fun c19 => ?_)
                    · replace h := gneg c19 h
                      refine lv_iconst (v := 0) hx hb dL_errors_599 (by decide) ?_
                      refine W.widen (k := 807) (n := 4842) (by omega) (by omega) ?_
                      exact gzret0 hx hb hr hlk hP hS rfl dL_errors_600 h
                    · replace h := gpos c19 h
                      refine lv_aload_n hx hb dL_errors_562 rfl (lv_at hl 0 rfl) ?_
                      refine lv_iconst (v := 2) hx hb dL_errors_563 (by decide) ?_
                      refine gCHl (n2 := 2) (rest := []) C0 wcw_L_restore wn_L (by decide +kernel) wl_L_164 wt_L_restore ⟨Nat.le_of_ble_eq_true rfl, Nat.le_of_ble_eq_true rfl⟩ ⟨gRcl (by omega), gRsl (by omega)⟩ [.ref (gB Γ + 0), .int (2 : Int32)] rfl (Nat.le_of_ble_eq_true rfl) hP hS hl.1 dL_errors_564 h (fun u hu => m_L_restore l hst Γ (2 : Int32) u18.2 u hu) (fun u20 H locs h hP hS => ?_) rfl
                      refine lv_ldc2 (v := -9000000000000000001) hx hb hown (hts _ wkl_L_36) dL_errors_567 ?_
                      refine W.lcmp hx hb dL_errors_570 ?_
                      refine lv_if_ne (tgt := 599) hx hb dL_errors_571 (by decide) (fun c21 => ?_) (fun c21 => ?_)
                      · replace h := gneg c21 h
                        refine lv_iconst (v := 0) hx hb dL_errors_599 (by decide) ?_
                        refine W.widen (k := 807) (n := 4842) (by omega) (by omega) ?_
                        exact gzret0 hx hb hr hlk hP hS rfl dL_errors_600 h
                      · replace h := gpos c21 h
                        refine lv_aload_n hx hb dL_errors_574 rfl (lv_at hl 0 rfl) ?_
                        refine lv_iconst (v := -1) hx hb dL_errors_575 (by decide) ?_
                        refine gCHl (n2 := 2) (rest := []) C0 wcw_L_append wn_L (by decide +kernel) wl_L_166 wt_L_append ⟨Nat.le_of_ble_eq_true rfl, Nat.le_of_ble_eq_true rfl⟩ ⟨gRcl (by omega), gRsl (by omega)⟩ [.ref (gB Γ + 0), .int (-1 : Int32)] rfl (Nat.le_of_ble_eq_true rfl) hP hS hl.1 dL_errors_576 h (fun u hu => m_L_append l hst Γ (-1 : Int32) u20.2 u hu) (fun u22 H locs h hP hS => ?_) rfl
                        refine lv_ldc2 (v := -9000000000000000002) hx hb hown (hts _ wkl_L_17) dL_errors_579 ?_
                        refine W.lcmp hx hb dL_errors_582 ?_
                        refine lv_if_ne (tgt := 599) hx hb dL_errors_583 (by decide) (fun c23 => ?_) (fun c23 => ?_)
                        · replace h := gneg c23 h
                          refine lv_iconst (v := 0) hx hb dL_errors_599 (by decide) ?_
                          refine W.widen (k := 807) (n := 4842) (by omega) (by omega) ?_
                          exact gzret0 hx hb hr hlk hP hS rfl dL_errors_600 h
                        · replace h := gpos c23 h
                          refine lv_aload_n hx hb dL_errors_586 rfl (lv_at hl 0 rfl) ?_
                          refine gCKl (rest := []) C0 cal_L_now wl_L_120 wt_L_now ⟨Nat.le_of_ble_eq_true rfl, Nat.le_of_ble_eq_true rfl⟩ ⟨gRcl (by omega), gRsl (by omega)⟩ [.ref (gB Γ + 0)] rfl (Nat.le_of_ble_eq_true rfl) hP hS hl.1 dL_errors_587 h (fun u hu => m_L_now l hst Γ u22.2 u hu) (fun u24 H locs h hP hS => ?_) rfl
                          refine lv_lload_n hx hb dL_errors_590 rfl (lv_at hl 1 rfl) ?_
                          refine W.lcmp hx hb dL_errors_591 ?_
                          refine lv_if_ne (tgt := 599) hx hb dL_errors_592 (by decide) (fun c25 => ?_) (fun c25 => ?_)
                          · replace h := gneg c25 h
                            refine lv_iconst (v := 0) hx hb dL_errors_599 (by decide) ?_
                            refine W.widen (k := 807) (n := 4842) (by omega) (by omega) ?_
                            exact gzret0 hx hb hr hlk hP hS rfl dL_errors_600 h
                          · replace h := gpos c25 h
                            refine lv_iconst (v := 1) hx hb dL_errors_595 (by decide) ?_
                            refine lv_goto (tgt := 600) hx hb dL_errors_596 (by decide) ?_
                            refine W.widen (k := 807) (n := 4842) (by omega) (by omega) ?_
                            exact gzret0 hx hb hr hlk hP hS rfl dL_errors_600 h
set_option maxHeartbeats 2000000 in
set_option maxRecDepth 20000 in
theorem bs_L_errors_424 {p : Program} {l : Launch} {e : Env} {s : State} {m : MethodId} {args : Array Value} {below : List Frame} {meth : Method} {c : Code} {Γ : gE} (C0 : gCx p s m args meth c Γ RL cL_errors 8 (some .boolean)) (hst : l.stackTraces = false)   {z : Int32 × gG} {F262 : Int64 → Int32 → Int32 → Int32 → Int32 → gG → Option (Int32 × gG)} {F379 : Int64 → Int32 → Int32 → Int32 → Int32 → Int32 → gG → Option (Int32 × gG)} {l1 : Int64} {l3 : Int32} {l4 : Int32} {l6 : Int32} {l7 : Int32} {s0 : Int32} {g : gG} {H : Heap} {locs : List Loc} {ls : Array Slot} {N262 : Nat} (hF262 : ∀ (cells slots : Nat) (l1 : Int64) (l3 : Int32) (l4 : Int32) (l5 : Int32) (l6 : Int32) (g : gG) (H : Heap) (locs : List Loc) (ls : Array Slot), F262 l1 l3 l4 l5 l6 g = some z → va_P (gD Γ) gcls (lay Γ g) H → va_S (gA Γ) s.heap H locs → lv_has ls 8 [(0, .ref (gB Γ + 0)), (1, .long l1), (3, .int l3), (4, .int l4), (5, .int l5), (6, .int l6)] → cells + N262 ≤ 807 → slots + 6 * N262 ≤ 4842 → W p l e (gRx 10 190 807 4842) s m args below meth c H locs cells slots (MQ below (gQi Γ z) args s 807 4842 (gA Γ)) (F0 m 262 ls [])) {N379 : Nat} (hF379 : ∀ (cells slots : Nat) (l1 : Int64) (l3 : Int32) (l4 : Int32) (l5 : Int32) (l6 : Int32) (l7 : Int32) (g : gG) (H : Heap) (locs : List Loc) (ls : Array Slot), F379 l1 l3 l4 l5 l6 l7 g = some z → va_P (gD Γ) gcls (lay Γ g) H → va_S (gA Γ) s.heap H locs → lv_has ls 8 [(0, .ref (gB Γ + 0)), (1, .long l1), (3, .int l3), (4, .int l4), (5, .int l5), (6, .int l6), (7, .int l7)] → cells + N379 ≤ 807 → slots + 6 * N379 ≤ 4842 → W p l e (gRx 10 190 807 4842) s m args below meth c H locs cells slots (MQ below (gQi Γ z) args s 807 4842 (gA Γ)) (F0 m 379 ls [])) {cells slots N : Nat} (hr1 : cells + N ≤ 807) (hr2 : slots + 6 * N ≤ 4842) (hn_379 : 0 + N379 ≤ N) (h : fs_L_errors_424 F262 F379 l1 l3 l4 l6 l7 s0 g = some z) (hP : va_P (gD Γ) gcls (lay Γ g) H) (hS : va_S (gA Γ) s.heap H locs) (hl : lv_has ls 8 [(0, .ref (gB Γ + 0)), (1, .long l1), (3, .int l3), (4, .int l4), (6, .int l6), (7, .int l7)]) : W p l e (gRx 10 190 807 4842) s m args below meth c H locs cells slots (MQ below (gQi Γ z) args s 807 4842 (gA Γ)) (F0 m 424 ls [.int s0]) := by
  unfold fs_L_errors_424 at h
  obtain ⟨hx, hb, hml, hr, hown, hts, hK, hlk, hX⟩ := id C0
  refine lv_istore (lv' := [(5, .int s0), (0, .ref (gB Γ + 0)), (1, .long l1), (3, .int l3), (4, .int l4), (6, .int l6), (7, .int l7)]) hx hb dL_errors_424 hl (by decide) rfl (fun ls hl => ?_)
  obtain ⟨x1, ex1⟩ : ∃ y : Int32, y = l7 + (1 : Int32) := ⟨_, rfl⟩
  replace h := gLetI ex1 h
  refine lv_iinc (v := x1) (lv' := [(7, .int x1), (5, .int s0), (0, .ref (gB Γ + 0)), (1, .long l1), (3, .int l3), (4, .int l4), (6, .int l6)]) hx hb dL_errors_426 hl (k := 6) rfl (by rw [ex1]; rfl) (by decide) rfl (fun ls hl => ?_)
  refine lv_goto (tgt := 379) hx hb dL_errors_429 (by decide) ?_
  exact hF379 _ _ _ _ _ _ _ _ _ _ _ _ h hP hS (lv_sub hl [2, 3, 4, 5, 1, 6, 0] rfl) (by omega) (by omega)
set_option maxHeartbeats 2000000 in
set_option maxRecDepth 20000 in
theorem bs_L_errors_419 {p : Program} {l : Launch} {e : Env} {s : State} {m : MethodId} {args : Array Value} {below : List Frame} {meth : Method} {c : Code} {Γ : gE} (C0 : gCx p s m args meth c Γ RL cL_errors 8 (some .boolean)) (hst : l.stackTraces = false)   {z : Int32 × gG} {F262 : Int64 → Int32 → Int32 → Int32 → Int32 → gG → Option (Int32 × gG)} {F379 : Int64 → Int32 → Int32 → Int32 → Int32 → Int32 → gG → Option (Int32 × gG)} {l1 : Int64} {l3 : Int32} {l4 : Int32} {l6 : Int32} {l7 : Int32} {g : gG} {H : Heap} {locs : List Loc} {ls : Array Slot} {N262 : Nat} (hF262 : ∀ (cells slots : Nat) (l1 : Int64) (l3 : Int32) (l4 : Int32) (l5 : Int32) (l6 : Int32) (g : gG) (H : Heap) (locs : List Loc) (ls : Array Slot), F262 l1 l3 l4 l5 l6 g = some z → va_P (gD Γ) gcls (lay Γ g) H → va_S (gA Γ) s.heap H locs → lv_has ls 8 [(0, .ref (gB Γ + 0)), (1, .long l1), (3, .int l3), (4, .int l4), (5, .int l5), (6, .int l6)] → cells + N262 ≤ 807 → slots + 6 * N262 ≤ 4842 → W p l e (gRx 10 190 807 4842) s m args below meth c H locs cells slots (MQ below (gQi Γ z) args s 807 4842 (gA Γ)) (F0 m 262 ls [])) {N379 : Nat} (hF379 : ∀ (cells slots : Nat) (l1 : Int64) (l3 : Int32) (l4 : Int32) (l5 : Int32) (l6 : Int32) (l7 : Int32) (g : gG) (H : Heap) (locs : List Loc) (ls : Array Slot), F379 l1 l3 l4 l5 l6 l7 g = some z → va_P (gD Γ) gcls (lay Γ g) H → va_S (gA Γ) s.heap H locs → lv_has ls 8 [(0, .ref (gB Γ + 0)), (1, .long l1), (3, .int l3), (4, .int l4), (5, .int l5), (6, .int l6), (7, .int l7)] → cells + N379 ≤ 807 → slots + 6 * N379 ≤ 4842 → W p l e (gRx 10 190 807 4842) s m args below meth c H locs cells slots (MQ below (gQi Γ z) args s 807 4842 (gA Γ)) (F0 m 379 ls [])) {cells slots N : Nat} (hr1 : cells + N ≤ 807) (hr2 : slots + 6 * N ≤ 4842) (hn_379 : 0 + N379 ≤ N) (h : fs_L_errors_419 F262 F379 l1 l3 l4 l6 l7 g = some z) (hP : va_P (gD Γ) gcls (lay Γ g) H) (hS : va_S (gA Γ) s.heap H locs) (hl : lv_has ls 8 [(0, .ref (gB Γ + 0)), (1, .long l1), (3, .int l3), (4, .int l4), (6, .int l6), (7, .int l7)]) : W p l e (gRx 10 190 807 4842) s m args below meth c H locs cells slots (MQ below (gQi Γ z) args s 807 4842 (gA Γ)) (F0 m 419 ls []) := by
  unfold fs_L_errors_419 at h
  obtain ⟨hx, hb, hml, hr, hown, hts, hK, hlk, hX⟩ := id C0
  refine lv_iconst (v := 1) hx hb dL_errors_419 (by decide) ?_
  refine lv_goto (tgt := 424) hx hb dL_errors_420 (by decide) ?_
  exact bs_L_errors_424 C0 hst hF262 hF379 (N := (N - 0)) (by omega) (by omega) (by omega) h hP hS (lv_sub hl [0, 1, 2, 3, 4, 5] rfl)
set_option maxHeartbeats 2000000 in
set_option maxRecDepth 20000 in
theorem bs_L_errors_379 {p : Program} {l : Launch} {e : Env} {s : State} {m : MethodId} {args : Array Value} {below : List Frame} {meth : Method} {c : Code} {Γ : gE} (C0 : gCx p s m args meth c Γ RL cL_errors 8 (some .boolean)) (hst : l.stackTraces = false)   {z : Int32 × gG} {F262 : Int64 → Int32 → Int32 → Int32 → Int32 → gG → Option (Int32 × gG)} {F379 : Int64 → Int32 → Int32 → Int32 → Int32 → Int32 → gG → Option (Int32 × gG)} {l1 : Int64} {l3 : Int32} {l4 : Int32} {l5 : Int32} {l6 : Int32} {l7 : Int32} {g : gG} {H : Heap} {locs : List Loc} {ls : Array Slot} {N262 : Nat} (hF262 : ∀ (cells slots : Nat) (l1 : Int64) (l3 : Int32) (l4 : Int32) (l5 : Int32) (l6 : Int32) (g : gG) (H : Heap) (locs : List Loc) (ls : Array Slot), F262 l1 l3 l4 l5 l6 g = some z → va_P (gD Γ) gcls (lay Γ g) H → va_S (gA Γ) s.heap H locs → lv_has ls 8 [(0, .ref (gB Γ + 0)), (1, .long l1), (3, .int l3), (4, .int l4), (5, .int l5), (6, .int l6)] → cells + N262 ≤ 807 → slots + 6 * N262 ≤ 4842 → W p l e (gRx 10 190 807 4842) s m args below meth c H locs cells slots (MQ below (gQi Γ z) args s 807 4842 (gA Γ)) (F0 m 262 ls [])) {N379 : Nat} (hF379 : ∀ (cells slots : Nat) (l1 : Int64) (l3 : Int32) (l4 : Int32) (l5 : Int32) (l6 : Int32) (l7 : Int32) (g : gG) (H : Heap) (locs : List Loc) (ls : Array Slot), F379 l1 l3 l4 l5 l6 l7 g = some z → va_P (gD Γ) gcls (lay Γ g) H → va_S (gA Γ) s.heap H locs → lv_has ls 8 [(0, .ref (gB Γ + 0)), (1, .long l1), (3, .int l3), (4, .int l4), (5, .int l5), (6, .int l6), (7, .int l7)] → cells + N379 ≤ 807 → slots + 6 * N379 ≤ 4842 → W p l e (gRx 10 190 807 4842) s m args below meth c H locs cells slots (MQ below (gQi Γ z) args s 807 4842 (gA Γ)) (F0 m 379 ls [])) {cells slots N : Nat} (hr1 : cells + N ≤ 807) (hr2 : slots + 6 * N ≤ 4842) (hn_262 : 0 + N262 ≤ N) (hn_379 : 4 + N379 ≤ N) (h : fs_L_errors_379 F262 F379 l1 l3 l4 l5 l6 l7 g = some z) (hP : va_P (gD Γ) gcls (lay Γ g) H) (hS : va_S (gA Γ) s.heap H locs) (hl : lv_has ls 8 [(0, .ref (gB Γ + 0)), (1, .long l1), (3, .int l3), (4, .int l4), (5, .int l5), (6, .int l6), (7, .int l7)]) : W p l e (gRx 10 190 807 4842) s m args below meth c H locs cells slots (MQ below (gQi Γ z) args s 807 4842 (gA Γ)) (F0 m 379 ls []) := by
  unfold fs_L_errors_379 at h
  obtain ⟨hx, hb, hml, hr, hown, hts, hK, hlk, hX⟩ := id C0
  refine lv_iload hx hb dL_errors_379 (lv_at hl 6 rfl) ?_
  refine lv_iload_n hx hb dL_errors_381 rfl (lv_at hl 2 rfl) ?_
  refine lv_icmp_ge (tgt := 432) hx hb dL_errors_382 (by decide) (fun c1 => ?_) (fun c1 => ?_)
  · replace h := gpos c1 h
    obtain ⟨x2, ex2⟩ : ∃ y : Int32, y = l6 + (1 : Int32) := ⟨_, rfl⟩
    replace h := gLetI ex2 h
    refine lv_iinc (v := x2) (lv' := [(6, .int x2), (0, .ref (gB Γ + 0)), (1, .long l1), (3, .int l3), (4, .int l4), (5, .int l5), (7, .int l7)]) hx hb dL_errors_432 hl (k := 5) rfl (by rw [ex2]; rfl) (by decide) rfl (fun ls hl => ?_)
    refine lv_goto (tgt := 262) hx hb dL_errors_435 (by decide) ?_
    exact hF262 _ _ _ _ _ _ _ _ _ _ _ h hP hS (lv_sub hl [1, 2, 3, 4, 5, 0] rfl) (by omega) (by omega)
  · replace h := gneg c1 h
    refine lv_iload hx hb dL_errors_385 (lv_at hl 4 rfl) ?_
    refine lv_if_eq (tgt := 432) hx hb dL_errors_387 (by decide) (fun c3 => ?_) (fun c3 => ?_)
    · replace h := gpos c3 h
      obtain ⟨x4, ex4⟩ : ∃ y : Int32, y = l6 + (1 : Int32) := ⟨_, rfl⟩
      replace h := gLetI ex4 h
      refine lv_iinc (v := x4) (lv' := [(6, .int x4), (0, .ref (gB Γ + 0)), (1, .long l1), (3, .int l3), (4, .int l4), (5, .int l5), (7, .int l7)]) hx hb dL_errors_432 hl (k := 5) rfl (by rw [ex4]; rfl) (by decide) rfl (fun ls hl => ?_)
      refine lv_goto (tgt := 262) hx hb dL_errors_435 (by decide) ?_
      exact hF262 _ _ _ _ _ _ _ _ _ _ _ h hP hS (lv_sub hl [1, 2, 3, 4, 5, 0] rfl) (by omega) (by omega)
    · replace h := gneg c3 h
      refine lv_aload_n hx hb dL_errors_390 rfl (lv_at hl 0 rfl) ?_
      refine lv_iload hx hb dL_errors_391 (lv_at hl 5 rfl) ?_
      refine gCHl (n2 := 2) (rest := []) C0 wcw_L_open wn_L (by decide +kernel) wl_L_116 wt_L_open ⟨Nat.le_of_ble_eq_true rfl, Nat.le_of_ble_eq_true rfl⟩ ⟨gRcl (by omega), gRsl (by omega)⟩ [.ref (gB Γ + 0), .int l6] rfl (Nat.le_of_ble_eq_true rfl) hP hS hl.1 dL_errors_393 h (fun u hu => m_L_open l hst Γ l6 g u hu) (fun u5 H locs h hP hS => ?_) rfl
      refine lv_iload hx hb dL_errors_396 (lv_at hl 6 rfl) ?_
      refine gCSi (rest := []) C0 cal_L_has wl_L_147 wt_L_has ⟨Nat.le_of_ble_eq_true rfl, Nat.le_of_ble_eq_true rfl⟩ ⟨gRcl (by omega), gRsl (by omega)⟩ [.long u5.1, .int l7] rfl (Nat.le_of_ble_eq_true rfl) hP hS hl.1 dL_errors_398 h (fun u hu => m_L_has l Γ u5.1 l7 u5.2 u hu) (fun u6 H locs h hP hS => ?_) rfl
      refine lv_if_ne (tgt := 419) hx hb dL_errors_401 (by decide) (fun c7 => ?_) (fun c7 => ?_)
      · replace h := gneg c7 h
        exact bs_L_errors_419 C0 hst hF262 hF379 (N := (N - 1)) (by omega) (by omega) (by omega) h hP hS (lv_sub hl [0, 1, 2, 3, 5, 6] rfl)
      · replace h := gpos c7 h
        refine lv_aload_n hx hb dL_errors_404 rfl (lv_at hl 0 rfl) ?_
        refine lv_iload hx hb dL_errors_405 (lv_at hl 5 rfl) ?_
        refine lv_iload hx hb dL_errors_407 (lv_at hl 6 rfl) ?_
        refine gCHl (n2 := 3) (rest := []) C0 wcw_L_go wn_L (by decide +kernel) wl_L_128 wt_L_go ⟨Nat.le_of_ble_eq_true rfl, Nat.le_of_ble_eq_true rfl⟩ ⟨gRcl (by omega), gRsl (by omega)⟩ [.ref (gB Γ + 0), .int l6, .int l7] rfl (Nat.le_of_ble_eq_true rfl) hP hS hl.1 dL_errors_409 h (fun u hu => m_L_go l hst Γ l6 l7 u6.2 u hu) (fun u8 H locs h hP hS => ?_) rfl
        refine lv_ldc2 (v := -9000000000000000003) hx hb hown (hts _ wkl_L_21) dL_errors_412 ?_
        refine W.lcmp hx hb dL_errors_415 ?_
        refine lv_if_ne (tgt := 423) hx hb dL_errors_416 (by decide) (fun c9 => ?_) (fun c9 => ?_)
        · replace h := gneg c9 h
          refine lv_iconst (v := 0) hx hb dL_errors_423 (by decide) ?_
          exact bs_L_errors_424 C0 hst hF262 hF379 (N := (N - 4)) (by omega) (by omega) (by omega) h hP hS (lv_sub hl [0, 1, 2, 3, 5, 6] rfl)
        · replace h := gpos c9 h
          exact bs_L_errors_419 C0 hst hF262 hF379 (N := (N - 4)) (by omega) (by omega) (by omega) h hP hS (lv_sub hl [0, 1, 2, 3, 5, 6] rfl)
set_option maxHeartbeats 2000000 in
set_option maxRecDepth 20000 in
theorem bk_L_errors_379 {p : Program} {l : Launch} {e : Env} {s : State} {m : MethodId} {args : Array Value} {below : List Frame} {meth : Method} {c : Code} {Γ : gE} (C0 : gCx p s m args meth c Γ RL cL_errors 8 (some .boolean)) (hst : l.stackTraces = false)   {z : Int32 × gG} {F262 : Int64 → Int32 → Int32 → Int32 → Int32 → gG → Option (Int32 × gG)} {N262 : Nat} (hF262 : ∀ (cells slots : Nat) (l1 : Int64) (l3 : Int32) (l4 : Int32) (l5 : Int32) (l6 : Int32) (g : gG) (H : Heap) (locs : List Loc) (ls : Array Slot), F262 l1 l3 l4 l5 l6 g = some z → va_P (gD Γ) gcls (lay Γ g) H → va_S (gA Γ) s.heap H locs → lv_has ls 8 [(0, .ref (gB Γ + 0)), (1, .long l1), (3, .int l3), (4, .int l4), (5, .int l5), (6, .int l6)] → cells + N262 ≤ 807 → slots + 6 * N262 ≤ 4842 → W p l e (gRx 10 190 807 4842) s m args below meth c H locs cells slots (MQ below (gQi Γ z) args s 807 4842 (gA Γ)) (F0 m 262 ls [])) {T : Nat} (hT_262 : 0 + N262 ≤ T) : ∀ (n cells slots : Nat) (l1 : Int64) (l3 : Int32) (l4 : Int32) (l5 : Int32) (l6 : Int32) (l7 : Int32) (g : gG) (H : Heap) (locs : List Loc) (ls : Array Slot), fb_L_errors_379 F262 n l1 l3 l4 l5 l6 l7 g = some z → va_P (gD Γ) gcls (lay Γ g) H → va_S (gA Γ) s.heap H locs → lv_has ls 8 [(0, .ref (gB Γ + 0)), (1, .long l1), (3, .int l3), (4, .int l4), (5, .int l5), (6, .int l6), (7, .int l7)] → cells + (n * 4 + T) ≤ 807 → slots + 6 * (n * 4 + T) ≤ 4842 → W p l e (gRx 10 190 807 4842) s m args below meth c H locs cells slots (MQ below (gQi Γ z) args s 807 4842 (gA Γ)) (F0 m 379 ls []) := by
  intro n
  induction n with
  | zero => intro cells slots l1 l3 l4 l5 l6 l7 g H locs ls h hP hS hl hr1 hr2; cases h
  | succ n ih => intro cells slots l1 l3 l4 l5 l6 l7 g H locs ls h hP hS hl hr1 hr2; exact bs_L_errors_379 C0 hst hF262 (N := (n + 1) * 4 + T) ih hr1 hr2 (by omega) (by omega) h hP hS hl
set_option maxHeartbeats 2000000 in
set_option maxRecDepth 20000 in
theorem bs_L_errors_374 {p : Program} {l : Launch} {e : Env} {s : State} {m : MethodId} {args : Array Value} {below : List Frame} {meth : Method} {c : Code} {Γ : gE} (C0 : gCx p s m args meth c Γ RL cL_errors 8 (some .boolean)) (hst : l.stackTraces = false)   {z : Int32 × gG} {F262 : Int64 → Int32 → Int32 → Int32 → Int32 → gG → Option (Int32 × gG)} {l1 : Int64} {l3 : Int32} {l4 : Int32} {l6 : Int32} {s0 : Int32} {g : gG} {H : Heap} {locs : List Loc} {ls : Array Slot} {N262 : Nat} (hF262 : ∀ (cells slots : Nat) (l1 : Int64) (l3 : Int32) (l4 : Int32) (l5 : Int32) (l6 : Int32) (g : gG) (H : Heap) (locs : List Loc) (ls : Array Slot), F262 l1 l3 l4 l5 l6 g = some z → va_P (gD Γ) gcls (lay Γ g) H → va_S (gA Γ) s.heap H locs → lv_has ls 8 [(0, .ref (gB Γ + 0)), (1, .long l1), (3, .int l3), (4, .int l4), (5, .int l5), (6, .int l6)] → cells + N262 ≤ 807 → slots + 6 * N262 ≤ 4842 → W p l e (gRx 10 190 807 4842) s m args below meth c H locs cells slots (MQ below (gQi Γ z) args s 807 4842 (gA Γ)) (F0 m 262 ls [])) {cells slots N : Nat} (hr1 : cells + N ≤ 807) (hr2 : slots + 6 * N ≤ 4842) (hn_262 : 48 + N262 ≤ N) (h : fs_L_errors_374 F262 l1 l3 l4 l6 s0 g = some z) (hP : va_P (gD Γ) gcls (lay Γ g) H) (hS : va_S (gA Γ) s.heap H locs) (hl : lv_has ls 8 [(0, .ref (gB Γ + 0)), (1, .long l1), (3, .int l3), (4, .int l4), (6, .int l6)]) : W p l e (gRx 10 190 807 4842) s m args below meth c H locs cells slots (MQ below (gQi Γ z) args s 807 4842 (gA Γ)) (F0 m 374 ls [.int s0]) := by
  unfold fs_L_errors_374 at h
  obtain ⟨hx, hb, hml, hr, hown, hts, hK, hlk, hX⟩ := id C0
  refine lv_istore (lv' := [(5, .int s0), (0, .ref (gB Γ + 0)), (1, .long l1), (3, .int l3), (4, .int l4), (6, .int l6)]) hx hb dL_errors_374 hl (by decide) rfl (fun ls hl => ?_)
  refine lv_iconst (v := 0) hx hb dL_errors_376 (by decide) ?_
  refine lv_istore (lv' := [(7, .int (0 : Int32)), (5, .int s0), (0, .ref (gB Γ + 0)), (1, .long l1), (3, .int l3), (4, .int l4), (6, .int l6)]) hx hb dL_errors_377 hl (by decide) rfl (fun ls hl => ?_)
  exact bk_L_errors_379 C0 hst hF262 (T := (N - 0) - 48) (by omega) gFuelL _ _ _ _ _ _ _ _ _ _ _ _ h hP hS (lv_sub hl [2, 3, 4, 5, 1, 6, 0] rfl) (by unfold gFuelL; omega) (by unfold gFuelL; omega)
set_option maxHeartbeats 2000000 in
set_option maxRecDepth 20000 in
theorem bs_L_errors_373 {p : Program} {l : Launch} {e : Env} {s : State} {m : MethodId} {args : Array Value} {below : List Frame} {meth : Method} {c : Code} {Γ : gE} (C0 : gCx p s m args meth c Γ RL cL_errors 8 (some .boolean)) (hst : l.stackTraces = false)   {z : Int32 × gG} {F262 : Int64 → Int32 → Int32 → Int32 → Int32 → gG → Option (Int32 × gG)} {l1 : Int64} {l3 : Int32} {l4 : Int32} {l6 : Int32} {g : gG} {H : Heap} {locs : List Loc} {ls : Array Slot} {N262 : Nat} (hF262 : ∀ (cells slots : Nat) (l1 : Int64) (l3 : Int32) (l4 : Int32) (l5 : Int32) (l6 : Int32) (g : gG) (H : Heap) (locs : List Loc) (ls : Array Slot), F262 l1 l3 l4 l5 l6 g = some z → va_P (gD Γ) gcls (lay Γ g) H → va_S (gA Γ) s.heap H locs → lv_has ls 8 [(0, .ref (gB Γ + 0)), (1, .long l1), (3, .int l3), (4, .int l4), (5, .int l5), (6, .int l6)] → cells + N262 ≤ 807 → slots + 6 * N262 ≤ 4842 → W p l e (gRx 10 190 807 4842) s m args below meth c H locs cells slots (MQ below (gQi Γ z) args s 807 4842 (gA Γ)) (F0 m 262 ls [])) {cells slots N : Nat} (hr1 : cells + N ≤ 807) (hr2 : slots + 6 * N ≤ 4842) (hn_262 : 48 + N262 ≤ N) (h : fs_L_errors_373 F262 l1 l3 l4 l6 g = some z) (hP : va_P (gD Γ) gcls (lay Γ g) H) (hS : va_S (gA Γ) s.heap H locs) (hl : lv_has ls 8 [(0, .ref (gB Γ + 0)), (1, .long l1), (3, .int l3), (4, .int l4), (6, .int l6)]) : W p l e (gRx 10 190 807 4842) s m args below meth c H locs cells slots (MQ below (gQi Γ z) args s 807 4842 (gA Γ)) (F0 m 373 ls []) := by
  unfold fs_L_errors_373 at h
  obtain ⟨hx, hb, hml, hr, hown, hts, hK, hlk, hX⟩ := id C0
  refine lv_iconst (v := 0) hx hb dL_errors_373 (by decide) ?_
  exact bs_L_errors_374 C0 hst hF262 (N := (N - 0)) (by omega) (by omega) (by omega) h hP hS (lv_sub hl [0, 1, 2, 3, 4] rfl)
set_option maxHeartbeats 2000000 in
set_option maxRecDepth 20000 in
theorem bs_L_errors_369 {p : Program} {l : Launch} {e : Env} {s : State} {m : MethodId} {args : Array Value} {below : List Frame} {meth : Method} {c : Code} {Γ : gE} (C0 : gCx p s m args meth c Γ RL cL_errors 8 (some .boolean)) (hst : l.stackTraces = false)   {z : Int32 × gG} {F262 : Int64 → Int32 → Int32 → Int32 → Int32 → gG → Option (Int32 × gG)} {l1 : Int64} {l3 : Int32} {l4 : Int32} {l6 : Int32} {g : gG} {H : Heap} {locs : List Loc} {ls : Array Slot} {N262 : Nat} (hF262 : ∀ (cells slots : Nat) (l1 : Int64) (l3 : Int32) (l4 : Int32) (l5 : Int32) (l6 : Int32) (g : gG) (H : Heap) (locs : List Loc) (ls : Array Slot), F262 l1 l3 l4 l5 l6 g = some z → va_P (gD Γ) gcls (lay Γ g) H → va_S (gA Γ) s.heap H locs → lv_has ls 8 [(0, .ref (gB Γ + 0)), (1, .long l1), (3, .int l3), (4, .int l4), (5, .int l5), (6, .int l6)] → cells + N262 ≤ 807 → slots + 6 * N262 ≤ 4842 → W p l e (gRx 10 190 807 4842) s m args below meth c H locs cells slots (MQ below (gQi Γ z) args s 807 4842 (gA Γ)) (F0 m 262 ls [])) {cells slots N : Nat} (hr1 : cells + N ≤ 807) (hr2 : slots + 6 * N ≤ 4842) (hn_262 : 48 + N262 ≤ N) (h : fs_L_errors_369 F262 l1 l3 l4 l6 g = some z) (hP : va_P (gD Γ) gcls (lay Γ g) H) (hS : va_S (gA Γ) s.heap H locs) (hl : lv_has ls 8 [(0, .ref (gB Γ + 0)), (1, .long l1), (3, .int l3), (4, .int l4), (6, .int l6)]) : W p l e (gRx 10 190 807 4842) s m args below meth c H locs cells slots (MQ below (gQi Γ z) args s 807 4842 (gA Γ)) (F0 m 369 ls []) := by
  unfold fs_L_errors_369 at h
  obtain ⟨hx, hb, hml, hr, hown, hts, hK, hlk, hX⟩ := id C0
  refine lv_iconst (v := 1) hx hb dL_errors_369 (by decide) ?_
  refine lv_goto (tgt := 374) hx hb dL_errors_370 (by decide) ?_
  exact bs_L_errors_374 C0 hst hF262 (N := (N - 0)) (by omega) (by omega) (by omega) h hP hS (lv_sub hl [0, 1, 2, 3, 4] rfl)
set_option maxHeartbeats 2000000 in
set_option maxRecDepth 20000 in
theorem bs_L_errors_262 {p : Program} {l : Launch} {e : Env} {s : State} {m : MethodId} {args : Array Value} {below : List Frame} {meth : Method} {c : Code} {Γ : gE} (C0 : gCx p s m args meth c Γ RL cL_errors 8 (some .boolean)) (hst : l.stackTraces = false)   {z : Int32 × gG} {F262 : Int64 → Int32 → Int32 → Int32 → Int32 → gG → Option (Int32 × gG)} {l1 : Int64} {l3 : Int32} {l4 : Int32} {l5 : Int32} {l6 : Int32} {g : gG} {H : Heap} {locs : List Loc} {ls : Array Slot} {N262 : Nat} (hF262 : ∀ (cells slots : Nat) (l1 : Int64) (l3 : Int32) (l4 : Int32) (l5 : Int32) (l6 : Int32) (g : gG) (H : Heap) (locs : List Loc) (ls : Array Slot), F262 l1 l3 l4 l5 l6 g = some z → va_P (gD Γ) gcls (lay Γ g) H → va_S (gA Γ) s.heap H locs → lv_has ls 8 [(0, .ref (gB Γ + 0)), (1, .long l1), (3, .int l3), (4, .int l4), (5, .int l5), (6, .int l6)] → cells + N262 ≤ 807 → slots + 6 * N262 ≤ 4842 → W p l e (gRx 10 190 807 4842) s m args below meth c H locs cells slots (MQ below (gQi Γ z) args s 807 4842 (gA Γ)) (F0 m 262 ls [])) {cells slots N : Nat} (hr1 : cells + N ≤ 807) (hr2 : slots + 6 * N ≤ 4842) (hn_ret : 240 ≤ N) (hn_262 : 62 + N262 ≤ N) (h : fs_L_errors_262 F262 l1 l3 l4 l5 l6 g = some z) (hP : va_P (gD Γ) gcls (lay Γ g) H) (hS : va_S (gA Γ) s.heap H locs) (hl : lv_has ls 8 [(0, .ref (gB Γ + 0)), (1, .long l1), (3, .int l3), (4, .int l4), (5, .int l5), (6, .int l6)]) : W p l e (gRx 10 190 807 4842) s m args below meth c H locs cells slots (MQ below (gQi Γ z) args s 807 4842 (gA Γ)) (F0 m 262 ls []) := by
  unfold fs_L_errors_262 at h
  obtain ⟨hx, hb, hml, hr, hown, hts, hK, hlk, hX⟩ := id C0
  refine lv_iload hx hb dL_errors_262 (lv_at hl 5 rfl) ?_
  refine lv_iload hx hb dL_errors_264 (lv_at hl 3 rfl) ?_
  refine lv_icmp_ge (tgt := 438) hx hb dL_errors_266 (by decide) (fun c1 => ?_) (fun c1 => ?_)
  · replace h := gpos c1 h
    exact bs_L_errors_438 C0 hst  (N := (N - 0)) (by omega) (by omega) (by omega) h hP hS (lv_sub hl [0, 1, 3, 4] rfl)
  · replace h := gneg c1 h
    refine lv_iload hx hb dL_errors_269 (lv_at hl 4 rfl) ?_
    refine lv_if_eq (tgt := 438) hx hb dL_errors_271 (by decide) (fun c2 => ?_) (fun c2 => ?_)
    · replace h := gpos c2 h
      exact bs_L_errors_438 C0 hst  (N := (N - 0)) (by omega) (by omega) (by omega) h hP hS (lv_sub hl [0, 1, 3, 4] rfl)
    · replace h := gneg c2 h
      refine lv_aload_n hx hb dL_errors_274 rfl (lv_at hl 0 rfl) ?_
      refine lv_iload hx hb dL_errors_275 (lv_at hl 5 rfl) ?_
      refine lv_bipush (v := 6) hx hb dL_errors_277 (by decide) ?_
      refine gCHl (n2 := 3) (rest := []) C0 wcw_L_team wn_L (by decide +kernel) wl_L_114 wt_L_team ⟨Nat.le_of_ble_eq_true rfl, Nat.le_of_ble_eq_true rfl⟩ ⟨gRcl (by omega), gRsl (by omega)⟩ [.ref (gB Γ + 0), .int l6, .int (6 : Int32)] rfl (Nat.le_of_ble_eq_true rfl) hP hS hl.1 dL_errors_279 h (fun u hu => m_L_team l hst Γ l6 (6 : Int32) g u hu) (fun u3 H locs h hP hS => ?_) rfl
      refine lv_ldc2 (v := -9000000000000000002) hx hb hown (hts _ wkl_L_17) dL_errors_282 ?_
      refine W.lcmp hx hb dL_errors_285 ?_
      refine lv_if_ne (tgt := 373) hx hb dL_errors_286 (by decide) (fun c4 => ?_) (fun c4 => ?_)
      · replace h := gneg c4 h
        exact bs_L_errors_373 C0 hst hF262 (N := (N - 2)) (by omega) (by omega) (by omega) h hP hS (lv_sub hl [0, 1, 2, 3, 5] rfl)
      · replace h := gpos c4 h
        refine lv_aload_n hx hb dL_errors_289 rfl (lv_at hl 0 rfl) ?_
        refine lv_iload hx hb dL_errors_290 (lv_at hl 5 rfl) ?_
        refine lv_iconst (v := -1) hx hb dL_errors_292 (by decide) ?_
        refine gCHl (n2 := 3) (rest := []) C0 wcw_L_trail wn_L (by decide +kernel) wl_L_126 wt_L_trail ⟨Nat.le_of_ble_eq_true rfl, Nat.le_of_ble_eq_true rfl⟩ ⟨gRcl (by omega), gRsl (by omega)⟩ [.ref (gB Γ + 0), .int l6, .int (-1 : Int32)] rfl (Nat.le_of_ble_eq_true rfl) hP hS hl.1 dL_errors_293 h (fun u hu => m_L_trail l hst Γ l6 (-1 : Int32) u3.2 u hu) (fun u5 H locs h hP hS => ?_) rfl
        refine lv_ldc2 (v := -9000000000000000002) hx hb hown (hts _ wkl_L_17) dL_errors_296 ?_
        refine W.lcmp hx hb dL_errors_299 ?_
        refine lv_if_ne (tgt := 373) hx hb dL_errors_300 (by decide) (fun c6 => ?_) (fun c6 => ?_)
        · replace h := gneg c6 h
          exact bs_L_errors_373 C0 hst hF262 (N := (N - 4)) (by omega) (by omega) (by omega) h hP hS (lv_sub hl [0, 1, 2, 3, 5] rfl)
        · replace h := gpos c6 h
          refine lv_aload_n hx hb dL_errors_303 rfl (lv_at hl 0 rfl) ?_
          refine lv_iload hx hb dL_errors_304 (lv_at hl 5 rfl) ?_
          refine lv_iload_n hx hb dL_errors_306 rfl (lv_at hl 2 rfl) ?_
          refine gCHl (n2 := 3) (rest := []) C0 wcw_L_go wn_L (by decide +kernel) wl_L_128 wt_L_go ⟨Nat.le_of_ble_eq_true rfl, Nat.le_of_ble_eq_true rfl⟩ ⟨gRcl (by omega), gRsl (by omega)⟩ [.ref (gB Γ + 0), .int l6, .int l3] rfl (Nat.le_of_ble_eq_true rfl) hP hS hl.1 dL_errors_307 h (fun u hu => m_L_go l hst Γ l6 l3 u5.2 u hu) (fun u7 H locs h hP hS => ?_) rfl
          refine lv_ldc2 (v := -9000000000000000001) hx hb hown (hts _ wkl_L_36) dL_errors_310 ?_
          refine W.lcmp hx hb dL_errors_313 ?_
          refine lv_if_ne (tgt := 373) hx hb dL_errors_314 (by decide) (fun c8 => ?_) (fun c8 => ?_)
          · replace h := gneg c8 h
            exact bs_L_errors_373 C0 hst hF262 (N := (N - 7)) (by omega) (by omega) (by omega) h hP hS (lv_sub hl [0, 1, 2, 3, 5] rfl)
          · replace h := gpos c8 h
            refine lv_aload_n hx hb dL_errors_317 rfl (lv_at hl 0 rfl) ?_
            refine lv_iload hx hb dL_errors_318 (lv_at hl 5 rfl) ?_
            refine lv_iconst (v := 2) hx hb dL_errors_320 (by decide) ?_
            refine gCHl (n2 := 3) (rest := []) C0 wcw_L_shortest wn_L (by decide +kernel) wl_L_141 wt_L_shortest ⟨Nat.le_of_ble_eq_true rfl, Nat.le_of_ble_eq_true rfl⟩ ⟨gRcl (by omega), gRsl (by omega)⟩ [.ref (gB Γ + 0), .int l6, .int (2 : Int32)] rfl (Nat.le_of_ble_eq_true rfl) hP hS hl.1 dL_errors_321 h (fun u hu => m_L_shortest l hst Γ l6 (2 : Int32) u7.2 u hu) (fun u9 H locs h hP hS => ?_) rfl
            refine lv_ldc2 (v := -9000000000000000002) hx hb hown (hts _ wkl_L_17) dL_errors_324 ?_
            refine W.lcmp hx hb dL_errors_327 ?_
            refine lv_if_ne (tgt := 373) hx hb dL_errors_328 (by decide) (fun c10 => ?_) (fun c10 => ?_)
            · replace h := gneg c10 h
              exact bs_L_errors_373 C0 hst hF262 (N := (N - 9)) (by omega) (by omega) (by omega) h hP hS (lv_sub hl [0, 1, 2, 3, 5] rfl)
            · replace h := gpos c10 h
              refine lv_aload_n hx hb dL_errors_331 rfl (lv_at hl 0 rfl) ?_
              refine lv_iload hx hb dL_errors_332 (lv_at hl 5 rfl) ?_
              refine lv_iconst (v := -1) hx hb dL_errors_334 (by decide) ?_
              refine gCHl (n2 := 3) (rest := []) C0 wcw_L_quickest wn_L (by decide +kernel) wl_L_143 wt_L_quickest ⟨Nat.le_of_ble_eq_true rfl, Nat.le_of_ble_eq_true rfl⟩ ⟨gRcl (by omega), gRsl (by omega)⟩ [.ref (gB Γ + 0), .int l6, .int (-1 : Int32)] rfl (Nat.le_of_ble_eq_true rfl) hP hS hl.1 dL_errors_335 h (fun u hu => m_L_quickest l hst Γ l6 (-1 : Int32) u9.2 u hu) (fun u11 H locs h hP hS => ?_) rfl
              refine lv_ldc2 (v := -9000000000000000002) hx hb hown (hts _ wkl_L_17) dL_errors_338 ?_
              refine W.lcmp hx hb dL_errors_341 ?_
              refine lv_if_ne (tgt := 373) hx hb dL_errors_342 (by decide) (fun c12 => ?_) (fun c12 => ?_)
              · replace h := gneg c12 h
                exact bs_L_errors_373 C0 hst hF262 (N := (N - 11)) (by omega) (by omega) (by omega) h hP hS (lv_sub hl [0, 1, 2, 3, 5] rfl)
              · replace h := gpos c12 h
                refine lv_aload_n hx hb dL_errors_345 rfl (lv_at hl 0 rfl) ?_
                refine lv_iload hx hb dL_errors_346 (lv_at hl 5 rfl) ?_
                refine gCHl (n2 := 2) (rest := []) C0 wcw_L_safe wn_L (by decide +kernel) wl_L_145 wt_L_safe ⟨Nat.le_of_ble_eq_true rfl, Nat.le_of_ble_eq_true rfl⟩ ⟨gRcl (by omega), gRsl (by omega)⟩ [.ref (gB Γ + 0), .int l6] rfl (Nat.le_of_ble_eq_true rfl) hP hS hl.1 dL_errors_348 h (fun u hu => m_L_safe l hst Γ l6 u11.2 u hu) (fun u13 H locs h hP hS => ?_) rfl
                refine lv_lconst (v := 0) hx hb dL_errors_351 (by decide) ?_
                refine W.lcmp hx hb dL_errors_352 ?_
                refine lv_if_gt (tgt := 369) hx hb dL_errors_353 (by decide) (fun c14 => ?_) (fun c14 => ?_)
                · replace h := gpos c14 h
                  exact bs_L_errors_369 C0 hst hF262 (N := (N - 12)) (by omega) (by omega) (by omega) h hP hS (lv_sub hl [0, 1, 2, 3, 5] rfl)
                · replace h := gneg c14 h
                  refine lv_aload_n hx hb dL_errors_356 rfl (lv_at hl 0 rfl) ?_
                  refine lv_iload hx hb dL_errors_357 (lv_at hl 5 rfl) ?_
                  refine gCHl (n2 := 2) (rest := []) C0 wcw_L_hint wn_L (by decide +kernel) wl_L_130 wt_L_hint ⟨Nat.le_of_ble_eq_true rfl, Nat.le_of_ble_eq_true rfl⟩ ⟨gRcl (by omega), gRsl (by omega)⟩ [.ref (gB Γ + 0), .int l6] rfl (Nat.le_of_ble_eq_true rfl) hP hS hl.1 dL_errors_359 h (fun u hu => m_L_hint l hst Γ l6 u13.2 u hu) (fun u15 H locs h hP hS => ?_) rfl
                  refine lv_ldc2 (v := -9000000000000000003) hx hb hown (hts _ wkl_L_21) dL_errors_362 ?_
                  refine W.lcmp hx hb dL_errors_365 ?_
                  refine lv_if_ne (tgt := 373) hx hb dL_errors_366 (by decide) (fun c16 => ?_) (fun c16 => ?_)
                  · replace h := gneg c16 h
                    exact bs_L_errors_373 C0 hst hF262 (N := (N - 14)) (by omega) (by omega) (by omega) h hP hS (lv_sub hl [0, 1, 2, 3, 5] rfl)
                  · replace h := gpos c16 h
                    exact bs_L_errors_369 C0 hst hF262 (N := (N - 14)) (by omega) (by omega) (by omega) h hP hS (lv_sub hl [0, 1, 2, 3, 5] rfl)
set_option maxHeartbeats 2000000 in
set_option maxRecDepth 20000 in
theorem bk_L_errors_262 {p : Program} {l : Launch} {e : Env} {s : State} {m : MethodId} {args : Array Value} {below : List Frame} {meth : Method} {c : Code} {Γ : gE} (C0 : gCx p s m args meth c Γ RL cL_errors 8 (some .boolean)) (hst : l.stackTraces = false)   {z : Int32 × gG}   {T : Nat} (hT_ret : 240 ≤ T) : ∀ (n cells slots : Nat) (l1 : Int64) (l3 : Int32) (l4 : Int32) (l5 : Int32) (l6 : Int32) (g : gG) (H : Heap) (locs : List Loc) (ls : Array Slot), fb_L_errors_262 n l1 l3 l4 l5 l6 g = some z → va_P (gD Γ) gcls (lay Γ g) H → va_S (gA Γ) s.heap H locs → lv_has ls 8 [(0, .ref (gB Γ + 0)), (1, .long l1), (3, .int l3), (4, .int l4), (5, .int l5), (6, .int l6)] → cells + (n * 62 + T) ≤ 807 → slots + 6 * (n * 62 + T) ≤ 4842 → W p l e (gRx 10 190 807 4842) s m args below meth c H locs cells slots (MQ below (gQi Γ z) args s 807 4842 (gA Γ)) (F0 m 262 ls []) := by
  intro n
  induction n with
  | zero => intro cells slots l1 l3 l4 l5 l6 g H locs ls h hP hS hl hr1 hr2; cases h
  | succ n ih => intro cells slots l1 l3 l4 l5 l6 g H locs ls h hP hS hl hr1 hr2; exact bs_L_errors_262 C0 hst  (N := (n + 1) * 62 + T) ih hr1 hr2 (by omega) (by omega) h hP hS hl
set_option maxHeartbeats 2000000 in
set_option maxRecDepth 20000 in
theorem bs_L_errors_257 {p : Program} {l : Launch} {e : Env} {s : State} {m : MethodId} {args : Array Value} {below : List Frame} {meth : Method} {c : Code} {Γ : gE} (C0 : gCx p s m args meth c Γ RL cL_errors 8 (some .boolean)) (hst : l.stackTraces = false)   {z : Int32 × gG}  {l1 : Int64} {l3 : Int32} {l4 : Int32} {s0 : Int32} {g : gG} {H : Heap} {locs : List Loc} {ls : Array Slot} {cells slots N : Nat} (hr1 : cells + N ≤ 807) (hr2 : slots + 6 * N ≤ 4842) (hn_ret : 550 ≤ N)  (h : fs_L_errors_257 l1 l3 l4 s0 g = some z) (hP : va_P (gD Γ) gcls (lay Γ g) H) (hS : va_S (gA Γ) s.heap H locs) (hl : lv_has ls 8 [(0, .ref (gB Γ + 0)), (1, .long l1), (3, .int l3), (4, .int l4)]) : W p l e (gRx 10 190 807 4842) s m args below meth c H locs cells slots (MQ below (gQi Γ z) args s 807 4842 (gA Γ)) (F0 m 257 ls [.int s0]) := by
  unfold fs_L_errors_257 at h
  obtain ⟨hx, hb, hml, hr, hown, hts, hK, hlk, hX⟩ := id C0
  refine lv_istore (lv' := [(5, .int s0), (0, .ref (gB Γ + 0)), (1, .long l1), (3, .int l3), (4, .int l4)]) hx hb dL_errors_257 hl (by decide) rfl (fun ls hl => ?_)
  refine lv_iconst (v := 0) hx hb dL_errors_259 (by decide) ?_
  refine lv_istore (lv' := [(6, .int (0 : Int32)), (5, .int s0), (0, .ref (gB Γ + 0)), (1, .long l1), (3, .int l3), (4, .int l4)]) hx hb dL_errors_260 hl (by decide) rfl (fun ls hl => ?_)
  exact bk_L_errors_262 C0 hst  (T := (N - 0) - 310) (by omega) gFuel5 _ _ _ _ _ _ _ _ _ _ _ h hP hS (lv_sub hl [2, 3, 4, 5, 1, 0] rfl) (by unfold gFuel5; omega) (by unfold gFuel5; omega)
set_option maxHeartbeats 2000000 in
set_option maxRecDepth 20000 in
theorem bs_L_errors_256 {p : Program} {l : Launch} {e : Env} {s : State} {m : MethodId} {args : Array Value} {below : List Frame} {meth : Method} {c : Code} {Γ : gE} (C0 : gCx p s m args meth c Γ RL cL_errors 8 (some .boolean)) (hst : l.stackTraces = false)   {z : Int32 × gG}  {l1 : Int64} {l3 : Int32} {l4 : Int32} {g : gG} {H : Heap} {locs : List Loc} {ls : Array Slot} {cells slots N : Nat} (hr1 : cells + N ≤ 807) (hr2 : slots + 6 * N ≤ 4842) (hn_ret : 550 ≤ N)  (h : fs_L_errors_256 l1 l3 l4 g = some z) (hP : va_P (gD Γ) gcls (lay Γ g) H) (hS : va_S (gA Γ) s.heap H locs) (hl : lv_has ls 8 [(0, .ref (gB Γ + 0)), (1, .long l1), (3, .int l3), (4, .int l4)]) : W p l e (gRx 10 190 807 4842) s m args below meth c H locs cells slots (MQ below (gQi Γ z) args s 807 4842 (gA Γ)) (F0 m 256 ls []) := by
  unfold fs_L_errors_256 at h
  obtain ⟨hx, hb, hml, hr, hown, hts, hK, hlk, hX⟩ := id C0
  refine lv_iconst (v := 0) hx hb dL_errors_256 (by decide) ?_
  exact bs_L_errors_257 C0 hst  (N := (N - 0)) (by omega) (by omega) (by omega) h hP hS (lv_sub hl [0, 1, 2, 3] rfl)
set_option maxHeartbeats 2000000 in
set_option maxRecDepth 20000 in
theorem bs_L_errors_252 {p : Program} {l : Launch} {e : Env} {s : State} {m : MethodId} {args : Array Value} {below : List Frame} {meth : Method} {c : Code} {Γ : gE} (C0 : gCx p s m args meth c Γ RL cL_errors 8 (some .boolean)) (hst : l.stackTraces = false)   {z : Int32 × gG}  {l1 : Int64} {l3 : Int32} {l4 : Int32} {g : gG} {H : Heap} {locs : List Loc} {ls : Array Slot} {cells slots N : Nat} (hr1 : cells + N ≤ 807) (hr2 : slots + 6 * N ≤ 4842) (hn_ret : 550 ≤ N)  (h : fs_L_errors_252 l1 l3 l4 g = some z) (hP : va_P (gD Γ) gcls (lay Γ g) H) (hS : va_S (gA Γ) s.heap H locs) (hl : lv_has ls 8 [(0, .ref (gB Γ + 0)), (1, .long l1), (3, .int l3), (4, .int l4)]) : W p l e (gRx 10 190 807 4842) s m args below meth c H locs cells slots (MQ below (gQi Γ z) args s 807 4842 (gA Γ)) (F0 m 252 ls []) := by
  unfold fs_L_errors_252 at h
  obtain ⟨hx, hb, hml, hr, hown, hts, hK, hlk, hX⟩ := id C0
  refine lv_iconst (v := 1) hx hb dL_errors_252 (by decide) ?_
  refine lv_goto (tgt := 257) hx hb dL_errors_253 (by decide) ?_
  exact bs_L_errors_257 C0 hst  (N := (N - 0)) (by omega) (by omega) (by omega) h hP hS (lv_sub hl [0, 1, 2, 3] rfl)
set_option maxHeartbeats 2000000 in
set_option maxRecDepth 20000 in
theorem m_L_errors (l : Launch) (hst : l.stackTraces = false) (Γ : gE)    (g : gG) (z : Int32 × gG) (h : f_L_errors g = some z) : gCi l yL_errors cL_errors 8 (some .boolean) 10 190 807 4842 Γ [.ref (gB Γ + 0)] g z := by
  unfold f_L_errors at h
  refine gStartC (own := RL) (by decide +kernel) rfl (Nat.le_of_ble_eq_true rfl) ?_
  intro p e s m below meth c C0 ls hl hP
  have hS : va_S (gA Γ) s.heap s.heap [] := va_S.rf
  have hl : lv_has ls 8 [(0, .ref (gB Γ + 0))] := hl
  obtain ⟨hx, hb, hml, hr, hown, hts, hK, hlk, hX⟩ := id C0
  refine lv_aload_n hx hb dL_errors_0 rfl (lv_at hl 0 rfl) ?_
  refine gCKl (rest := []) C0 cal_L_now wl_L_120 wt_L_now ⟨Nat.le_of_ble_eq_true rfl, Nat.le_of_ble_eq_true rfl⟩ ⟨gRcl (by omega), gRsl (by omega)⟩ [.ref (gB Γ + 0)] rfl (Nat.le_of_ble_eq_true rfl) hP hS hl.1 dL_errors_1 h (fun u hu => m_L_now l hst Γ g u hu) (fun u1 H locs h hP hS => ?_) rfl
  refine lv_topl (fun x2 ex2 => ?_)
  replace h := gLetI ex2 h
  refine lv_lstore_n (lv' := [(1, .long x2), (0, .ref (gB Γ + 0))]) hx hb dL_errors_4 rfl hl (by decide) rfl (fun ls hl => ?_)
  refine lv_aload_n hx hb dL_errors_5 rfl (lv_at hl 1 rfl) ?_
  refine lv_iconst (v := 0) hx hb dL_errors_6 (by decide) ?_
  refine gCHl (n2 := 2) (rest := []) C0 wcw_L_about wn_L (by decide +kernel) wl_L_106 wt_L_about ⟨Nat.le_of_ble_eq_true rfl, Nat.le_of_ble_eq_true rfl⟩ ⟨gRcl (by omega), gRsl (by omega)⟩ [.ref (gB Γ + 0), .int (0 : Int32)] rfl (Nat.le_of_ble_eq_true rfl) hP hS hl.1 dL_errors_7 h (fun u hu => m_L_about l hst Γ (0 : Int32) u1.2 u hu) (fun u3 H locs h hP hS => ?_) rfl
  refine lv_l2i hx hb dL_errors_10 rfl ?_
  refine lv_topi (fun x4 ex4 => ?_)
  replace h := gLetI ex4 h
  refine lv_istore_n (lv' := [(3, .int x4), (1, .long x2), (0, .ref (gB Γ + 0))]) hx hb dL_errors_11 rfl hl (by decide) rfl (fun ls hl => ?_)
  refine lv_aload_n hx hb dL_errors_12 rfl (lv_at hl 2 rfl) ?_
  refine lv_iconst (v := 1) hx hb dL_errors_13 (by decide) ?_
  refine gCHl (n2 := 2) (rest := []) C0 wcw_L_about wn_L (by decide +kernel) wl_L_106 wt_L_about ⟨Nat.le_of_ble_eq_true rfl, Nat.le_of_ble_eq_true rfl⟩ ⟨gRcl (by omega), gRsl (by omega)⟩ [.ref (gB Γ + 0), .int (1 : Int32)] rfl (Nat.le_of_ble_eq_true rfl) hP hS hl.1 dL_errors_14 h (fun u hu => m_L_about l hst Γ (1 : Int32) u3.2 u hu) (fun u5 H locs h hP hS => ?_) rfl
  refine lv_l2i hx hb dL_errors_17 rfl ?_
  refine lv_topi (fun x6 ex6 => ?_)
  replace h := gLetI ex6 h
  refine lv_istore (lv' := [(4, .int x6), (3, .int x4), (1, .long x2), (0, .ref (gB Γ + 0))]) hx hb dL_errors_18 hl (by decide) rfl (fun ls hl => ?_)
  refine lv_aload_n hx hb dL_errors_20 rfl (lv_at hl 3 rfl) ?_
  refine lv_iconst (v := -1) hx hb dL_errors_21 (by decide) ?_
  refine gCHl (n2 := 2) (rest := []) C0 wcw_L_about wn_L (by decide +kernel) wl_L_106 wt_L_about ⟨Nat.le_of_ble_eq_true rfl, Nat.le_of_ble_eq_true rfl⟩ ⟨gRcl (by omega), gRsl (by omega)⟩ [.ref (gB Γ + 0), .int (-1 : Int32)] rfl (Nat.le_of_ble_eq_true rfl) hP hS hl.1 dL_errors_22 h (fun u hu => m_L_about l hst Γ (-1 : Int32) u5.2 u hu) (fun u7 H locs h hP hS => ?_) rfl
  refine lv_ldc2 (v := -9000000000000000002) hx hb hown (hts _ wkl_L_17) dL_errors_25 ?_
  refine W.lcmp hx hb dL_errors_28 ?_
  refine lv_if_ne (tgt := 256) hx hb dL_errors_29 (by decide) (fun c8 => ?_) (fun c8 => ?_)
  · replace h := gneg c8 h
    exact bs_L_errors_256 C0 hst  (N := (807 - 229)) (by omega) (by omega) (by omega) h hP hS (lv_sub hl [3, 2, 1, 0] rfl)
  · replace h := gpos c8 h
    refine lv_aload_n hx hb dL_errors_32 rfl (lv_at hl 3 rfl) ?_
    refine lv_bipush (v := 6) hx hb dL_errors_33 (by decide) ?_
    refine gCHl (n2 := 2) (rest := []) C0 wcw_L_about wn_L (by decide +kernel) wl_L_106 wt_L_about ⟨Nat.le_of_ble_eq_true rfl, Nat.le_of_ble_eq_true rfl⟩ ⟨gRcl (by omega), gRsl (by omega)⟩ [.ref (gB Γ + 0), .int (6 : Int32)] rfl (Nat.le_of_ble_eq_true rfl) hP hS hl.1 dL_errors_35 h (fun u hu => m_L_about l hst Γ (6 : Int32) u7.2 u hu) (fun u9 H locs h hP hS => ?_) rfl
    refine lv_ldc2 (v := -9000000000000000002) hx hb hown (hts _ wkl_L_17) dL_errors_38 ?_
    refine W.lcmp hx hb dL_errors_41 ?_
    refine lv_if_ne (tgt := 256) hx hb dL_errors_42 (by decide) (fun c10 => ?_) (fun c10 => ?_)
    · replace h := gneg c10 h
      exact bs_L_errors_256 C0 hst  (N := (807 - 230)) (by omega) (by omega) (by omega) h hP hS (lv_sub hl [3, 2, 1, 0] rfl)
    · replace h := gpos c10 h
      refine lv_aload_n hx hb dL_errors_45 rfl (lv_at hl 3 rfl) ?_
      refine lv_iload_n hx hb dL_errors_46 rfl (lv_at hl 1 rfl) ?_
      refine lv_bipush (v := 9) hx hb dL_errors_47 (by decide) ?_
      refine gCHl (n2 := 3) (rest := []) C0 wcw_L_place wn_L (by decide +kernel) wl_L_111 wt_L_place ⟨Nat.le_of_ble_eq_true rfl, Nat.le_of_ble_eq_true rfl⟩ ⟨gRcl (by omega), gRsl (by omega)⟩ [.ref (gB Γ + 0), .int x4, .int (9 : Int32)] rfl (Nat.le_of_ble_eq_true rfl) hP hS hl.1 dL_errors_49 h (fun u hu => m_L_place l hst Γ x4 (9 : Int32) u9.2 u hu) (fun u11 H locs h hP hS => ?_) rfl
      refine lv_ldc2 (v := -9000000000000000001) hx hb hown (hts _ wkl_L_36) dL_errors_52 ?_
      refine W.lcmp hx hb dL_errors_55 ?_
      refine lv_if_ne (tgt := 256) hx hb dL_errors_56 (by decide) (fun c12 => ?_) (fun c12 => ?_)
      · replace h := gneg c12 h
        exact bs_L_errors_256 C0 hst  (N := (807 - 232)) (by omega) (by omega) (by omega) h hP hS (lv_sub hl [3, 2, 1, 0] rfl)
      · replace h := gpos c12 h
        refine lv_aload_n hx hb dL_errors_59 rfl (lv_at hl 3 rfl) ?_
        refine lv_iconst (v := 0) hx hb dL_errors_60 (by decide) ?_
        refine lv_iconst (v := 4) hx hb dL_errors_61 (by decide) ?_
        refine gCHl (n2 := 3) (rest := []) C0 wcw_L_place wn_L (by decide +kernel) wl_L_111 wt_L_place ⟨Nat.le_of_ble_eq_true rfl, Nat.le_of_ble_eq_true rfl⟩ ⟨gRcl (by omega), gRsl (by omega)⟩ [.ref (gB Γ + 0), .int (0 : Int32), .int (4 : Int32)] rfl (Nat.le_of_ble_eq_true rfl) hP hS hl.1 dL_errors_62 h (fun u hu => m_L_place l hst Γ (0 : Int32) (4 : Int32) u11.2 u hu) (fun u13 H locs h hP hS => ?_) rfl
        refine lv_ldc2 (v := -9000000000000000002) hx hb hown (hts _ wkl_L_17) dL_errors_65 ?_
        refine W.lcmp hx hb dL_errors_68 ?_
        refine lv_if_ne (tgt := 256) hx hb dL_errors_69 (by decide) (fun c14 => ?_) (fun c14 => ?_)
        · replace h := gneg c14 h
          exact bs_L_errors_256 C0 hst  (N := (807 - 234)) (by omega) (by omega) (by omega) h hP hS (lv_sub hl [3, 2, 1, 0] rfl)
        · replace h := gpos c14 h
          refine lv_aload_n hx hb dL_errors_72 rfl (lv_at hl 3 rfl) ?_
          refine lv_iload_n hx hb dL_errors_73 rfl (lv_at hl 1 rfl) ?_
          refine lv_iconst (v := -1) hx hb dL_errors_74 (by decide) ?_
          refine gCHl (n2 := 3) (rest := []) C0 wcw_L_holds wn_L (by decide +kernel) wl_L_124 wt_L_holds ⟨Nat.le_of_ble_eq_true rfl, Nat.le_of_ble_eq_true rfl⟩ ⟨gRcl (by omega), gRsl (by omega)⟩ [.ref (gB Γ + 0), .int x4, .int (-1 : Int32)] rfl (Nat.le_of_ble_eq_true rfl) hP hS hl.1 dL_errors_75 h (fun u hu => m_L_holds l hst Γ x4 (-1 : Int32) u13.2 u hu) (fun u15 H locs h hP hS => ?_) rfl
          refine lv_ldc2 (v := -9000000000000000001) hx hb hown (hts _ wkl_L_36) dL_errors_78 ?_
          refine W.lcmp hx hb dL_errors_81 ?_
          refine lv_if_ne (tgt := 256) hx hb dL_errors_82 (by decide) (fun c16 => ?_) (fun c16 => ?_)
          · replace h := gneg c16 h
            exact bs_L_errors_256 C0 hst  (N := (807 - 236)) (by omega) (by omega) (by omega) h hP hS (lv_sub hl [3, 2, 1, 0] rfl)
          · replace h := gpos c16 h
            refine lv_aload_n hx hb dL_errors_85 rfl (lv_at hl 3 rfl) ?_
            refine lv_iconst (v := 0) hx hb dL_errors_86 (by decide) ?_
            refine lv_iconst (v := -1) hx hb dL_errors_87 (by decide) ?_
            refine gCHl (n2 := 3) (rest := []) C0 wcw_L_holds wn_L (by decide +kernel) wl_L_124 wt_L_holds ⟨Nat.le_of_ble_eq_true rfl, Nat.le_of_ble_eq_true rfl⟩ ⟨gRcl (by omega), gRsl (by omega)⟩ [.ref (gB Γ + 0), .int (0 : Int32), .int (-1 : Int32)] rfl (Nat.le_of_ble_eq_true rfl) hP hS hl.1 dL_errors_88 h (fun u hu => m_L_holds l hst Γ (0 : Int32) (-1 : Int32) u15.2 u hu) (fun u17 H locs h hP hS => ?_) rfl
            refine lv_ldc2 (v := -9000000000000000002) hx hb hown (hts _ wkl_L_17) dL_errors_91 ?_
            refine W.lcmp hx hb dL_errors_94 ?_
            refine lv_if_ne (tgt := 256) hx hb dL_errors_95 (by decide) (fun c18 => ?_) (fun c18 => ?_)
            · replace h := gneg c18 h
              exact bs_L_errors_256 C0 hst  (N := (807 - 238)) (by omega) (by omega) (by omega) h hP hS (lv_sub hl [3, 2, 1, 0] rfl)
            · replace h := gpos c18 h
              refine lv_aload_n hx hb dL_errors_98 rfl (lv_at hl 3 rfl) ?_
              refine lv_iconst (v := 0) hx hb dL_errors_99 (by decide) ?_
              refine lv_iconst (v := 1) hx hb dL_errors_100 (by decide) ?_
              refine lv_iload_n hx hb dL_errors_101 rfl (lv_at hl 1 rfl) ?_
              refine lv_ishl hx hb dL_errors_102 ?_
              refine gCHl (n2 := 3) (rest := []) C0 wcw_L_holds wn_L (by decide +kernel) wl_L_124 wt_L_holds ⟨Nat.le_of_ble_eq_true rfl, Nat.le_of_ble_eq_true rfl⟩ ⟨gRcl (by omega), gRsl (by omega)⟩ [.ref (gB Γ + 0), .int (0 : Int32), .int ((1 : Int32) <<< (x4 &&& 31))] rfl (Nat.le_of_ble_eq_true rfl) hP hS hl.1 dL_errors_103 h (fun u hu => m_L_holds l hst Γ (0 : Int32) ((1 : Int32) <<< (x4 &&& 31)) u17.2 u hu) (fun u19 H locs h hP hS => ?_) rfl
              refine lv_ldc2 (v := -9000000000000000002) hx hb hown (hts _ wkl_L_17) dL_errors_106 ?_
              refine W.lcmp hx hb dL_errors_109 ?_
              refine lv_if_ne (tgt := 256) hx hb dL_errors_110 (by decide) (fun c20 => ?_) (fun c20 => ?_)
              · replace h := gneg c20 h
                exact bs_L_errors_256 C0 hst  (N := (807 - 240)) (by omega) (by omega) (by omega) h hP hS (lv_sub hl [3, 2, 1, 0] rfl)
              · replace h := gpos c20 h
                refine lv_aload_n hx hb dL_errors_113 rfl (lv_at hl 3 rfl) ?_
                refine lv_iload hx hb dL_errors_114 (lv_at hl 0 rfl) ?_
                refine lv_bipush (v := 9) hx hb dL_errors_116 (by decide) ?_
                refine gCHl (n2 := 3) (rest := []) C0 wcw_L_team wn_L (by decide +kernel) wl_L_114 wt_L_team ⟨Nat.le_of_ble_eq_true rfl, Nat.le_of_ble_eq_true rfl⟩ ⟨gRcl (by omega), gRsl (by omega)⟩ [.ref (gB Γ + 0), .int x6, .int (9 : Int32)] rfl (Nat.le_of_ble_eq_true rfl) hP hS hl.1 dL_errors_118 h (fun u hu => m_L_team l hst Γ x6 (9 : Int32) u19.2 u hu) (fun u21 H locs h hP hS => ?_) rfl
                refine lv_ldc2 (v := -9000000000000000001) hx hb hown (hts _ wkl_L_36) dL_errors_121 ?_
                refine W.lcmp hx hb dL_errors_124 ?_
                refine lv_if_ne (tgt := 256) hx hb dL_errors_125 (by decide) (fun c22 => ?_) (fun c22 => ?_)
                · replace h := gneg c22 h
                  exact bs_L_errors_256 C0 hst  (N := (807 - 242)) (by omega) (by omega) (by omega) h hP hS (lv_sub hl [3, 2, 1, 0] rfl)
                · replace h := gpos c22 h
                  refine lv_aload_n hx hb dL_errors_128 rfl (lv_at hl 3 rfl) ?_
                  refine lv_iload hx hb dL_errors_129 (lv_at hl 0 rfl) ?_
                  refine lv_iconst (v := -1) hx hb dL_errors_131 (by decide) ?_
                  refine gCHl (n2 := 3) (rest := []) C0 wcw_L_trail wn_L (by decide +kernel) wl_L_126 wt_L_trail ⟨Nat.le_of_ble_eq_true rfl, Nat.le_of_ble_eq_true rfl⟩ ⟨gRcl (by omega), gRsl (by omega)⟩ [.ref (gB Γ + 0), .int x6, .int (-1 : Int32)] rfl (Nat.le_of_ble_eq_true rfl) hP hS hl.1 dL_errors_132 h (fun u hu => m_L_trail l hst Γ x6 (-1 : Int32) u21.2 u hu) (fun u23 H locs h hP hS => ?_) rfl
                  refine lv_ldc2 (v := -9000000000000000001) hx hb hown (hts _ wkl_L_36) dL_errors_135 ?_
                  refine W.lcmp hx hb dL_errors_138 ?_
                  refine lv_if_ne (tgt := 256) hx hb dL_errors_139 (by decide) (fun c24 => ?_) (fun c24 => ?_)
                  · replace h := gneg c24 h
                    exact bs_L_errors_256 C0 hst  (N := (807 - 244)) (by omega) (by omega) (by omega) h hP hS (lv_sub hl [3, 2, 1, 0] rfl)
                  · replace h := gpos c24 h
                    refine lv_aload_n hx hb dL_errors_142 rfl (lv_at hl 3 rfl) ?_
                    refine lv_iconst (v := -1) hx hb dL_errors_143 (by decide) ?_
                    refine gCHl (n2 := 2) (rest := []) C0 wcw_L_open wn_L (by decide +kernel) wl_L_116 wt_L_open ⟨Nat.le_of_ble_eq_true rfl, Nat.le_of_ble_eq_true rfl⟩ ⟨gRcl (by omega), gRsl (by omega)⟩ [.ref (gB Γ + 0), .int (-1 : Int32)] rfl (Nat.le_of_ble_eq_true rfl) hP hS hl.1 dL_errors_144 h (fun u hu => m_L_open l hst Γ (-1 : Int32) u23.2 u hu) (fun u25 H locs h hP hS => ?_) rfl
                    refine lv_ldc2 (v := -9000000000000000001) hx hb hown (hts _ wkl_L_36) dL_errors_147 ?_
                    refine W.lcmp hx hb dL_errors_150 ?_
                    refine lv_if_ne (tgt := 256) hx hb dL_errors_151 (by decide) (fun c26 => ?_) (fun c26 => ?_)
                    · replace h := gneg c26 h
                      exact bs_L_errors_256 C0 hst  (N := (807 - 245)) (by omega) (by omega) (by omega) h hP hS (lv_sub hl [3, 2, 1, 0] rfl)
                    · replace h := gpos c26 h
                      refine lv_aload_n hx hb dL_errors_154 rfl (lv_at hl 3 rfl) ?_
                      refine lv_iload hx hb dL_errors_155 (lv_at hl 0 rfl) ?_
                      refine lv_iconst (v := 0) hx hb dL_errors_157 (by decide) ?_
                      refine gCHl (n2 := 3) (rest := []) C0 wcw_L_go wn_L (by decide +kernel) wl_L_128 wt_L_go ⟨Nat.le_of_ble_eq_true rfl, Nat.le_of_ble_eq_true rfl⟩ ⟨gRcl (by omega), gRsl (by omega)⟩ [.ref (gB Γ + 0), .int x6, .int (0 : Int32)] rfl (Nat.le_of_ble_eq_true rfl) hP hS hl.1 dL_errors_158 h (fun u hu => m_L_go l hst Γ x6 (0 : Int32) u25.2 u hu) (fun u27 H locs h hP hS => ?_) rfl
                      refine lv_ldc2 (v := -9000000000000000001) hx hb hown (hts _ wkl_L_36) dL_errors_161 ?_
                      refine W.lcmp hx hb dL_errors_164 ?_
                      refine lv_if_ne (tgt := 256) hx hb dL_errors_165 (by decide) (fun c28 => ?_) (fun c28 => ?_)
                      · replace h := gneg c28 h
                        exact bs_L_errors_256 C0 hst  (N := (807 - 248)) (by omega) (by omega) (by omega) h hP hS (lv_sub hl [3, 2, 1, 0] rfl)
                      · replace h := gpos c28 h
                        refine lv_aload_n hx hb dL_errors_168 rfl (lv_at hl 3 rfl) ?_
                        refine lv_iload hx hb dL_errors_169 (lv_at hl 0 rfl) ?_
                        refine gCHl (n2 := 2) (rest := []) C0 wcw_L_hint wn_L (by decide +kernel) wl_L_130 wt_L_hint ⟨Nat.le_of_ble_eq_true rfl, Nat.le_of_ble_eq_true rfl⟩ ⟨gRcl (by omega), gRsl (by omega)⟩ [.ref (gB Γ + 0), .int x6] rfl (Nat.le_of_ble_eq_true rfl) hP hS hl.1 dL_errors_171 h (fun u hu => m_L_hint l hst Γ x6 u27.2 u hu) (fun u29 H locs h hP hS => ?_) rfl
                        refine lv_ldc2 (v := -9000000000000000001) hx hb hown (hts _ wkl_L_36) dL_errors_174 ?_
                        refine W.lcmp hx hb dL_errors_177 ?_
                        refine lv_if_ne (tgt := 256) hx hb dL_errors_178 (by decide) (fun c30 => ?_) (fun c30 => ?_)
                        · replace h := gneg c30 h
                          exact bs_L_errors_256 C0 hst  (N := (807 - 250)) (by omega) (by omega) (by omega) h hP hS (lv_sub hl [3, 2, 1, 0] rfl)
                        · replace h := gpos c30 h
                          refine lv_aload_n hx hb dL_errors_181 rfl (lv_at hl 3 rfl) ?_
                          refine lv_iconst (v := -1) hx hb dL_errors_182 (by decide) ?_
                          refine gCHl (n2 := 2) (rest := []) C0 wcw_L_giveUp wn_L (by decide +kernel) wl_L_132 wt_L_giveUp ⟨Nat.le_of_ble_eq_true rfl, Nat.le_of_ble_eq_true rfl⟩ ⟨gRcl (by omega), gRsl (by omega)⟩ [.ref (gB Γ + 0), .int (-1 : Int32)] rfl (Nat.le_of_ble_eq_true rfl) hP hS hl.1 dL_errors_183 h (fun u hu => m_L_giveUp l hst Γ (-1 : Int32) u29.2 u hu) (fun u31 H locs h hP hS => ?_) rfl
                          refine lv_ldc2 (v := -9000000000000000001) hx hb hown (hts _ wkl_L_36) dL_errors_186 ?_
                          refine W.lcmp hx hb dL_errors_189 ?_
                          refine lv_if_ne (tgt := 256) hx hb dL_errors_190 (by decide) (fun c32 => ?_) (fun c32 => ?_)
                          · replace h := gneg c32 h
                            exact bs_L_errors_256 C0 hst  (N := (807 - 251)) (by omega) (by omega) (by omega) h hP hS (lv_sub hl [3, 2, 1, 0] rfl)
                          · replace h := gpos c32 h
                            refine lv_aload_n hx hb dL_errors_193 rfl (lv_at hl 3 rfl) ?_
                            refine lv_iload_n hx hb dL_errors_194 rfl (lv_at hl 1 rfl) ?_
                            refine lv_bipush (v := 10) hx hb dL_errors_195 (by decide) ?_
                            refine lv_iconst (v := 0) hx hb dL_errors_197 (by decide) ?_
                            refine gCHl (n2 := 4) (rest := []) C0 wcw_L_move wn_L (by decide +kernel) wl_L_134 wt_L_move ⟨Nat.le_of_ble_eq_true rfl, Nat.le_of_ble_eq_true rfl⟩ ⟨gRcl (by omega), gRsl (by omega)⟩ [.ref (gB Γ + 0), .int x4, .int (10 : Int32), .int (0 : Int32)] rfl (Nat.le_of_ble_eq_true rfl) hP hS hl.1 dL_errors_198 h (fun u hu => m_L_move l hst Γ x4 (10 : Int32) (0 : Int32) u31.2 u hu) (fun u33 H locs h hP hS => ?_) rfl
                            refine lv_ldc2 (v := -9000000000000000001) hx hb hown (hts _ wkl_L_36) dL_errors_201 ?_
                            refine W.lcmp hx hb dL_errors_204 ?_
                            refine lv_if_ne (tgt := 256) hx hb dL_errors_205 (by decide) (fun c34 => ?_) (fun c34 => ?_)
                            · replace h := gneg c34 h
                              exact bs_L_errors_256 C0 hst  (N := (807 - 253)) (by omega) (by omega) (by omega) h hP hS (lv_sub hl [3, 2, 1, 0] rfl)
                            · replace h := gpos c34 h
                              refine lv_aload_n hx hb dL_errors_208 rfl (lv_at hl 3 rfl) ?_
                              refine lv_iconst (v := 0) hx hb dL_errors_209 (by decide) ?_
                              refine lv_iconst (v := 0) hx hb dL_errors_210 (by decide) ?_
                              refine lv_bipush (v := 10) hx hb dL_errors_211 (by decide) ?_
                              refine gCHl (n2 := 4) (rest := []) C0 wcw_L_move wn_L (by decide +kernel) wl_L_134 wt_L_move ⟨Nat.le_of_ble_eq_true rfl, Nat.le_of_ble_eq_true rfl⟩ ⟨gRcl (by omega), gRsl (by omega)⟩ [.ref (gB Γ + 0), .int (0 : Int32), .int (0 : Int32), .int (10 : Int32)] rfl (Nat.le_of_ble_eq_true rfl) hP hS hl.1 dL_errors_213 h (fun u hu => m_L_move l hst Γ (0 : Int32) (0 : Int32) (10 : Int32) u33.2 u hu) (fun u35 H locs h hP hS => ?_) rfl
                              refine lv_ldc2 (v := -9000000000000000002) hx hb hown (hts _ wkl_L_17) dL_errors_216 ?_
                              refine W.lcmp hx hb dL_errors_219 ?_
                              refine lv_if_ne (tgt := 256) hx hb dL_errors_220 (by decide) (fun c36 => ?_) (fun c36 => ?_)
                              · replace h := gneg c36 h
                                exact bs_L_errors_256 C0 hst  (N := (807 - 255)) (by omega) (by omega) (by omega) h hP hS (lv_sub hl [3, 2, 1, 0] rfl)
                              · replace h := gpos c36 h
                                refine lv_aload_n hx hb dL_errors_223 rfl (lv_at hl 3 rfl) ?_
                                refine lv_iload_n hx hb dL_errors_224 rfl (lv_at hl 1 rfl) ?_
                                refine gCHl (n2 := 2) (rest := []) C0 wcw_L_ease wn_L (by decide +kernel) wl_L_137 wt_L_ease ⟨Nat.le_of_ble_eq_true rfl, Nat.le_of_ble_eq_true rfl⟩ ⟨gRcl (by omega), gRsl (by omega)⟩ [.ref (gB Γ + 0), .int x4] rfl (Nat.le_of_ble_eq_true rfl) hP hS hl.1 dL_errors_225 h (fun u hu => m_L_ease l hst Γ x4 u35.2 u hu) (fun u37 H locs h hP hS => ?_) rfl
                                refine lv_ldc2 (v := -9000000000000000001) hx hb hown (hts _ wkl_L_36) dL_errors_228 ?_
                                refine W.lcmp hx hb dL_errors_231 ?_
                                refine lv_if_ne (tgt := 256) hx hb dL_errors_232 (by decide) (fun c38 => ?_) (fun c38 => ?_)
                                · replace h := gneg c38 h
                                  exact bs_L_errors_256 C0 hst  (N := (807 - 256)) (by omega) (by omega) (by omega) h hP hS (lv_sub hl [3, 2, 1, 0] rfl)
                                · replace h := gpos c38 h
                                  refine lv_iload hx hb dL_errors_235 (lv_at hl 0 rfl) ?_
                                  refine lv_iconst (v := 4) hx hb dL_errors_237 (by decide) ?_
                                  refine lv_icmp_lt (tgt := 252) hx hb dL_errors_238 (by decide) (fun c39 => ?_) (fun c39 => ?_)
                                  · replace h := gpos c39 h
                                    exact bs_L_errors_252 C0 hst  (N := (807 - 256)) (by omega) (by omega) (by omega) h hP hS (lv_sub hl [3, 2, 1, 0] rfl)
                                  · replace h := gneg c39 h
                                    refine lv_aload_n hx hb dL_errors_241 rfl (lv_at hl 3 rfl) ?_
                                    refine gCHl (n2 := 1) (rest := []) C0 wcw_L_addTeam wn_L (by decide +kernel) wl_L_139 wt_L_addTeam ⟨Nat.le_of_ble_eq_true rfl, Nat.le_of_ble_eq_true rfl⟩ ⟨gRcl (by omega), gRsl (by omega)⟩ [.ref (gB Γ + 0)] rfl (Nat.le_of_ble_eq_true rfl) hP hS hl.1 dL_errors_242 h (fun u hu => m_L_addTeam l hst Γ u37.2 u hu) (fun u40 H locs h hP hS => ?_) rfl
                                    refine lv_ldc2 (v := -9000000000000000003) hx hb hown (hts _ wkl_L_21) dL_errors_245 ?_
                                    refine W.lcmp hx hb dL_errors_248 ?_
                                    refine lv_if_ne (tgt := 256) hx hb dL_errors_249 (by decide) (fun c41 => ?_) (fun c41 => ?_)
                                    · replace h := gneg c41 h
                                      exact bs_L_errors_256 C0 hst  (N := (807 - 257)) (by omega) (by omega) (by omega) h hP hS (lv_sub hl [3, 2, 1, 0] rfl)
                                    · replace h := gpos c41 h
                                      exact bs_L_errors_252 C0 hst  (N := (807 - 257)) (by omega) (by omega) (by omega) h hP hS (lv_sub hl [3, 2, 1, 0] rfl)
