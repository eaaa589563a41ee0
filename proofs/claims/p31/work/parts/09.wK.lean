set_option maxHeartbeats 2000000 in
set_option maxRecDepth 20000 in
theorem m_L_says (l : Launch) (hst : l.stackTraces = false) (Γ : gE)   (a1 : Int32) (g : gG) (z : Int32 × gG) (h : f_L_says a1 g = some z) : gCi l yL_says cL_says 2 (some .boolean) 8 125 1 6 Γ [.ref (gB Γ + 0), .int a1] g z := by
  unfold f_L_says at h
  refine gStartC (own := RL) (by decide +kernel) rfl (Nat.le_of_ble_eq_true rfl) ?_
  intro p e s m below meth c C0 ls hl hP
  have hS : va_S (gA Γ) s.heap s.heap [] := va_S.rf
  have hl : lv_has ls 2 [(0, .ref (gB Γ + 0)), (1, .int a1)] := hl
  obtain ⟨hx, hb, hml, hr, hown, hts, hK, hlk, hX⟩ := id C0
  refine lv_aload_n hx hb dL_says_0 rfl (lv_at hl 0 rfl) ?_
  refine lv_iload_n hx hb dL_says_1 rfl (lv_at hl 1 rfl) ?_
  refine gCHl (n2 := 2) (rest := []) C0 wcw_L_append wn_L (by decide +kernel) wl_L_166 wt_L_append ⟨Nat.le_of_ble_eq_true rfl, Nat.le_of_ble_eq_true rfl⟩ ⟨gRcl (by omega), gRsl (by omega)⟩ [.ref (gB Γ + 0), .int a1] rfl (Nat.le_of_ble_eq_true rfl) hP hS hl.1 dL_says_2 h (fun u hu => m_L_append l hst Γ a1 g u hu) (fun u1 H locs h hP hS => ?_) rfl
  refine lv_lconst (v := 0) hx hb dL_says_5 (by decide) ?_
  refine W.lcmp hx hb dL_says_6 ?_
  refine lv_if_le (tgt := 14) hx hb dL_says_7 (by decide) (fun c2 => ?_) (fun c2 => ?_)
  · replace h := gpos c2 h
    refine lv_iconst (v := 0) hx hb dL_says_14 (by decide) ?_
    refine W.widen (k := 1) (n := 6) (by omega) (by omega) ?_
    exact gzret0 hx hb hr hlk hP hS rfl dL_says_15 h
  · replace h := gneg c2 h
    refine lv_iconst (v := 1) hx hb dL_says_10 (by decide) ?_
    refine lv_goto (tgt := 15) hx hb dL_says_11 (by decide) ?_
    refine W.widen (k := 1) (n := 6) (by omega) (by omega) ?_
    exact gzret0 hx hb hr hlk hP hS rfl dL_says_15 h
set_option maxHeartbeats 2000000 in
set_option maxRecDepth 20000 in
theorem bs_L_tells_463 {p : Program} {l : Launch} {e : Env} {s : State} {m : MethodId} {args : Array Value} {below : List Frame} {meth : Method} {c : Code} {Γ : gE} (C0 : gCx p s m args meth c Γ RL cL_tells 10 (some .boolean)) (hst : l.stackTraces = false)   {z : Int32 × gG}  {l4 : Int32} {g : gG} {H : Heap} {locs : List Loc} {ls : Array Slot} {cells slots N : Nat} (hr1 : cells + N ≤ 109) (hr2 : slots + 6 * N ≤ 654) (hn_ret : 0 ≤ N)  (h : fs_L_tells_463 l4 g = some z) (hP : va_P (gD Γ) gcls (lay Γ g) H) (hS : va_S (gA Γ) s.heap H locs) (hl : lv_has ls 10 [(0, .ref (gB Γ + 0)), (4, .int l4)]) : W p l e (gRx 9 149 109 654) s m args below meth c H locs cells slots (MQ below (gQi Γ z) args s 109 654 (gA Γ)) (F0 m 463 ls []) := by
  unfold fs_L_tells_463 at h
  obtain ⟨hx, hb, hml, hr, hown, hts, hK, hlk, hX⟩ := id C0
  refine lv_iload hx hb dL_tells_463 (lv_at hl 1 rfl) ?_
  refine lv_if_eq (tgt := 481) hx hb dL_tells_465 (by decide) (fun c1 => ?_) (fun c1 => ?_)
  · replace h := gpos c1 h
    refine lv_iconst (v := 0) hx hb dL_tells_481 (by decide) ?_
    refine W.widen (k := 109) (n := 654) (by omega) (by omega) ?_
    exact gzret0 hx hb hr hlk hP hS rfl dL_tells_482 h
  · replace h := gneg c1 h
    refine lv_aload_n hx hb dL_tells_468 rfl (lv_at hl 0 rfl) ?_
    refine gCVi (rest := []) C0 cal_X9_errorPosition wl_L_200 wi_X9_errorPosition ws_X9_errorPosition ⟨Nat.le_of_ble_eq_true rfl, Nat.le_of_ble_eq_true rfl⟩ ⟨gRcl (by omega), gRsl (by omega)⟩ grv_9 [] rfl (Nat.le_of_ble_eq_true rfl) hP hS hl.1 dL_tells_469 h (fun u hu => m_X9_errorPosition l Γ g u hu) (fun u2 H locs h hP hS => ?_) rfl
    refine lv_bipush (v := -9) hx hb dL_tells_472 (by decide) ?_
    refine lv_icmp_ne (tgt := 481) hx hb dL_tells_474 (by decide) (fun c3 => ?_) (fun c3 => ?_)
    · replace h := gneg c3 h
      refine lv_iconst (v := 0) hx hb dL_tells_481 (by decide) ?_
      refine W.widen (k := 109) (n := 654) (by omega) (by omega) ?_
      exact gzret0 hx hb hr hlk hP hS rfl dL_tells_482 h
    · replace h := gpos c3 h
      refine lv_iconst (v := 1) hx hb dL_tells_477 (by decide) ?_
      refine lv_goto (tgt := 482) hx hb dL_tells_478 (by decide) ?_
      refine W.widen (k := 109) (n := 654) (by omega) (by omega) ?_
      exact gzret0 hx hb hr hlk hP hS rfl dL_tells_482 h
set_option maxHeartbeats 2000000 in
set_option maxRecDepth 20000 in
theorem bs_L_tells_455 {p : Program} {l : Launch} {e : Env} {s : State} {m : MethodId} {args : Array Value} {below : List Frame} {meth : Method} {c : Code} {Γ : gE} (C0 : gCx p s m args meth c Γ RL cL_tells 10 (some .boolean)) (hst : l.stackTraces = false)   {z : Int32 × gG} {F33 : Int32 → Int32 → Int32 → Int32 → gG → Option (Int32 × gG)} {l1 : Int32} {l3 : Int32} {l5 : Int32} {s0 : Int32} {g : gG} {H : Heap} {locs : List Loc} {ls : Array Slot} {N33 : Nat} (hF33 : ∀ (cells slots : Nat) (l1 : Int32) (l3 : Int32) (l4 : Int32) (l5 : Int32) (g : gG) (H : Heap) (locs : List Loc) (ls : Array Slot), F33 l1 l3 l4 l5 g = some z → va_P (gD Γ) gcls (lay Γ g) H → va_S (gA Γ) s.heap H locs → lv_has ls 10 [(0, .ref (gB Γ + 0)), (1, .int l1), (3, .int l3), (4, .int l4), (5, .int l5)] → cells + N33 ≤ 109 → slots + 6 * N33 ≤ 654 → W p l e (gRx 9 149 109 654) s m args below meth c H locs cells slots (MQ below (gQi Γ z) args s 109 654 (gA Γ)) (F0 m 33 ls [])) {cells slots N : Nat} (hr1 : cells + N ≤ 109) (hr2 : slots + 6 * N ≤ 654) (hn_33 : 0 + N33 ≤ N) (h : fs_L_tells_455 F33 l1 l3 l5 s0 g = some z) (hP : va_P (gD Γ) gcls (lay Γ g) H) (hS : va_S (gA Γ) s.heap H locs) (hl : lv_has ls 10 [(0, .ref (gB Γ + 0)), (1, .int l1), (3, .int l3), (5, .int l5)]) : W p l e (gRx 9 149 109 654) s m args below meth c H locs cells slots (MQ below (gQi Γ z) args s 109 654 (gA Γ)) (F0 m 455 ls [.int s0]) := by
  unfold fs_L_tells_455 at h
  obtain ⟨hx, hb, hml, hr, hown, hts, hK, hlk, hX⟩ := id C0
  refine lv_istore (lv' := [(4, .int s0), (0, .ref (gB Γ + 0)), (1, .int l1), (3, .int l3), (5, .int l5)]) hx hb dL_tells_455 hl (by decide) rfl (fun ls hl => ?_)
  obtain ⟨x1, ex1⟩ : ∃ y : Int32, y = l5 + (1 : Int32) := ⟨_, rfl⟩
  replace h := gLetI ex1 h
  refine lv_iinc (v := x1) (lv' := [(5, .int x1), (4, .int s0), (0, .ref (gB Γ + 0)), (1, .int l1), (3, .int l3)]) hx hb dL_tells_457 hl (k := 4) rfl (by rw [ex1]; rfl) (by decide) rfl (fun ls hl => ?_)
  refine lv_goto (tgt := 33) hx hb dL_tells_460 (by decide) ?_
  exact hF33 _ _ _ _ _ _ _ _ _ _ h hP hS (lv_sub hl [2, 3, 4, 1, 0] rfl) (by omega) (by omega)
set_option maxHeartbeats 2000000 in
set_option maxRecDepth 20000 in
theorem bs_L_tells_454 {p : Program} {l : Launch} {e : Env} {s : State} {m : MethodId} {args : Array Value} {below : List Frame} {meth : Method} {c : Code} {Γ : gE} (C0 : gCx p s m args meth c Γ RL cL_tells 10 (some .boolean)) (hst : l.stackTraces = false)   {z : Int32 × gG} {F33 : Int32 → Int32 → Int32 → Int32 → gG → Option (Int32 × gG)} {l1 : Int32} {l3 : Int32} {l5 : Int32} {g : gG} {H : Heap} {locs : List Loc} {ls : Array Slot} {N33 : Nat} (hF33 : ∀ (cells slots : Nat) (l1 : Int32) (l3 : Int32) (l4 : Int32) (l5 : Int32) (g : gG) (H : Heap) (locs : List Loc) (ls : Array Slot), F33 l1 l3 l4 l5 g = some z → va_P (gD Γ) gcls (lay Γ g) H → va_S (gA Γ) s.heap H locs → lv_has ls 10 [(0, .ref (gB Γ + 0)), (1, .int l1), (3, .int l3), (4, .int l4), (5, .int l5)] → cells + N33 ≤ 109 → slots + 6 * N33 ≤ 654 → W p l e (gRx 9 149 109 654) s m args below meth c H locs cells slots (MQ below (gQi Γ z) args s 109 654 (gA Γ)) (F0 m 33 ls [])) {cells slots N : Nat} (hr1 : cells + N ≤ 109) (hr2 : slots + 6 * N ≤ 654) (hn_33 : 0 + N33 ≤ N) (h : fs_L_tells_454 F33 l1 l3 l5 g = some z) (hP : va_P (gD Γ) gcls (lay Γ g) H) (hS : va_S (gA Γ) s.heap H locs) (hl : lv_has ls 10 [(0, .ref (gB Γ + 0)), (1, .int l1), (3, .int l3), (5, .int l5)]) : W p l e (gRx 9 149 109 654) s m args below meth c H locs cells slots (MQ below (gQi Γ z) args s 109 654 (gA Γ)) (F0 m 454 ls []) := by
  unfold fs_L_tells_454 at h
  obtain ⟨hx, hb, hml, hr, hown, hts, hK, hlk, hX⟩ := id C0
  refine lv_iconst (v := 0) hx hb dL_tells_454 (by decide) ?_
  exact bs_L_tells_455 C0 hst hF33 (N := (N - 0)) (by omega) (by omega) (by omega) h hP hS (lv_sub hl [0, 1, 2, 3] rfl)
set_option maxHeartbeats 2000000 in
set_option maxRecDepth 20000 in
theorem bs_L_tells_450 {p : Program} {l : Launch} {e : Env} {s : State} {m : MethodId} {args : Array Value} {below : List Frame} {meth : Method} {c : Code} {Γ : gE} (C0 : gCx p s m args meth c Γ RL cL_tells 10 (some .boolean)) (hst : l.stackTraces = false)   {z : Int32 × gG} {F33 : Int32 → Int32 → Int32 → Int32 → gG → Option (Int32 × gG)} {l1 : Int32} {l3 : Int32} {l5 : Int32} {g : gG} {H : Heap} {locs : List Loc} {ls : Array Slot} {N33 : Nat} (hF33 : ∀ (cells slots : Nat) (l1 : Int32) (l3 : Int32) (l4 : Int32) (l5 : Int32) (g : gG) (H : Heap) (locs : List Loc) (ls : Array Slot), F33 l1 l3 l4 l5 g = some z → va_P (gD Γ) gcls (lay Γ g) H → va_S (gA Γ) s.heap H locs → lv_has ls 10 [(0, .ref (gB Γ + 0)), (1, .int l1), (3, .int l3), (4, .int l4), (5, .int l5)] → cells + N33 ≤ 109 → slots + 6 * N33 ≤ 654 → W p l e (gRx 9 149 109 654) s m args below meth c H locs cells slots (MQ below (gQi Γ z) args s 109 654 (gA Γ)) (F0 m 33 ls [])) {cells slots N : Nat} (hr1 : cells + N ≤ 109) (hr2 : slots + 6 * N ≤ 654) (hn_33 : 0 + N33 ≤ N) (h : fs_L_tells_450 F33 l1 l3 l5 g = some z) (hP : va_P (gD Γ) gcls (lay Γ g) H) (hS : va_S (gA Γ) s.heap H locs) (hl : lv_has ls 10 [(0, .ref (gB Γ + 0)), (1, .int l1), (3, .int l3), (5, .int l5)]) : W p l e (gRx 9 149 109 654) s m args below meth c H locs cells slots (MQ below (gQi Γ z) args s 109 654 (gA Γ)) (F0 m 450 ls []) := by
  unfold fs_L_tells_450 at h
  obtain ⟨hx, hb, hml, hr, hown, hts, hK, hlk, hX⟩ := id C0
  refine lv_iconst (v := 1) hx hb dL_tells_450 (by decide) ?_
  refine lv_goto (tgt := 455) hx hb dL_tells_451 (by decide) ?_
  exact bs_L_tells_455 C0 hst hF33 (N := (N - 0)) (by omega) (by omega) (by omega) h hP hS (lv_sub hl [0, 1, 2, 3] rfl)
set_option maxHeartbeats 2000000 in
set_option maxRecDepth 20000 in
theorem bs_L_tells_166 {p : Program} {l : Launch} {e : Env} {s : State} {m : MethodId} {args : Array Value} {below : List Frame} {meth : Method} {c : Code} {Γ : gE} (C0 : gCx p s m args meth c Γ RL cL_tells 10 (some .boolean)) (hst : l.stackTraces = false)   {z : Int32 × gG} {F33 : Int32 → Int32 → Int32 → Int32 → gG → Option (Int32 × gG)} {l1 : Int32} {l3 : Int32} {l4 : Int32} {l5 : Int32} {l6 : Int32} {l7 : Int32} {l8 : Int32} {s0 : Int32} {g : gG} {H : Heap} {locs : List Loc} {ls : Array Slot} {N33 : Nat} (hF33 : ∀ (cells slots : Nat) (l1 : Int32) (l3 : Int32) (l4 : Int32) (l5 : Int32) (g : gG) (H : Heap) (locs : List Loc) (ls : Array Slot), F33 l1 l3 l4 l5 g = some z → va_P (gD Γ) gcls (lay Γ g) H → va_S (gA Γ) s.heap H locs → lv_has ls 10 [(0, .ref (gB Γ + 0)), (1, .int l1), (3, .int l3), (4, .int l4), (5, .int l5)] → cells + N33 ≤ 109 → slots + 6 * N33 ≤ 654 → W p l e (gRx 9 149 109 654) s m args below meth c H locs cells slots (MQ below (gQi Γ z) args s 109 654 (gA Γ)) (F0 m 33 ls [])) {cells slots N : Nat} (hr1 : cells + N ≤ 109) (hr2 : slots + 6 * N ≤ 654) (hn_33 : 6 + N33 ≤ N) (h : fs_L_tells_166 F33 l1 l3 l4 l5 l6 l7 l8 s0 g = some z) (hP : va_P (gD Γ) gcls (lay Γ g) H) (hS : va_S (gA Γ) s.heap H locs) (hl : lv_has ls 10 [(0, .ref (gB Γ + 0)), (1, .int l1), (3, .int l3), (4, .int l4), (5, .int l5), (6, .int l6), (7, .int l7), (8, .int l8)]) : W p l e (gRx 9 149 109 654) s m args below meth c H locs cells slots (MQ below (gQi Γ z) args s 109 654 (gA Γ)) (F0 m 166 ls [.int s0]) := by
  unfold fs_L_tells_166 at h
  obtain ⟨hx, hb, hml, hr, hown, hts, hK, hlk, hX⟩ := id C0
  refine lv_istore (lv' := [(9, .int s0), (0, .ref (gB Γ + 0)), (1, .int l1), (3, .int l3), (4, .int l4), (5, .int l5), (6, .int l6), (7, .int l7), (8, .int l8)]) hx hb dL_tells_166 hl (by decide) rfl (fun ls hl => ?_)
  refine lv_iload hx hb dL_tells_168 (lv_at hl 4 rfl) ?_
  refine lv_if_eq (tgt := 454) hx hb dL_tells_170 (by decide) (fun c1 => ?_) (fun c1 => ?_)
  · replace h := gpos c1 h
    exact bs_L_tells_454 C0 hst hF33 (N := (N - 0)) (by omega) (by omega) (by omega) h hP hS (lv_sub hl [1, 2, 3, 5] rfl)
  · replace h := gneg c1 h
    refine lv_iload hx hb dL_tells_173 (lv_at hl 0 rfl) ?_
    refine lv_if_ne (tgt := 190) hx hb dL_tells_175 (by decide) (fun c2 => ?_) (fun c2 => ?_)
    · replace h := gneg c2 h
      refine lv_iload hx hb dL_tells_190 (lv_at hl 0 rfl) ?_
      refine lv_iconst (v := 1) hx hb dL_tells_192 (by decide) ?_
      refine lv_icmp_ne (tgt := 208) hx hb dL_tells_193 (by decide) (fun c3 => ?_) (fun c3 => ?_)
      · replace h := gneg c3 h
        refine lv_iload hx hb dL_tells_208 (lv_at hl 0 rfl) ?_
        refine lv_iconst (v := 2) hx hb dL_tells_210 (by decide) ?_
        refine lv_icmp_ne (tgt := 235) hx hb dL_tells_211 (by decide) (fun c4 => ?_) (fun c4 => ?_)
        · replace h := gneg c4 h
          refine lv_iload hx hb dL_tells_235 (lv_at hl 0 rfl) ?_
          refine lv_iconst (v := 3) hx hb dL_tells_237 (by decide) ?_
          refine lv_icmp_ne (tgt := 271) hx hb dL_tells_238 (by decide) (fun c5 => ?_) (fun c5 => ?_)
          · replace h := gneg c5 h
            refine lv_iload hx hb dL_tells_271 (lv_at hl 0 rfl) ?_
            refine lv_iconst (v := 4) hx hb dL_tells_273 (by decide) ?_
            refine lv_icmp_ne (tgt := 325) hx hb dL_tells_274 (by decide) (fun c6 => ?_) (fun c6 => ?_)
            · replace h := gneg c6 h
              refine lv_iload hx hb dL_tells_325 (lv_at hl 0 rfl) ?_
              refine lv_iconst (v := 5) hx hb dL_tells_327 (by decide) ?_
              refine lv_icmp_ne (tgt := 396) hx hb dL_tells_328 (by decide) (fun c7 => ?_) (fun c7 => ?_)
              · replace h := gneg c7 h
                refine lv_aload_n hx hb dL_tells_396 rfl (lv_at hl 1 rfl) ?_
                refine lv_bipush (v := 33) hx hb dL_tells_397 (by decide) ?_
                refine gCKi (rest := []) C0 cal_L_says wl_L_208 wt_L_says ⟨Nat.le_of_ble_eq_true rfl, Nat.le_of_ble_eq_true rfl⟩ ⟨gRcl (by omega), gRsl (by omega)⟩ [.ref (gB Γ + 0), .int (33 : Int32)] rfl (Nat.le_of_ble_eq_true rfl) hP hS hl.1 dL_tells_399 h (fun u hu => m_L_says l hst Γ (33 : Int32) g u hu) (fun u8 H locs h hP hS => ?_) rfl
                refine lv_if_eq (tgt := 454) hx hb dL_tells_402 (by decide) (fun c9 => ?_) (fun c9 => ?_)
                · replace h := gpos c9 h
                  exact bs_L_tells_454 C0 hst hF33 (N := (N - 1)) (by omega) (by omega) (by omega) h hP hS (lv_sub hl [1, 2, 3, 5] rfl)
                · replace h := gneg c9 h
                  refine lv_aload_n hx hb dL_tells_405 rfl (lv_at hl 1 rfl) ?_
                  refine lv_bipush (v := 40) hx hb dL_tells_406 (by decide) ?_
                  refine gCKi (rest := []) C0 cal_L_says wl_L_208 wt_L_says ⟨Nat.le_of_ble_eq_true rfl, Nat.le_of_ble_eq_true rfl⟩ ⟨gRcl (by omega), gRsl (by omega)⟩ [.ref (gB Γ + 0), .int (40 : Int32)] rfl (Nat.le_of_ble_eq_true rfl) hP hS hl.1 dL_tells_408 h (fun u hu => m_L_says l hst Γ (40 : Int32) u8.2 u hu) (fun u10 H locs h hP hS => ?_) rfl
                  refine lv_if_eq (tgt := 454) hx hb dL_tells_411 (by decide) (fun c11 => ?_) (fun c11 => ?_)
                  · replace h := gpos c11 h
                    exact bs_L_tells_454 C0 hst hF33 (N := (N - 2)) (by omega) (by omega) (by omega) h hP hS (lv_sub hl [1, 2, 3, 5] rfl)
                  · replace h := gneg c11 h
                    refine lv_aload_n hx hb dL_tells_414 rfl (lv_at hl 1 rfl) ?_
                    refine lv_iload hx hb dL_tells_415 (lv_at hl 7 rfl) ?_
                    refine gCKi (rest := []) C0 cal_L_says wl_L_208 wt_L_says ⟨Nat.le_of_ble_eq_true rfl, Nat.le_of_ble_eq_true rfl⟩ ⟨gRcl (by omega), gRsl (by omega)⟩ [.ref (gB Γ + 0), .int l7] rfl (Nat.le_of_ble_eq_true rfl) hP hS hl.1 dL_tells_417 h (fun u hu => m_L_says l hst Γ l7 u10.2 u hu) (fun u12 H locs h hP hS => ?_) rfl
                    refine lv_if_eq (tgt := 454) hx hb dL_tells_420 (by decide) (fun c13 => ?_) (fun c13 => ?_)
                    · replace h := gpos c13 h
                      exact bs_L_tells_454 C0 hst hF33 (N := (N - 3)) (by omega) (by omega) (by omega) h hP hS (lv_sub hl [1, 2, 3, 5] rfl)
                    · replace h := gneg c13 h
                      refine lv_aload_n hx hb dL_tells_423 rfl (lv_at hl 1 rfl) ?_
                      refine lv_bipush (v := 46) hx hb dL_tells_424 (by decide) ?_
                      refine gCKi (rest := []) C0 cal_L_says wl_L_208 wt_L_says ⟨Nat.le_of_ble_eq_true rfl, Nat.le_of_ble_eq_true rfl⟩ ⟨gRcl (by omega), gRsl (by omega)⟩ [.ref (gB Γ + 0), .int (46 : Int32)] rfl (Nat.le_of_ble_eq_true rfl) hP hS hl.1 dL_tells_426 h (fun u hu => m_L_says l hst Γ (46 : Int32) u12.2 u hu) (fun u14 H locs h hP hS => ?_) rfl
                      refine lv_if_eq (tgt := 454) hx hb dL_tells_429 (by decide) (fun c15 => ?_) (fun c15 => ?_)
                      · replace h := gpos c15 h
                        exact bs_L_tells_454 C0 hst hF33 (N := (N - 4)) (by omega) (by omega) (by omega) h hP hS (lv_sub hl [1, 2, 3, 5] rfl)
                      · replace h := gneg c15 h
                        refine lv_aload_n hx hb dL_tells_432 rfl (lv_at hl 1 rfl) ?_
                        refine lv_iload hx hb dL_tells_433 (lv_at hl 8 rfl) ?_
                        refine gCKi (rest := []) C0 cal_L_says wl_L_208 wt_L_says ⟨Nat.le_of_ble_eq_true rfl, Nat.le_of_ble_eq_true rfl⟩ ⟨gRcl (by omega), gRsl (by omega)⟩ [.ref (gB Γ + 0), .int l8] rfl (Nat.le_of_ble_eq_true rfl) hP hS hl.1 dL_tells_435 h (fun u hu => m_L_says l hst Γ l8 u14.2 u hu) (fun u16 H locs h hP hS => ?_) rfl
                        refine lv_if_eq (tgt := 454) hx hb dL_tells_438 (by decide) (fun c17 => ?_) (fun c17 => ?_)
                        · replace h := gpos c17 h
                          exact bs_L_tells_454 C0 hst hF33 (N := (N - 5)) (by omega) (by omega) (by omega) h hP hS (lv_sub hl [1, 2, 3, 5] rfl)
                        · replace h := gneg c17 h
                          refine lv_aload_n hx hb dL_tells_441 rfl (lv_at hl 1 rfl) ?_
                          refine lv_bipush (v := 41) hx hb dL_tells_442 (by decide) ?_
                          refine gCKi (rest := []) C0 cal_L_says wl_L_208 wt_L_says ⟨Nat.le_of_ble_eq_true rfl, Nat.le_of_ble_eq_true rfl⟩ ⟨gRcl (by omega), gRsl (by omega)⟩ [.ref (gB Γ + 0), .int (41 : Int32)] rfl (Nat.le_of_ble_eq_true rfl) hP hS hl.1 dL_tells_444 h (fun u hu => m_L_says l hst Γ (41 : Int32) u16.2 u hu) (fun u18 H locs h hP hS => ?_) rfl
                          refine lv_if_eq (tgt := 454) hx hb dL_tells_447 (by decide) (fun c19 => ?_) (fun c19 => ?_)
                          · replace h := gpos c19 h
                            exact bs_L_tells_454 C0 hst hF33 (N := (N - 6)) (by omega) (by omega) (by omega) h hP hS (lv_sub hl [1, 2, 3, 5] rfl)
                          · replace h := gneg c19 h
                            exact bs_L_tells_450 C0 hst hF33 (N := (N - 6)) (by omega) (by omega) (by omega) h hP hS (lv_sub hl [1, 2, 3, 5] rfl)
              · replace h := gpos c7 h
                refine lv_aload_n hx hb dL_tells_331 rfl (lv_at hl 1 rfl) ?_
                refine lv_bipush (v := 49) hx hb dL_tells_332 (by decide) ?_
                refine lv_iload hx hb dL_tells_334 (lv_at hl 6 rfl) ?_
                refine lv_bipush (v := 7) hx hb dL_tells_336 (by decide) ?_
                refine lv_idiv hx hb dL_tells_338 (by decide) ?_
                refine lv_iconst (v := 2) hx hb dL_tells_339 (by decide) ?_
                refine lv_irem hx hb dL_tells_340 (by decide) ?_
                refine lv_iadd hx hb dL_tells_341 ?_
                refine gCKi (rest := []) C0 cal_L_says wl_L_208 wt_L_says ⟨Nat.le_of_ble_eq_true rfl, Nat.le_of_ble_eq_true rfl⟩ ⟨gRcl (by omega), gRsl (by omega)⟩ [.ref (gB Γ + 0), .int ((49 : Int32) + ((l6 / (7 : Int32)) - (l6 / (7 : Int32)) / (2 : Int32) * (2 : Int32)))] rfl (Nat.le_of_ble_eq_true rfl) hP hS hl.1 dL_tells_342 h (fun u hu => m_L_says l hst Γ ((49 : Int32) + ((l6 / (7 : Int32)) - (l6 / (7 : Int32)) / (2 : Int32) * (2 : Int32))) g u hu) (fun u20 H locs h hP hS => ?_) rfl
                refine lv_if_eq (tgt := 454) hx hb dL_tells_345 (by decide) (fun c21 => ?_) (fun c21 => ?_)
                · replace h := gpos c21 h
                  exact bs_L_tells_454 C0 hst hF33 (N := (N - 1)) (by omega) (by omega) (by omega) h hP hS (lv_sub hl [1, 2, 3, 5] rfl)
                · replace h := gneg c21 h
                  refine lv_aload_n hx hb dL_tells_348 rfl (lv_at hl 1 rfl) ?_
                  refine lv_bipush (v := 91) hx hb dL_tells_349 (by decide) ?_
                  refine gCKi (rest := []) C0 cal_L_says wl_L_208 wt_L_says ⟨Nat.le_of_ble_eq_true rfl, Nat.le_of_ble_eq_true rfl⟩ ⟨gRcl (by omega), gRsl (by omega)⟩ [.ref (gB Γ + 0), .int (91 : Int32)] rfl (Nat.le_of_ble_eq_true rfl) hP hS hl.1 dL_tells_351 h (fun u hu => m_L_says l hst Γ (91 : Int32) u20.2 u hu) (fun u22 H locs h hP hS => ?_) rfl
                  refine lv_if_eq (tgt := 454) hx hb dL_tells_354 (by decide) (fun c23 => ?_) (fun c23 => ?_)
                  · replace h := gpos c23 h
                    exact bs_L_tells_454 C0 hst hF33 (N := (N - 2)) (by omega) (by omega) (by omega) h hP hS (lv_sub hl [1, 2, 3, 5] rfl)
                  · replace h := gneg c23 h
                    refine lv_aload_n hx hb dL_tells_357 rfl (lv_at hl 1 rfl) ?_
                    refine lv_iload hx hb dL_tells_358 (lv_at hl 7 rfl) ?_
                    refine gCKi (rest := []) C0 cal_L_says wl_L_208 wt_L_says ⟨Nat.le_of_ble_eq_true rfl, Nat.le_of_ble_eq_true rfl⟩ ⟨gRcl (by omega), gRsl (by omega)⟩ [.ref (gB Γ + 0), .int l7] rfl (Nat.le_of_ble_eq_true rfl) hP hS hl.1 dL_tells_360 h (fun u hu => m_L_says l hst Γ l7 u22.2 u hu) (fun u24 H locs h hP hS => ?_) rfl
                    refine lv_if_eq (tgt := 454) hx hb dL_tells_363 (by decide) (fun c25 => ?_) (fun c25 => ?_)
                    · replace h := gpos c25 h
                      exact bs_L_tells_454 C0 hst hF33 (N := (N - 3)) (by omega) (by omega) (by omega) h hP hS (lv_sub hl [1, 2, 3, 5] rfl)
                    · replace h := gneg c25 h
                      refine lv_aload_n hx hb dL_tells_366 rfl (lv_at hl 1 rfl) ?_
                      refine lv_bipush (v := 44) hx hb dL_tells_367 (by decide) ?_
                      refine gCKi (rest := []) C0 cal_L_says wl_L_208 wt_L_says ⟨Nat.le_of_ble_eq_true rfl, Nat.le_of_ble_eq_true rfl⟩ ⟨gRcl (by omega), gRsl (by omega)⟩ [.ref (gB Γ + 0), .int (44 : Int32)] rfl (Nat.le_of_ble_eq_true rfl) hP hS hl.1 dL_tells_369 h (fun u hu => m_L_says l hst Γ (44 : Int32) u24.2 u hu) (fun u26 H locs h hP hS => ?_) rfl
                      refine lv_if_eq (tgt := 454) hx hb dL_tells_372 (by decide) (fun c27 => ?_) (fun c27 => ?_)
                      · replace h := gpos c27 h
                        exact bs_L_tells_454 C0 hst hF33 (N := (N - 4)) (by omega) (by omega) (by omega) h hP hS (lv_sub hl [1, 2, 3, 5] rfl)
                      · replace h := gneg c27 h
                        refine lv_aload_n hx hb dL_tells_375 rfl (lv_at hl 1 rfl) ?_
                        refine lv_iload hx hb dL_tells_376 (lv_at hl 8 rfl) ?_
                        refine gCKi (rest := []) C0 cal_L_says wl_L_208 wt_L_says ⟨Nat.le_of_ble_eq_true rfl, Nat.le_of_ble_eq_true rfl⟩ ⟨gRcl (by omega), gRsl (by omega)⟩ [.ref (gB Γ + 0), .int l8] rfl (Nat.le_of_ble_eq_true rfl) hP hS hl.1 dL_tells_378 h (fun u hu => m_L_says l hst Γ l8 u26.2 u hu) (fun u28 H locs h hP hS => ?_) rfl
                        refine lv_if_eq (tgt := 454) hx hb dL_tells_381 (by decide) (fun c29 => ?_) (fun c29 => ?_)
                        · replace h := gpos c29 h
                          exact bs_L_tells_454 C0 hst hF33 (N := (N - 5)) (by omega) (by omega) (by omega) h hP hS (lv_sub hl [1, 2, 3, 5] rfl)
                        · replace h := gneg c29 h
                          refine lv_aload_n hx hb dL_tells_384 rfl (lv_at hl 1 rfl) ?_
                          refine lv_bipush (v := 93) hx hb dL_tells_385 (by decide) ?_
                          refine gCKi (rest := []) C0 cal_L_says wl_L_208 wt_L_says ⟨Nat.le_of_ble_eq_true rfl, Nat.le_of_ble_eq_true rfl⟩ ⟨gRcl (by omega), gRsl (by omega)⟩ [.ref (gB Γ + 0), .int (93 : Int32)] rfl (Nat.le_of_ble_eq_true rfl) hP hS hl.1 dL_tells_387 h (fun u hu => m_L_says l hst Γ (93 : Int32) u28.2 u hu) (fun u30 H locs h hP hS => ?_) rfl
                          refine lv_if_eq (tgt := 454) hx hb dL_tells_390 (by decide) (fun c31 => ?_) (fun c31 => ?_)
                          · replace h := gpos c31 h
                            exact bs_L_tells_454 C0 hst hF33 (N := (N - 6)) (by omega) (by omega) (by omega) h hP hS (lv_sub hl [1, 2, 3, 5] rfl)
                          · replace h := gneg c31 h
                            refine lv_goto (tgt := 450) hx hb dL_tells_393 (by decide) ?_
                            exact bs_L_tells_450 C0 hst hF33 (N := (N - 6)) (by omega) (by omega) (by omega) h hP hS (lv_sub hl [1, 2, 3, 5] rfl)
            · replace h := gpos c6 h
              refine lv_aload_n hx hb dL_tells_277 rfl (lv_at hl 1 rfl) ?_
              refine lv_iload hx hb dL_tells_278 (lv_at hl 7 rfl) ?_
              refine gCKi (rest := []) C0 cal_L_says wl_L_208 wt_L_says ⟨Nat.le_of_ble_eq_true rfl, Nat.le_of_ble_eq_true rfl⟩ ⟨gRcl (by omega), gRsl (by omega)⟩ [.ref (gB Γ + 0), .int l7] rfl (Nat.le_of_ble_eq_true rfl) hP hS hl.1 dL_tells_280 h (fun u hu => m_L_says l hst Γ l7 g u hu) (fun u32 H locs h hP hS => ?_) rfl
              refine lv_if_eq (tgt := 454) hx hb dL_tells_283 (by decide) (fun c33 => ?_) (fun c33 => ?_)
              · replace h := gpos c33 h
                exact bs_L_tells_454 C0 hst hF33 (N := (N - 1)) (by omega) (by omega) (by omega) h hP hS (lv_sub hl [1, 2, 3, 5] rfl)
              · replace h := gneg c33 h
                refine lv_aload_n hx hb dL_tells_286 rfl (lv_at hl 1 rfl) ?_
                refine lv_bipush (v := 43) hx hb dL_tells_287 (by decide) ?_
                refine gCKi (rest := []) C0 cal_L_says wl_L_208 wt_L_says ⟨Nat.le_of_ble_eq_true rfl, Nat.le_of_ble_eq_true rfl⟩ ⟨gRcl (by omega), gRsl (by omega)⟩ [.ref (gB Γ + 0), .int (43 : Int32)] rfl (Nat.le_of_ble_eq_true rfl) hP hS hl.1 dL_tells_289 h (fun u hu => m_L_says l hst Γ (43 : Int32) u32.2 u hu) (fun u34 H locs h hP hS => ?_) rfl
                refine lv_if_eq (tgt := 454) hx hb dL_tells_292 (by decide) (fun c35 => ?_) (fun c35 => ?_)
                · replace h := gpos c35 h
                  exact bs_L_tells_454 C0 hst hF33 (N := (N - 2)) (by omega) (by omega) (by omega) h hP hS (lv_sub hl [1, 2, 3, 5] rfl)
                · replace h := gneg c35 h
                  refine lv_aload_n hx hb dL_tells_295 rfl (lv_at hl 1 rfl) ?_
                  refine lv_bipush (v := 33) hx hb dL_tells_296 (by decide) ?_
                  refine gCKi (rest := []) C0 cal_L_says wl_L_208 wt_L_says ⟨Nat.le_of_ble_eq_true rfl, Nat.le_of_ble_eq_true rfl⟩ ⟨gRcl (by omega), gRsl (by omega)⟩ [.ref (gB Γ + 0), .int (33 : Int32)] rfl (Nat.le_of_ble_eq_true rfl) hP hS hl.1 dL_tells_298 h (fun u hu => m_L_says l hst Γ (33 : Int32) u34.2 u hu) (fun u36 H locs h hP hS => ?_) rfl
                  refine lv_if_eq (tgt := 454) hx hb dL_tells_301 (by decide) (fun c37 => ?_) (fun c37 => ?_)
                  · replace h := gpos c37 h
                    exact bs_L_tells_454 C0 hst hF33 (N := (N - 3)) (by omega) (by omega) (by omega) h hP hS (lv_sub hl [1, 2, 3, 5] rfl)
                  · replace h := gneg c37 h
                    refine lv_aload_n hx hb dL_tells_304 rfl (lv_at hl 1 rfl) ?_
                    refine lv_bipush (v := 33) hx hb dL_tells_305 (by decide) ?_
                    refine gCKi (rest := []) C0 cal_L_says wl_L_208 wt_L_says ⟨Nat.le_of_ble_eq_true rfl, Nat.le_of_ble_eq_true rfl⟩ ⟨gRcl (by omega), gRsl (by omega)⟩ [.ref (gB Γ + 0), .int (33 : Int32)] rfl (Nat.le_of_ble_eq_true rfl) hP hS hl.1 dL_tells_307 h (fun u hu => m_L_says l hst Γ (33 : Int32) u36.2 u hu) (fun u38 H locs h hP hS => ?_) rfl
                    refine lv_if_eq (tgt := 454) hx hb dL_tells_310 (by decide) (fun c39 => ?_) (fun c39 => ?_)
                    · replace h := gpos c39 h
                      exact bs_L_tells_454 C0 hst hF33 (N := (N - 4)) (by omega) (by omega) (by omega) h hP hS (lv_sub hl [1, 2, 3, 5] rfl)
                    · replace h := gneg c39 h
                      refine lv_aload_n hx hb dL_tells_313 rfl (lv_at hl 1 rfl) ?_
                      refine lv_iload hx hb dL_tells_314 (lv_at hl 8 rfl) ?_
                      refine gCKi (rest := []) C0 cal_L_says wl_L_208 wt_L_says ⟨Nat.le_of_ble_eq_true rfl, Nat.le_of_ble_eq_true rfl⟩ ⟨gRcl (by omega), gRsl (by omega)⟩ [.ref (gB Γ + 0), .int l8] rfl (Nat.le_of_ble_eq_true rfl) hP hS hl.1 dL_tells_316 h (fun u hu => m_L_says l hst Γ l8 u38.2 u hu) (fun u40 H locs h hP hS => ?_) rfl
                      refine lv_if_eq (tgt := 454) hx hb dL_tells_319 (by decide) (fun c41 => ?_) (fun c41 => ?_)
                      · replace h := gpos c41 h
                        exact bs_L_tells_454 C0 hst hF33 (N := (N - 5)) (by omega) (by omega) (by omega) h hP hS (lv_sub hl [1, 2, 3, 5] rfl)
                      · replace h := gneg c41 h
                        refine lv_goto (tgt := 450) hx hb dL_tells_322 (by decide) ?_
                        exact bs_L_tells_450 C0 hst hF33 (N := (N - 5)) (by omega) (by omega) (by omega) h hP hS (lv_sub hl [1, 2, 3, 5] rfl)
          · replace h := gpos c5 h
            refine lv_aload_n hx hb dL_tells_241 rfl (lv_at hl 1 rfl) ?_
            refine lv_iload hx hb dL_tells_242 (lv_at hl 7 rfl) ?_
            refine gCKi (rest := []) C0 cal_L_says wl_L_208 wt_L_says ⟨Nat.le_of_ble_eq_true rfl, Nat.le_of_ble_eq_true rfl⟩ ⟨gRcl (by omega), gRsl (by omega)⟩ [.ref (gB Γ + 0), .int l7] rfl (Nat.le_of_ble_eq_true rfl) hP hS hl.1 dL_tells_244 h (fun u hu => m_L_says l hst Γ l7 g u hu) (fun u42 H locs h hP hS => ?_) rfl
            refine lv_if_eq (tgt := 454) hx hb dL_tells_247 (by decide) (fun c43 => ?_) (fun c43 => ?_)
            · replace h := gpos c43 h
              exact bs_L_tells_454 C0 hst hF33 (N := (N - 1)) (by omega) (by omega) (by omega) h hP hS (lv_sub hl [1, 2, 3, 5] rfl)
            · replace h := gneg c43 h
              refine lv_aload_n hx hb dL_tells_250 rfl (lv_at hl 1 rfl) ?_
              refine lv_bipush (v := 46) hx hb dL_tells_251 (by decide) ?_
              refine gCKi (rest := []) C0 cal_L_says wl_L_208 wt_L_says ⟨Nat.le_of_ble_eq_true rfl, Nat.le_of_ble_eq_true rfl⟩ ⟨gRcl (by omega), gRsl (by omega)⟩ [.ref (gB Γ + 0), .int (46 : Int32)] rfl (Nat.le_of_ble_eq_true rfl) hP hS hl.1 dL_tells_253 h (fun u hu => m_L_says l hst Γ (46 : Int32) u42.2 u hu) (fun u44 H locs h hP hS => ?_) rfl
              refine lv_if_eq (tgt := 454) hx hb dL_tells_256 (by decide) (fun c45 => ?_) (fun c45 => ?_)
              · replace h := gpos c45 h
                exact bs_L_tells_454 C0 hst hF33 (N := (N - 2)) (by omega) (by omega) (by omega) h hP hS (lv_sub hl [1, 2, 3, 5] rfl)
              · replace h := gneg c45 h
                refine lv_aload_n hx hb dL_tells_259 rfl (lv_at hl 1 rfl) ?_
                refine lv_iload hx hb dL_tells_260 (lv_at hl 8 rfl) ?_
                refine gCKi (rest := []) C0 cal_L_says wl_L_208 wt_L_says ⟨Nat.le_of_ble_eq_true rfl, Nat.le_of_ble_eq_true rfl⟩ ⟨gRcl (by omega), gRsl (by omega)⟩ [.ref (gB Γ + 0), .int l8] rfl (Nat.le_of_ble_eq_true rfl) hP hS hl.1 dL_tells_262 h (fun u hu => m_L_says l hst Γ l8 u44.2 u hu) (fun u46 H locs h hP hS => ?_) rfl
                refine lv_if_eq (tgt := 454) hx hb dL_tells_265 (by decide) (fun c47 => ?_) (fun c47 => ?_)
                · replace h := gpos c47 h
                  exact bs_L_tells_454 C0 hst hF33 (N := (N - 3)) (by omega) (by omega) (by omega) h hP hS (lv_sub hl [1, 2, 3, 5] rfl)
                · replace h := gneg c47 h
                  refine lv_goto (tgt := 450) hx hb dL_tells_268 (by decide) ?_
                  exact bs_L_tells_450 C0 hst hF33 (N := (N - 3)) (by omega) (by omega) (by omega) h hP hS (lv_sub hl [1, 2, 3, 5] rfl)
        · replace h := gpos c4 h
          refine lv_aload_n hx hb dL_tells_214 rfl (lv_at hl 1 rfl) ?_
          refine lv_bipush (v := 33) hx hb dL_tells_215 (by decide) ?_
          refine gCKi (rest := []) C0 cal_L_says wl_L_208 wt_L_says ⟨Nat.le_of_ble_eq_true rfl, Nat.le_of_ble_eq_true rfl⟩ ⟨gRcl (by omega), gRsl (by omega)⟩ [.ref (gB Γ + 0), .int (33 : Int32)] rfl (Nat.le_of_ble_eq_true rfl) hP hS hl.1 dL_tells_217 h (fun u hu => m_L_says l hst Γ (33 : Int32) g u hu) (fun u48 H locs h hP hS => ?_) rfl
          refine lv_if_eq (tgt := 454) hx hb dL_tells_220 (by decide) (fun c49 => ?_) (fun c49 => ?_)
          · replace h := gpos c49 h
            exact bs_L_tells_454 C0 hst hF33 (N := (N - 1)) (by omega) (by omega) (by omega) h hP hS (lv_sub hl [1, 2, 3, 5] rfl)
          · replace h := gneg c49 h
            refine lv_aload_n hx hb dL_tells_223 rfl (lv_at hl 1 rfl) ?_
            refine lv_iload hx hb dL_tells_224 (lv_at hl 7 rfl) ?_
            refine gCKi (rest := []) C0 cal_L_says wl_L_208 wt_L_says ⟨Nat.le_of_ble_eq_true rfl, Nat.le_of_ble_eq_true rfl⟩ ⟨gRcl (by omega), gRsl (by omega)⟩ [.ref (gB Γ + 0), .int l7] rfl (Nat.le_of_ble_eq_true rfl) hP hS hl.1 dL_tells_226 h (fun u hu => m_L_says l hst Γ l7 u48.2 u hu) (fun u50 H locs h hP hS => ?_) rfl
            refine lv_if_eq (tgt := 454) hx hb dL_tells_229 (by decide) (fun c51 => ?_) (fun c51 => ?_)
            · replace h := gpos c51 h
              exact bs_L_tells_454 C0 hst hF33 (N := (N - 2)) (by omega) (by omega) (by omega) h hP hS (lv_sub hl [1, 2, 3, 5] rfl)
            · replace h := gneg c51 h
              refine lv_goto (tgt := 450) hx hb dL_tells_232 (by decide) ?_
              exact bs_L_tells_450 C0 hst hF33 (N := (N - 2)) (by omega) (by omega) (by omega) h hP hS (lv_sub hl [1, 2, 3, 5] rfl)
      · replace h := gpos c3 h
        refine lv_aload_n hx hb dL_tells_196 rfl (lv_at hl 1 rfl) ?_
        refine lv_iload hx hb dL_tells_197 (lv_at hl 7 rfl) ?_
        refine gCKi (rest := []) C0 cal_L_says wl_L_208 wt_L_says ⟨Nat.le_of_ble_eq_true rfl, Nat.le_of_ble_eq_true rfl⟩ ⟨gRcl (by omega), gRsl (by omega)⟩ [.ref (gB Γ + 0), .int l7] rfl (Nat.le_of_ble_eq_true rfl) hP hS hl.1 dL_tells_199 h (fun u hu => m_L_says l hst Γ l7 g u hu) (fun u52 H locs h hP hS => ?_) rfl
        refine lv_if_eq (tgt := 454) hx hb dL_tells_202 (by decide) (fun c53 => ?_) (fun c53 => ?_)
        · replace h := gpos c53 h
          exact bs_L_tells_454 C0 hst hF33 (N := (N - 1)) (by omega) (by omega) (by omega) h hP hS (lv_sub hl [1, 2, 3, 5] rfl)
        · replace h := gneg c53 h
          refine lv_goto (tgt := 450) hx hb dL_tells_205 (by decide) ?_
          exact bs_L_tells_450 C0 hst hF33 (N := (N - 1)) (by omega) (by omega) (by omega) h hP hS (lv_sub hl [1, 2, 3, 5] rfl)
    · replace h := gpos c2 h
      refine lv_aload_n hx hb dL_tells_178 rfl (lv_at hl 1 rfl) ?_
      refine lv_bipush (v := 42) hx hb dL_tells_179 (by decide) ?_
      refine gCKi (rest := []) C0 cal_L_says wl_L_208 wt_L_says ⟨Nat.le_of_ble_eq_true rfl, Nat.le_of_ble_eq_true rfl⟩ ⟨gRcl (by omega), gRsl (by omega)⟩ [.ref (gB Γ + 0), .int (42 : Int32)] rfl (Nat.le_of_ble_eq_true rfl) hP hS hl.1 dL_tells_181 h (fun u hu => m_L_says l hst Γ (42 : Int32) g u hu) (fun u54 H locs h hP hS => ?_) rfl
      refine lv_if_eq (tgt := 454) hx hb dL_tells_184 (by decide) (fun c55 => ?_) (fun c55 => ?_)
      · replace h := gpos c55 h
        exact bs_L_tells_454 C0 hst hF33 (N := (N - 1)) (by omega) (by omega) (by omega) h hP hS (lv_sub hl [1, 2, 3, 5] rfl)
      · replace h := gneg c55 h
        refine lv_goto (tgt := 450) hx hb dL_tells_187 (by decide) ?_
        exact bs_L_tells_450 C0 hst hF33 (N := (N - 1)) (by omega) (by omega) (by omega) h hP hS (lv_sub hl [1, 2, 3, 5] rfl)
set_option maxHeartbeats 2000000 in
set_option maxRecDepth 20000 in
theorem bs_L_tells_150 {p : Program} {l : Launch} {e : Env} {s : State} {m : MethodId} {args : Array Value} {below : List Frame} {meth : Method} {c : Code} {Γ : gE} (C0 : gCx p s m args meth c Γ RL cL_tells 10 (some .boolean)) (hst : l.stackTraces = false)   {z : Int32 × gG} {F33 : Int32 → Int32 → Int32 → Int32 → gG → Option (Int32 × gG)} {l1 : Int32} {l3 : Int32} {l5 : Int32} {l6 : Int32} {l7 : Int32} {l8 : Int32} {s0 : Int32} {g : gG} {H : Heap} {locs : List Loc} {ls : Array Slot} {N33 : Nat} (hF33 : ∀ (cells slots : Nat) (l1 : Int32) (l3 : Int32) (l4 : Int32) (l5 : Int32) (g : gG) (H : Heap) (locs : List Loc) (ls : Array Slot), F33 l1 l3 l4 l5 g = some z → va_P (gD Γ) gcls (lay Γ g) H → va_S (gA Γ) s.heap H locs → lv_has ls 10 [(0, .ref (gB Γ + 0)), (1, .int l1), (3, .int l3), (4, .int l4), (5, .int l5)] → cells + N33 ≤ 109 → slots + 6 * N33 ≤ 654 → W p l e (gRx 9 149 109 654) s m args below meth c H locs cells slots (MQ below (gQi Γ z) args s 109 654 (gA Γ)) (F0 m 33 ls [])) {cells slots N : Nat} (hr1 : cells + N ≤ 109) (hr2 : slots + 6 * N ≤ 654) (hn_33 : 6 + N33 ≤ N) (h : fs_L_tells_150 F33 l1 l3 l5 l6 l7 l8 s0 g = some z) (hP : va_P (gD Γ) gcls (lay Γ g) H) (hS : va_S (gA Γ) s.heap H locs) (hl : lv_has ls 10 [(0, .ref (gB Γ + 0)), (1, .int l1), (3, .int l3), (5, .int l5), (6, .int l6), (7, .int l7), (8, .int l8)]) : W p l e (gRx 9 149 109 654) s m args below meth c H locs cells slots (MQ below (gQi Γ z) args s 109 654 (gA Γ)) (F0 m 150 ls [.int s0]) := by
  unfold fs_L_tells_150 at h
  obtain ⟨hx, hb, hml, hr, hown, hts, hK, hlk, hX⟩ := id C0
  refine lv_istore (lv' := [(4, .int s0), (0, .ref (gB Γ + 0)), (1, .int l1), (3, .int l3), (5, .int l5), (6, .int l6), (7, .int l7), (8, .int l8)]) hx hb dL_tells_150 hl (by decide) rfl (fun ls hl => ?_)
  refine lv_iload hx hb dL_tells_152 (lv_at hl 4 rfl) ?_
  refine lv_if_ne (tgt := 161) hx hb dL_tells_154 (by decide) (fun c1 => ?_) (fun c1 => ?_)
  · replace h := gneg c1 h
    refine lv_iload hx hb dL_tells_161 (lv_at hl 5 rfl) ?_
    refine lv_bipush (v := 7) hx hb dL_tells_163 (by decide) ?_
    refine lv_irem hx hb dL_tells_165 (by decide) ?_
    exact bs_L_tells_166 C0 hst hF33 (N := (N - 0)) (by omega) (by omega) (by omega) h hP hS (lv_sub hl [1, 2, 3, 0, 4, 5, 6, 7] rfl)
  · replace h := gpos c1 h
    refine lv_iconst (v := 0) hx hb dL_tells_157 (by decide) ?_
    refine lv_goto (tgt := 166) hx hb dL_tells_158 (by decide) ?_
    exact bs_L_tells_166 C0 hst hF33 (N := (N - 0)) (by omega) (by omega) (by omega) h hP hS (lv_sub hl [1, 2, 3, 0, 4, 5, 6, 7] rfl)
set_option maxHeartbeats 2000000 in
set_option maxRecDepth 20000 in
theorem bs_L_tells_149 {p : Program} {l : Launch} {e : Env} {s : State} {m : MethodId} {args : Array Value} {below : List Frame} {meth : Method} {c : Code} {Γ : gE} (C0 : gCx p s m args meth c Γ RL cL_tells 10 (some .boolean)) (hst : l.stackTraces = false)   {z : Int32 × gG} {F33 : Int32 → Int32 → Int32 → Int32 → gG → Option (Int32 × gG)} {l1 : Int32} {l3 : Int32} {l5 : Int32} {l6 : Int32} {l7 : Int32} {l8 : Int32} {g : gG} {H : Heap} {locs : List Loc} {ls : Array Slot} {N33 : Nat} (hF33 : ∀ (cells slots : Nat) (l1 : Int32) (l3 : Int32) (l4 : Int32) (l5 : Int32) (g : gG) (H : Heap) (locs : List Loc) (ls : Array Slot), F33 l1 l3 l4 l5 g = some z → va_P (gD Γ) gcls (lay Γ g) H → va_S (gA Γ) s.heap H locs → lv_has ls 10 [(0, .ref (gB Γ + 0)), (1, .int l1), (3, .int l3), (4, .int l4), (5, .int l5)] → cells + N33 ≤ 109 → slots + 6 * N33 ≤ 654 → W p l e (gRx 9 149 109 654) s m args below meth c H locs cells slots (MQ below (gQi Γ z) args s 109 654 (gA Γ)) (F0 m 33 ls [])) {cells slots N : Nat} (hr1 : cells + N ≤ 109) (hr2 : slots + 6 * N ≤ 654) (hn_33 : 6 + N33 ≤ N) (h : fs_L_tells_149 F33 l1 l3 l5 l6 l7 l8 g = some z) (hP : va_P (gD Γ) gcls (lay Γ g) H) (hS : va_S (gA Γ) s.heap H locs) (hl : lv_has ls 10 [(0, .ref (gB Γ + 0)), (1, .int l1), (3, .int l3), (5, .int l5), (6, .int l6), (7, .int l7), (8, .int l8)]) : W p l e (gRx 9 149 109 654) s m args below meth c H locs cells slots (MQ below (gQi Γ z) args s 109 654 (gA Γ)) (F0 m 149 ls []) := by
  unfold fs_L_tells_149 at h
  obtain ⟨hx, hb, hml, hr, hown, hts, hK, hlk, hX⟩ := id C0
  refine lv_iconst (v := 0) hx hb dL_tells_149 (by decide) ?_
  exact bs_L_tells_150 C0 hst hF33 (N := (N - 0)) (by omega) (by omega) (by omega) h hP hS (lv_sub hl [0, 1, 2, 3, 4, 5, 6] rfl)
set_option maxHeartbeats 2000000 in
set_option maxRecDepth 20000 in
theorem bs_L_tells_100 {p : Program} {l : Launch} {e : Env} {s : State} {m : MethodId} {args : Array Value} {below : List Frame} {meth : Method} {c : Code} {Γ : gE} (C0 : gCx p s m args meth c Γ RL cL_tells 10 (some .boolean)) (hst : l.stackTraces = false)   {z : Int32 × gG} {F33 : Int32 → Int32 → Int32 → Int32 → gG → Option (Int32 × gG)} {l1 : Int32} {l3 : Int32} {l5 : Int32} {l6 : Int32} {l7 : Int32} {s0 : Int32} {s1 : Int32} {g : gG} {H : Heap} {locs : List Loc} {ls : Array Slot} {N33 : Nat} (hF33 : ∀ (cells slots : Nat) (l1 : Int32) (l3 : Int32) (l4 : Int32) (l5 : Int32) (g : gG) (H : Heap) (locs : List Loc) (ls : Array Slot), F33 l1 l3 l4 l5 g = some z → va_P (gD Γ) gcls (lay Γ g) H → va_S (gA Γ) s.heap H locs → lv_has ls 10 [(0, .ref (gB Γ + 0)), (1, .int l1), (3, .int l3), (4, .int l4), (5, .int l5)] → cells + N33 ≤ 109 → slots + 6 * N33 ≤ 654 → W p l e (gRx 9 149 109 654) s m args below meth c H locs cells slots (MQ below (gQi Γ z) args s 109 654 (gA Γ)) (F0 m 33 ls [])) {cells slots N : Nat} (hr1 : cells + N ≤ 109) (hr2 : slots + 6 * N ≤ 654) (hn_33 : 9 + N33 ≤ N) (h : fs_L_tells_100 F33 l1 l3 l5 l6 l7 s0 s1 g = some z) (hP : va_P (gD Γ) gcls (lay Γ g) H) (hS : va_S (gA Γ) s.heap H locs) (hl : lv_has ls 10 [(0, .ref (gB Γ + 0)), (1, .int l1), (3, .int l3), (5, .int l5), (6, .int l6), (7, .int l7)]) : W p l e (gRx 9 149 109 654) s m args below meth c H locs cells slots (MQ below (gQi Γ z) args s 109 654 (gA Γ)) (F0 m 100 ls [.int s1, .int s0]) := by
  unfold fs_L_tells_100 at h
  obtain ⟨hx, hb, hml, hr, hown, hts, hK, hlk, hX⟩ := id C0
  refine lv_iadd hx hb dL_tells_100 ?_
  refine lv_topi (fun x1 ex1 => ?_)
  replace h := gLetI ex1 h
  refine lv_istore (lv' := [(8, .int x1), (0, .ref (gB Γ + 0)), (1, .int l1), (3, .int l3), (5, .int l5), (6, .int l6), (7, .int l7)]) hx hb dL_tells_101 hl (by decide) rfl (fun ls hl => ?_)
  refine lv_aload_n hx hb dL_tells_103 rfl (lv_at hl 1 rfl) ?_
  refine lv_bipush (v := 47) hx hb dL_tells_104 (by decide) ?_
  refine gCKi (rest := []) C0 cal_L_says wl_L_208 wt_L_says ⟨Nat.le_of_ble_eq_true rfl, Nat.le_of_ble_eq_true rfl⟩ ⟨gRcl (by omega), gRsl (by omega)⟩ [.ref (gB Γ + 0), .int (47 : Int32)] rfl (Nat.le_of_ble_eq_true rfl) hP hS hl.1 dL_tells_106 h (fun u hu => m_L_says l hst Γ (47 : Int32) g u hu) (fun u2 H locs h hP hS => ?_) rfl
  refine lv_if_eq (tgt := 149) hx hb dL_tells_109 (by decide) (fun c3 => ?_) (fun c3 => ?_)
  · replace h := gpos c3 h
    exact bs_L_tells_149 C0 hst hF33 (N := (N - 1)) (by omega) (by omega) (by omega) h hP hS (lv_sub hl [1, 2, 3, 4, 5, 6, 0] rfl)
  · replace h := gneg c3 h
    refine lv_aload_n hx hb dL_tells_112 rfl (lv_at hl 1 rfl) ?_
    refine lv_bipush (v := 48) hx hb dL_tells_113 (by decide) ?_
    refine lv_iload hx hb dL_tells_115 (lv_at hl 5 rfl) ?_
    refine lv_bipush (v := 10) hx hb dL_tells_117 (by decide) ?_
    refine lv_irem hx hb dL_tells_119 (by decide) ?_
    refine lv_iadd hx hb dL_tells_120 ?_
    refine gCKi (rest := []) C0 cal_L_says wl_L_208 wt_L_says ⟨Nat.le_of_ble_eq_true rfl, Nat.le_of_ble_eq_true rfl⟩ ⟨gRcl (by omega), gRsl (by omega)⟩ [.ref (gB Γ + 0), .int ((48 : Int32) + (l6 - l6 / (10 : Int32) * (10 : Int32)))] rfl (Nat.le_of_ble_eq_true rfl) hP hS hl.1 dL_tells_121 h (fun u hu => m_L_says l hst Γ ((48 : Int32) + (l6 - l6 / (10 : Int32) * (10 : Int32))) u2.2 u hu) (fun u4 H locs h hP hS => ?_) rfl
    refine lv_if_eq (tgt := 149) hx hb dL_tells_124 (by decide) (fun c5 => ?_) (fun c5 => ?_)
    · replace h := gpos c5 h
      exact bs_L_tells_149 C0 hst hF33 (N := (N - 2)) (by omega) (by omega) (by omega) h hP hS (lv_sub hl [1, 2, 3, 4, 5, 6, 0] rfl)
    · replace h := gneg c5 h
      refine lv_aload_n hx hb dL_tells_127 rfl (lv_at hl 1 rfl) ?_
      refine lv_bipush (v := 48) hx hb dL_tells_128 (by decide) ?_
      refine lv_iload hx hb dL_tells_130 (lv_at hl 5 rfl) ?_
      refine lv_bipush (v := 10) hx hb dL_tells_132 (by decide) ?_
      refine lv_idiv hx hb dL_tells_134 (by decide) ?_
      refine lv_bipush (v := 10) hx hb dL_tells_135 (by decide) ?_
      refine lv_irem hx hb dL_tells_137 (by decide) ?_
      refine lv_iadd hx hb dL_tells_138 ?_
      refine gCKi (rest := []) C0 cal_L_says wl_L_208 wt_L_says ⟨Nat.le_of_ble_eq_true rfl, Nat.le_of_ble_eq_true rfl⟩ ⟨gRcl (by omega), gRsl (by omega)⟩ [.ref (gB Γ + 0), .int ((48 : Int32) + ((l6 / (10 : Int32)) - (l6 / (10 : Int32)) / (10 : Int32) * (10 : Int32)))] rfl (Nat.le_of_ble_eq_true rfl) hP hS hl.1 dL_tells_139 h (fun u hu => m_L_says l hst Γ ((48 : Int32) + ((l6 / (10 : Int32)) - (l6 / (10 : Int32)) / (10 : Int32) * (10 : Int32))) u4.2 u hu) (fun u6 H locs h hP hS => ?_) rfl
      refine lv_if_eq (tgt := 149) hx hb dL_tells_142 (by decide) (fun c7 => ?_) (fun c7 => ?_)
      · replace h := gpos c7 h
        exact bs_L_tells_149 C0 hst hF33 (N := (N - 3)) (by omega) (by omega) (by omega) h hP hS (lv_sub hl [1, 2, 3, 4, 5, 6, 0] rfl)
      · replace h := gneg c7 h
        refine lv_iconst (v := 1) hx hb dL_tells_145 (by decide) ?_
        refine lv_goto (tgt := 150) hx hb dL_tells_146 (by decide) ?_
        exact bs_L_tells_150 C0 hst hF33 (N := (N - 3)) (by omega) (by omega) (by omega) h hP hS (lv_sub hl [1, 2, 3, 4, 5, 6, 0] rfl)
set_option maxHeartbeats 2000000 in
set_option maxRecDepth 20000 in
theorem bs_L_tells_78 {p : Program} {l : Launch} {e : Env} {s : State} {m : MethodId} {args : Array Value} {below : List Frame} {meth : Method} {c : Code} {Γ : gE} (C0 : gCx p s m args meth c Γ RL cL_tells 10 (some .boolean)) (hst : l.stackTraces = false)   {z : Int32 × gG} {F33 : Int32 → Int32 → Int32 → Int32 → gG → Option (Int32 × gG)} {l1 : Int32} {l3 : Int32} {l5 : Int32} {l6 : Int32} {s0 : Int32} {s1 : Int32} {g : gG} {H : Heap} {locs : List Loc} {ls : Array Slot} {N33 : Nat} (hF33 : ∀ (cells slots : Nat) (l1 : Int32) (l3 : Int32) (l4 : Int32) (l5 : Int32) (g : gG) (H : Heap) (locs : List Loc) (ls : Array Slot), F33 l1 l3 l4 l5 g = some z → va_P (gD Γ) gcls (lay Γ g) H → va_S (gA Γ) s.heap H locs → lv_has ls 10 [(0, .ref (gB Γ + 0)), (1, .int l1), (3, .int l3), (4, .int l4), (5, .int l5)] → cells + N33 ≤ 109 → slots + 6 * N33 ≤ 654 → W p l e (gRx 9 149 109 654) s m args below meth c H locs cells slots (MQ below (gQi Γ z) args s 109 654 (gA Γ)) (F0 m 33 ls [])) {cells slots N : Nat} (hr1 : cells + N ≤ 109) (hr2 : slots + 6 * N ≤ 654) (hn_33 : 9 + N33 ≤ N) (h : fs_L_tells_78 F33 l1 l3 l5 l6 s0 s1 g = some z) (hP : va_P (gD Γ) gcls (lay Γ g) H) (hS : va_S (gA Γ) s.heap H locs) (hl : lv_has ls 10 [(0, .ref (gB Γ + 0)), (1, .int l1), (3, .int l3), (5, .int l5), (6, .int l6)]) : W p l e (gRx 9 149 109 654) s m args below meth c H locs cells slots (MQ below (gQi Γ z) args s 109 654 (gA Γ)) (F0 m 78 ls [.int s1, .int s0]) := by
  unfold fs_L_tells_78 at h
  obtain ⟨hx, hb, hml, hr, hown, hts, hK, hlk, hX⟩ := id C0
  refine lv_iadd hx hb dL_tells_78 ?_
  refine lv_topi (fun x1 ex1 => ?_)
  replace h := gLetI ex1 h
  refine lv_istore (lv' := [(7, .int x1), (0, .ref (gB Γ + 0)), (1, .int l1), (3, .int l3), (5, .int l5), (6, .int l6)]) hx hb dL_tells_79 hl (by decide) rfl (fun ls hl => ?_)
  refine lv_bipush (v := 97) hx hb dL_tells_81 (by decide) ?_
  refine lv_iload hx hb dL_tells_83 (lv_at hl 4 rfl) ?_
  refine lv_if_ne (tgt := 92) hx hb dL_tells_85 (by decide) (fun c2 => ?_) (fun c2 => ?_)
  · replace h := gneg c2 h
    refine lv_iload hx hb dL_tells_92 (lv_at hl 5 rfl) ?_
    refine lv_bipush (v := 80) hx hb dL_tells_94 (by decide) ?_
    refine lv_idiv hx hb dL_tells_96 (by decide) ?_
    refine lv_iload hx hb dL_tells_97 (lv_at hl 4 rfl) ?_
    obtain ⟨c3, h⟩ := gnz h
    refine lv_irem hx hb dL_tells_99 c3 ?_
    exact bs_L_tells_100 C0 hst hF33 (N := (N - 0)) (by omega) (by omega) (by omega) h hP hS (lv_sub hl [1, 2, 3, 4, 5, 0] rfl)
  · replace h := gpos c2 h
    refine lv_iconst (v := 0) hx hb dL_tells_88 (by decide) ?_
    refine lv_goto (tgt := 100) hx hb dL_tells_89 (by decide) ?_
    exact bs_L_tells_100 C0 hst hF33 (N := (N - 0)) (by omega) (by omega) (by omega) h hP hS (lv_sub hl [1, 2, 3, 4, 5, 0] rfl)
set_option maxHeartbeats 2000000 in
set_option maxRecDepth 20000 in
theorem bs_L_tells_33 {p : Program} {l : Launch} {e : Env} {s : State} {m : MethodId} {args : Array Value} {below : List Frame} {meth : Method} {c : Code} {Γ : gE} (C0 : gCx p s m args meth c Γ RL cL_tells 10 (some .boolean)) (hst : l.stackTraces = false)   {z : Int32 × gG} {F33 : Int32 → Int32 → Int32 → Int32 → gG → Option (Int32 × gG)} {l1 : Int32} {l3 : Int32} {l4 : Int32} {l5 : Int32} {g : gG} {H : Heap} {locs : List Loc} {ls : Array Slot} {N33 : Nat} (hF33 : ∀ (cells slots : Nat) (l1 : Int32) (l3 : Int32) (l4 : Int32) (l5 : Int32) (g : gG) (H : Heap) (locs : List Loc) (ls : Array Slot), F33 l1 l3 l4 l5 g = some z → va_P (gD Γ) gcls (lay Γ g) H → va_S (gA Γ) s.heap H locs → lv_has ls 10 [(0, .ref (gB Γ + 0)), (1, .int l1), (3, .int l3), (4, .int l4), (5, .int l5)] → cells + N33 ≤ 109 → slots + 6 * N33 ≤ 654 → W p l e (gRx 9 149 109 654) s m args below meth c H locs cells slots (MQ below (gQi Γ z) args s 109 654 (gA Γ)) (F0 m 33 ls [])) {cells slots N : Nat} (hr1 : cells + N ≤ 109) (hr2 : slots + 6 * N ≤ 654) (hn_ret : 0 ≤ N) (hn_33 : 9 + N33 ≤ N) (h : fs_L_tells_33 F33 l1 l3 l4 l5 g = some z) (hP : va_P (gD Γ) gcls (lay Γ g) H) (hS : va_S (gA Γ) s.heap H locs) (hl : lv_has ls 10 [(0, .ref (gB Γ + 0)), (1, .int l1), (3, .int l3), (4, .int l4), (5, .int l5)]) : W p l e (gRx 9 149 109 654) s m args below meth c H locs cells slots (MQ below (gQi Γ z) args s 109 654 (gA Γ)) (F0 m 33 ls []) := by
  unfold fs_L_tells_33 at h
  obtain ⟨hx, hb, hml, hr, hown, hts, hK, hlk, hX⟩ := id C0
  refine lv_iload hx hb dL_tells_33 (lv_at hl 4 rfl) ?_
  refine lv_iload_n hx hb dL_tells_35 rfl (lv_at hl 2 rfl) ?_
  refine lv_icmp_ge (tgt := 463) hx hb dL_tells_36 (by decide) (fun c1 => ?_) (fun c1 => ?_)
  · replace h := gpos c1 h
    exact bs_L_tells_463 C0 hst  (N := (N - 0)) (by omega) (by omega) (by omega) h hP hS (lv_sub hl [0, 3] rfl)
  · replace h := gneg c1 h
    refine lv_iload hx hb dL_tells_39 (lv_at hl 3 rfl) ?_
    refine lv_if_eq (tgt := 463) hx hb dL_tells_41 (by decide) (fun c2 => ?_) (fun c2 => ?_)
    · replace h := gpos c2 h
      exact bs_L_tells_463 C0 hst  (N := (N - 0)) (by omega) (by omega) (by omega) h hP hS (lv_sub hl [0, 3] rfl)
    · replace h := gneg c2 h
      refine lv_iload_n hx hb dL_tells_44 rfl (lv_at hl 1 rfl) ?_
      refine lv_iload hx hb dL_tells_45 (lv_at hl 4 rfl) ?_
      refine lv_ishr hx hb dL_tells_47 ?_
      refine lv_ldc (v := 65535) hx hb hown (hts _ wk_L_212) dL_tells_48 ?_
      refine lv_iand hx hb dL_tells_50 ?_
      refine lv_bipush (v := 31) hx hb dL_tells_51 (by decide) ?_
      refine lv_iload hx hb dL_tells_53 (lv_at hl 4 rfl) ?_
      refine lv_imul hx hb dL_tells_55 ?_
      refine lv_iadd hx hb dL_tells_56 ?_
      refine lv_topi (fun x3 ex3 => ?_)
      replace h := gLetI ex3 h
      refine lv_istore (lv' := [(6, .int x3), (0, .ref (gB Γ + 0)), (1, .int l1), (3, .int l3), (4, .int l4), (5, .int l5)]) hx hb dL_tells_57 hl (by decide) rfl (fun ls hl => ?_)
      refine lv_bipush (v := 97) hx hb dL_tells_59 (by decide) ?_
      refine lv_iload hx hb dL_tells_61 (lv_at hl 5 rfl) ?_
      refine lv_if_ne (tgt := 70) hx hb dL_tells_63 (by decide) (fun c4 => ?_) (fun c4 => ?_)
      · replace h := gneg c4 h
        refine lv_iload hx hb dL_tells_70 (lv_at hl 0 rfl) ?_
        refine lv_bipush (v := 8) hx hb dL_tells_72 (by decide) ?_
        refine lv_idiv hx hb dL_tells_74 (by decide) ?_
        refine lv_iload hx hb dL_tells_75 (lv_at hl 5 rfl) ?_
        obtain ⟨c5, h⟩ := gnz h
        refine lv_irem hx hb dL_tells_77 c5 ?_
        exact bs_L_tells_78 C0 hst hF33 (N := (N - 0)) (by omega) (by omega) (by omega) h hP hS (lv_sub hl [1, 2, 3, 5, 0] rfl)
      · replace h := gpos c4 h
        refine lv_iconst (v := 0) hx hb dL_tells_66 (by decide) ?_
        refine lv_goto (tgt := 78) hx hb dL_tells_67 (by decide) ?_
        exact bs_L_tells_78 C0 hst hF33 (N := (N - 0)) (by omega) (by omega) (by omega) h hP hS (lv_sub hl [1, 2, 3, 5, 0] rfl)
set_option maxHeartbeats 2000000 in
set_option maxRecDepth 20000 in
theorem bk_L_tells_33 {p : Program} {l : Launch} {e : Env} {s : State} {m : MethodId} {args : Array Value} {below : List Frame} {meth : Method} {c : Code} {Γ : gE} (C0 : gCx p s m args meth c Γ RL cL_tells 10 (some .boolean)) (hst : l.stackTraces = false)   {z : Int32 × gG}   {T : Nat} (hT_ret : 0 ≤ T) : ∀ (n cells slots : Nat) (l1 : Int32) (l3 : Int32) (l4 : Int32) (l5 : Int32) (g : gG) (H : Heap) (locs : List Loc) (ls : Array Slot), fb_L_tells_33 n l1 l3 l4 l5 g = some z → va_P (gD Γ) gcls (lay Γ g) H → va_S (gA Γ) s.heap H locs → lv_has ls 10 [(0, .ref (gB Γ + 0)), (1, .int l1), (3, .int l3), (4, .int l4), (5, .int l5)] → cells + (n * 9 + T) ≤ 109 → slots + 6 * (n * 9 + T) ≤ 654 → W p l e (gRx 9 149 109 654) s m args below meth c H locs cells slots (MQ below (gQi Γ z) args s 109 654 (gA Γ)) (F0 m 33 ls []) := by
  intro n
  induction n with
  | zero => intro cells slots l1 l3 l4 l5 g H locs ls h hP hS hl hr1 hr2; cases h
  | succ n ih => intro cells slots l1 l3 l4 l5 g H locs ls h hP hS hl hr1 hr2; exact bs_L_tells_33 C0 hst  (N := (n + 1) * 9 + T) ih hr1 hr2 (by omega) (by omega) h hP hS hl
set_option maxHeartbeats 2000000 in
set_option maxRecDepth 20000 in
theorem bs_L_tells_28 {p : Program} {l : Launch} {e : Env} {s : State} {m : MethodId} {args : Array Value} {below : List Frame} {meth : Method} {c : Code} {Γ : gE} (C0 : gCx p s m args meth c Γ RL cL_tells 10 (some .boolean)) (hst : l.stackTraces = false)   {z : Int32 × gG}  {l1 : Int32} {l3 : Int32} {s0 : Int32} {g : gG} {H : Heap} {locs : List Loc} {ls : Array Slot} {cells slots N : Nat} (hr1 : cells + N ≤ 109) (hr2 : slots + 6 * N ≤ 654) (hn_ret : 108 ≤ N)  (h : fs_L_tells_28 l1 l3 s0 g = some z) (hP : va_P (gD Γ) gcls (lay Γ g) H) (hS : va_S (gA Γ) s.heap H locs) (hl : lv_has ls 10 [(0, .ref (gB Γ + 0)), (1, .int l1), (3, .int l3)]) : W p l e (gRx 9 149 109 654) s m args below meth c H locs cells slots (MQ below (gQi Γ z) args s 109 654 (gA Γ)) (F0 m 28 ls [.int s0]) := by
  unfold fs_L_tells_28 at h
  obtain ⟨hx, hb, hml, hr, hown, hts, hK, hlk, hX⟩ := id C0
  refine lv_istore (lv' := [(4, .int s0), (0, .ref (gB Γ + 0)), (1, .int l1), (3, .int l3)]) hx hb dL_tells_28 hl (by decide) rfl (fun ls hl => ?_)
  refine lv_iconst (v := 0) hx hb dL_tells_30 (by decide) ?_
  refine lv_istore (lv' := [(5, .int (0 : Int32)), (4, .int s0), (0, .ref (gB Γ + 0)), (1, .int l1), (3, .int l3)]) hx hb dL_tells_31 hl (by decide) rfl (fun ls hl => ?_)
  exact bk_L_tells_33 C0 hst  (T := (N - 0) - 108) (by omega) gFuelL _ _ _ _ _ _ _ _ _ _ h hP hS (lv_sub hl [2, 3, 4, 1, 0] rfl) (by unfold gFuelL; omega) (by unfold gFuelL; omega)
set_option maxHeartbeats 2000000 in
set_option maxRecDepth 20000 in
theorem bs_L_tells_27 {p : Program} {l : Launch} {e : Env} {s : State} {m : MethodId} {args : Array Value} {below : List Frame} {meth : Method} {c : Code} {Γ : gE} (C0 : gCx p s m args meth c Γ RL cL_tells 10 (some .boolean)) (hst : l.stackTraces = false)   {z : Int32 × gG}  {l1 : Int32} {l3 : Int32} {g : gG} {H : Heap} {locs : List Loc} {ls : Array Slot} {cells slots N : Nat} (hr1 : cells + N ≤ 109) (hr2 : slots + 6 * N ≤ 654) (hn_ret : 108 ≤ N)  (h : fs_L_tells_27 l1 l3 g = some z) (hP : va_P (gD Γ) gcls (lay Γ g) H) (hS : va_S (gA Γ) s.heap H locs) (hl : lv_has ls 10 [(0, .ref (gB Γ + 0)), (1, .int l1), (3, .int l3)]) : W p l e (gRx 9 149 109 654) s m args below meth c H locs cells slots (MQ below (gQi Γ z) args s 109 654 (gA Γ)) (F0 m 27 ls []) := by
  unfold fs_L_tells_27 at h
  obtain ⟨hx, hb, hml, hr, hown, hts, hK, hlk, hX⟩ := id C0
  refine lv_iconst (v := 0) hx hb dL_tells_27 (by decide) ?_
  exact bs_L_tells_28 C0 hst  (N := (N - 0)) (by omega) (by omega) (by omega) h hP hS (lv_sub hl [0, 1, 2] rfl)
set_option maxHeartbeats 2000000 in
set_option maxRecDepth 20000 in
theorem m_L_tells (l : Launch) (hst : l.stackTraces = false) (Γ : gE)   (a1 : Int32) (a2 : Int32) (g : gG) (z : Int32 × gG) (h : f_L_tells a1 a2 g = some z) : gCi l yL_tells cL_tells 10 (some .boolean) 9 149 109 654 Γ [.ref (gB Γ + 0), .int a1, .int a2] g z := by
  unfold f_L_tells at h
  refine gStartC (own := RL) (by decide +kernel) rfl (Nat.le_of_ble_eq_true rfl) ?_
  intro p e s m below meth c C0 ls hl hP
  have hS : va_S (gA Γ) s.heap s.heap [] := va_S.rf
  have hl : lv_has ls 10 [(0, .ref (gB Γ + 0)), (1, .int a1), (2, .int a2)] := hl
  obtain ⟨hx, hb, hml, hr, hown, hts, hK, hlk, hX⟩ := id C0
  refine lv_iconst (v := 2) hx hb dL_tells_0 (by decide) ?_
  refine lv_iload_n hx hb dL_tells_1 rfl (lv_at hl 2 rfl) ?_
  refine lv_bipush (v := 9) hx hb dL_tells_2 (by decide) ?_
  refine lv_irem hx hb dL_tells_4 (by decide) ?_
  refine lv_iadd hx hb dL_tells_5 ?_
  refine lv_topi (fun x1 ex1 => ?_)
  replace h := gLetI ex1 h
  refine lv_istore_n (lv' := [(3, .int x1), (0, .ref (gB Γ + 0)), (1, .int a1), (2, .int a2)]) hx hb dL_tells_6 rfl hl (by decide) rfl (fun ls hl => ?_)
  refine lv_aload_n hx hb dL_tells_7 rfl (lv_at hl 1 rfl) ?_
  refine gCVi (rest := []) C0 cal_X9_clearText wl_L_205 wi_X9_clearText ws_X9_clearText ⟨Nat.le_of_ble_eq_true rfl, Nat.le_of_ble_eq_true rfl⟩ ⟨gRcl (by omega), gRsl (by omega)⟩ grv_9 [] rfl (Nat.le_of_ble_eq_true rfl) hP hS hl.1 dL_tells_8 h (fun u hu => m_X9_clearText l Γ g u hu) (fun u2 H locs h hP hS => ?_) rfl
  refine lv_if_lt (tgt := 27) hx hb dL_tells_11 (by decide) (fun c3 => ?_) (fun c3 => ?_)
  · replace h := gpos c3 h
    exact bs_L_tells_27 C0 hst  (N := (109 - 0)) (by omega) (by omega) (by omega) h hP hS (lv_sub hl [1, 2, 0] rfl)
  · replace h := gneg c3 h
    refine lv_aload_n hx hb dL_tells_14 rfl (lv_at hl 1 rfl) ?_
    refine lv_bipush (v := 72) hx hb dL_tells_15 (by decide) ?_
    refine gCKi (rest := []) C0 cal_L_says wl_L_208 wt_L_says ⟨Nat.le_of_ble_eq_true rfl, Nat.le_of_ble_eq_true rfl⟩ ⟨gRcl (by omega), gRsl (by omega)⟩ [.ref (gB Γ + 0), .int (72 : Int32)] rfl (Nat.le_of_ble_eq_true rfl) hP hS hl.1 dL_tells_17 h (fun u hu => m_L_says l hst Γ (72 : Int32) u2.2 u hu) (fun u4 H locs h hP hS => ?_) rfl
    refine lv_if_eq (tgt := 27) hx hb dL_tells_20 (by decide) (fun c5 => ?_) (fun c5 => ?_)
    · replace h := gpos c5 h
      exact bs_L_tells_27 C0 hst  (N := (109 - 1)) (by omega) (by omega) (by omega) h hP hS (lv_sub hl [1, 2, 0] rfl)
    · replace h := gneg c5 h
      refine lv_iconst (v := 1) hx hb dL_tells_23 (by decide) ?_
      refine lv_goto (tgt := 28) hx hb dL_tells_24 (by decide) ?_
      exact bs_L_tells_28 C0 hst  (N := (109 - 1)) (by omega) (by omega) (by omega) h hP hS (lv_sub hl [1, 2, 0] rfl)
set_option maxHeartbeats 2000000 in
set_option maxRecDepth 20000 in
theorem bs_L_act_64 {p : Program} {l : Launch} {e : Env} {s : State} {m : MethodId} {args : Array Value} {below : List Frame} {meth : Method} {c : Code} {Γ : gE} (C0 : gCx p s m args meth c Γ RL cL_act 9 (some .long)) (hst : l.stackTraces = false)   {z : Int64 × gG}   {g : gG} {H : Heap} {locs : List Loc} {ls : Array Slot} {cells slots N : Nat} (hr1 : cells + N ≤ 5) (hr2 : slots + 6 * N ≤ 30) (hn_ret : 1 ≤ N)  (h : fs_L_act_64 g = some z) (hP : va_P (gD Γ) gcls (lay Γ g) H) (hS : va_S (gA Γ) s.heap H locs) (hl : lv_has ls 9 [(0, .ref (gB Γ + 0))]) : W p l e (gRx 9 150 5 30) s m args below meth c H locs cells slots (MQ below (gQl Γ z) args s 5 30 (gA Γ)) (F0 m 64 ls []) := by
  unfold fs_L_act_64 at h
  obtain ⟨hx, hb, hml, hr, hown, hts, hK, hlk, hX⟩ := id C0
  refine lv_aload_n hx hb dL_act_64 rfl (lv_at hl 0 rfl) ?_
  refine gCHl (n2 := 1) (rest := []) C0 wcw_L_addTeam wn_L (by decide +kernel) wl_L_139 wt_L_addTeam ⟨Nat.le_of_ble_eq_true rfl, Nat.le_of_ble_eq_true rfl⟩ ⟨gRcl (by omega), gRsl (by omega)⟩ [.ref (gB Γ + 0)] rfl (Nat.le_of_ble_eq_true rfl) hP hS hl.1 dL_act_65 h (fun u hu => m_L_addTeam l hst Γ g u hu) (fun u1 H locs h hP hS => ?_) rfl
  refine W.widen (k := 5) (n := 30) (by omega) (by omega) ?_
  exact glret hx hb hr hlk hP hS dL_act_68 h
set_option maxHeartbeats 2000000 in
set_option maxRecDepth 20000 in
theorem bs_L_act_69 {p : Program} {l : Launch} {e : Env} {s : State} {m : MethodId} {args : Array Value} {below : List Frame} {meth : Method} {c : Code} {Γ : gE} (C0 : gCx p s m args meth c Γ RL cL_act 9 (some .long)) (hst : l.stackTraces = false)   {z : Int64 × gG}  {l3 : Int32} {g : gG} {H : Heap} {locs : List Loc} {ls : Array Slot} {cells slots N : Nat} (hr1 : cells + N ≤ 5) (hr2 : slots + 6 * N ≤ 30) (hn_ret : 2 ≤ N)  (h : fs_L_act_69 l3 g = some z) (hP : va_P (gD Γ) gcls (lay Γ g) H) (hS : va_S (gA Γ) s.heap H locs) (hl : lv_has ls 9 [(0, .ref (gB Γ + 0)), (3, .int l3)]) : W p l e (gRx 9 150 5 30) s m args below meth c H locs cells slots (MQ below (gQl Γ z) args s 5 30 (gA Γ)) (F0 m 69 ls []) := by
  unfold fs_L_act_69 at h
  obtain ⟨hx, hb, hml, hr, hown, hts, hK, hlk, hX⟩ := id C0
  refine lv_aload_n hx hb dL_act_69 rfl (lv_at hl 0 rfl) ?_
  refine lv_iload_n hx hb dL_act_70 rfl (lv_at hl 1 rfl) ?_
  refine gCHl (n2 := 2) (rest := []) C0 wcw_L_hint wn_L (by decide +kernel) wl_L_130 wt_L_hint ⟨Nat.le_of_ble_eq_true rfl, Nat.le_of_ble_eq_true rfl⟩ ⟨gRcl (by omega), gRsl (by omega)⟩ [.ref (gB Γ + 0), .int l3] rfl (Nat.le_of_ble_eq_true rfl) hP hS hl.1 dL_act_71 h (fun u hu => m_L_hint l hst Γ l3 g u hu) (fun u1 H locs h hP hS => ?_) rfl
  refine W.widen (k := 5) (n := 30) (by omega) (by omega) ?_
  exact glret hx hb hr hlk hP hS dL_act_74 h
set_option maxHeartbeats 2000000 in
set_option maxRecDepth 20000 in
theorem bs_L_act_237 {p : Program} {l : Launch} {e : Env} {s : State} {m : MethodId} {args : Array Value} {below : List Frame} {meth : Method} {c : Code} {Γ : gE} (C0 : gCx p s m args meth c Γ RL cL_act 9 (some .long)) (hst : l.stackTraces = false)   {z : Int64 × gG}  {l3 : Int32} {l4 : Int32} {l5 : Int32} {g : gG} {H : Heap} {locs : List Loc} {ls : Array Slot} {cells slots N : Nat} (hr1 : cells + N ≤ 5) (hr2 : slots + 6 * N ≤ 30) (hn_ret : 3 ≤ N)  (h : fs_L_act_237 l3 l4 l5 g = some z) (hP : va_P (gD Γ) gcls (lay Γ g) H) (hS : va_S (gA Γ) s.heap H locs) (hl : lv_has ls 9 [(0, .ref (gB Γ + 0)), (3, .int l3), (4, .int l4), (5, .int l5)]) : W p l e (gRx 9 150 5 30) s m args below meth c H locs cells slots (MQ below (gQl Γ z) args s 5 30 (gA Γ)) (F0 m 237 ls []) := by
  unfold fs_L_act_237 at h
  obtain ⟨hx, hb, hml, hr, hown, hts, hK, hlk, hX⟩ := id C0
  refine lv_aload_n hx hb dL_act_237 rfl (lv_at hl 0 rfl) ?_
  refine lv_iload_n hx hb dL_act_238 rfl (lv_at hl 1 rfl) ?_
  refine lv_iload hx hb dL_act_239 (lv_at hl 2 rfl) ?_
  refine lv_iload hx hb dL_act_241 (lv_at hl 3 rfl) ?_
  obtain ⟨c1, h⟩ := gnz h
  refine lv_irem hx hb dL_act_243 c1 ?_
  refine gCHl (n2 := 3) (rest := []) C0 wcw_L_go wn_L (by decide +kernel) wl_L_128 wt_L_go ⟨Nat.le_of_ble_eq_true rfl, Nat.le_of_ble_eq_true rfl⟩ ⟨gRcl (by omega), gRsl (by omega)⟩ [.ref (gB Γ + 0), .int l3, .int (l4 - l4 / l5 * l5)] rfl (Nat.le_of_ble_eq_true rfl) hP hS hl.1 dL_act_244 h (fun u hu => m_L_go l hst Γ l3 (l4 - l4 / l5 * l5) g u hu) (fun u2 H locs h hP hS => ?_) rfl
  refine W.widen (k := 5) (n := 30) (by omega) (by omega) ?_
  exact glret hx hb hr hlk hP hS dL_act_247 h
set_option maxHeartbeats 2000000 in
set_option maxRecDepth 20000 in
theorem bs_L_act_190 {p : Program} {l : Launch} {e : Env} {s : State} {m : MethodId} {args : Array Value} {below : List Frame} {meth : Method} {c : Code} {Γ : gE} (C0 : gCx p s m args meth c Γ RL cL_act 9 (some .long)) (hst : l.stackTraces = false)   {z : Int64 × gG} {F190 : Int32 → Int32 → Int32 → Int32 → Int64 → Int32 → gG → Option (Int64 × gG)} {l2 : Int32} {l3 : Int32} {l4 : Int32} {l5 : Int32} {l6 : Int64} {l8 : Int32} {g : gG} {H : Heap} {locs : List Loc} {ls : Array Slot} {N190 : Nat} (hF190 : ∀ (cells slots : Nat) (l2 : Int32) (l3 : Int32) (l4 : Int32) (l5 : Int32) (l6 : Int64) (l8 : Int32) (g : gG) (H : Heap) (locs : List Loc) (ls : Array Slot), F190 l2 l3 l4 l5 l6 l8 g = some z → va_P (gD Γ) gcls (lay Γ g) H → va_S (gA Γ) s.heap H locs → lv_has ls 9 [(0, .ref (gB Γ + 0)), (2, .int l2), (3, .int l3), (4, .int l4), (5, .int l5), (6, .long l6), (8, .int l8)] → cells + N190 ≤ 5 → slots + 6 * N190 ≤ 30 → W p l e (gRx 9 150 5 30) s m args below meth c H locs cells slots (MQ below (gQl Γ z) args s 5 30 (gA Γ)) (F0 m 190 ls [])) {cells slots N : Nat} (hr1 : cells + N ≤ 5) (hr2 : slots + 6 * N ≤ 30) (hn_ret : 3 ≤ N) (hn_190 : 0 + N190 ≤ N) (h : fs_L_act_190 F190 l2 l3 l4 l5 l6 l8 g = some z) (hP : va_P (gD Γ) gcls (lay Γ g) H) (hS : va_S (gA Γ) s.heap H locs) (hl : lv_has ls 9 [(0, .ref (gB Γ + 0)), (2, .int l2), (3, .int l3), (4, .int l4), (5, .int l5), (6, .long l6), (8, .int l8)]) : W p l e (gRx 9 150 5 30) s m args below meth c H locs cells slots (MQ below (gQl Γ z) args s 5 30 (gA Γ)) (F0 m 190 ls []) := by
  unfold fs_L_act_190 at h
  obtain ⟨hx, hb, hml, hr, hown, hts, hK, hlk, hX⟩ := id C0
  refine lv_iload hx hb dL_act_190 (lv_at hl 6 rfl) ?_
  refine lv_iload hx hb dL_act_192 (lv_at hl 4 rfl) ?_
  refine lv_icmp_ge (tgt := 237) hx hb dL_act_194 (by decide) (fun c1 => ?_) (fun c1 => ?_)
  · replace h := gpos c1 h
    exact bs_L_act_237 C0 hst  (N := (N - 0)) (by omega) (by omega) (by omega) h hP hS (lv_sub hl [0, 2, 3, 4] rfl)
  · replace h := gneg c1 h
    refine lv_lload hx hb dL_act_197 (lv_at hl 5 rfl) ?_
    refine lv_lconst (v := 1) hx hb dL_act_199 (by decide) ?_
    refine lv_ldc2 (v := 1023) hx hb hown (hts _ wkl_L_213) dL_act_200 ?_
    refine gCSi (rest := []) C0 cal_L_in wl_L_172 wt_L_in ⟨Nat.le_of_ble_eq_true rfl, Nat.le_of_ble_eq_true rfl⟩ ⟨gRcl (by omega), gRsl (by omega)⟩ [.long l6, .long (1 : Int64), .long (1023 : Int64)] rfl (Nat.le_of_ble_eq_true rfl) hP hS hl.1 dL_act_203 h (fun u hu => m_L_in l Γ l6 (1 : Int64) (1023 : Int64) g u hu) (fun u2 H locs h hP hS => ?_) rfl
    refine lv_if_eq (tgt := 237) hx hb dL_act_206 (by decide) (fun c3 => ?_) (fun c3 => ?_)
    · replace h := gpos c3 h
      exact bs_L_act_237 C0 hst  (N := (N - 0)) (by omega) (by omega) (by omega) h hP hS (lv_sub hl [0, 2, 3, 4] rfl)
    · replace h := gneg c3 h
      refine lv_iload_n hx hb dL_act_209 rfl (lv_at hl 1 rfl) ?_
      refine lv_iconst (v := 3) hx hb dL_act_210 (by decide) ?_
      refine lv_irem hx hb dL_act_211 (by decide) ?_
      refine lv_if_le (tgt := 237) hx hb dL_act_212 (by decide) (fun c4 => ?_) (fun c4 => ?_)
      · replace h := gpos c4 h
        exact bs_L_act_237 C0 hst  (N := (N - 0)) (by omega) (by omega) (by omega) h hP hS (lv_sub hl [0, 2, 3, 4] rfl)
      · replace h := gneg c4 h
        refine lv_lload hx hb dL_act_215 (lv_at hl 5 rfl) ?_
        refine lv_iload hx hb dL_act_217 (lv_at hl 3 rfl) ?_
        refine lv_iload hx hb dL_act_219 (lv_at hl 4 rfl) ?_
        obtain ⟨c5, h⟩ := gnz h
        refine lv_irem hx hb dL_act_221 c5 ?_
        refine gCSi (rest := []) C0 cal_L_has wl_L_147 wt_L_has ⟨Nat.le_of_ble_eq_true rfl, Nat.le_of_ble_eq_true rfl⟩ ⟨gRcl (by omega), gRsl (by omega)⟩ [.long l6, .int (l4 - l4 / l5 * l5)] rfl (Nat.le_of_ble_eq_true rfl) hP hS hl.1 dL_act_222 h (fun u hu => m_L_has l Γ l6 (l4 - l4 / l5 * l5) u2.2 u hu) (fun u6 H locs h hP hS => ?_) rfl
        refine lv_if_ne (tgt := 237) hx hb dL_act_225 (by decide) (fun c7 => ?_) (fun c7 => ?_)
        · replace h := gneg c7 h
          exact bs_L_act_237 C0 hst  (N := (N - 0)) (by omega) (by omega) (by omega) h hP hS (lv_sub hl [0, 2, 3, 4] rfl)
        · replace h := gpos c7 h
          obtain ⟨x8, ex8⟩ : ∃ y : Int32, y = l4 + (1 : Int32) := ⟨_, rfl⟩
          replace h := gLetI ex8 h
          refine lv_iinc (v := x8) (lv' := [(4, .int x8), (0, .ref (gB Γ + 0)), (2, .int l2), (3, .int l3), (5, .int l5), (6, .long l6), (8, .int l8)]) hx hb dL_act_228 hl (k := 3) rfl (by rw [ex8]; rfl) (by decide) rfl (fun ls hl => ?_)
          obtain ⟨x9, ex9⟩ : ∃ y : Int32, y = l8 + (1 : Int32) := ⟨_, rfl⟩
          replace h := gLetI ex9 h
          refine lv_iinc (v := x9) (lv' := [(8, .int x9), (4, .int x8), (0, .ref (gB Γ + 0)), (2, .int l2), (3, .int l3), (5, .int l5), (6, .long l6)]) hx hb dL_act_231 hl (k := 6) rfl (by rw [ex9]; rfl) (by decide) rfl (fun ls hl => ?_)
          refine lv_goto (tgt := 190) hx hb dL_act_234 (by decide) ?_
          exact hF190 _ _ _ _ _ _ _ _ _ _ _ _ h hP hS (lv_sub hl [2, 3, 4, 1, 5, 6, 0] rfl) (by omega) (by omega)
set_option maxHeartbeats 2000000 in
set_option maxRecDepth 20000 in
theorem bk_L_act_190 {p : Program} {l : Launch} {e : Env} {s : State} {m : MethodId} {args : Array Value} {below : List Frame} {meth : Method} {c : Code} {Γ : gE} (C0 : gCx p s m args meth c Γ RL cL_act 9 (some .long)) (hst : l.stackTraces = false)   {z : Int64 × gG}   {T : Nat} (hT_ret : 3 ≤ T) : ∀ (n cells slots : Nat) (l2 : Int32) (l3 : Int32) (l4 : Int32) (l5 : Int32) (l6 : Int64) (l8 : Int32) (g : gG) (H : Heap) (locs : List Loc) (ls : Array Slot), fb_L_act_190 n l2 l3 l4 l5 l6 l8 g = some z → va_P (gD Γ) gcls (lay Γ g) H → va_S (gA Γ) s.heap H locs → lv_has ls 9 [(0, .ref (gB Γ + 0)), (2, .int l2), (3, .int l3), (4, .int l4), (5, .int l5), (6, .long l6), (8, .int l8)] → cells + (n * 0 + T) ≤ 5 → slots + 6 * (n * 0 + T) ≤ 30 → W p l e (gRx 9 150 5 30) s m args below meth c H locs cells slots (MQ below (gQl Γ z) args s 5 30 (gA Γ)) (F0 m 190 ls []) := by
  intro n
  induction n with
  | zero => intro cells slots l2 l3 l4 l5 l6 l8 g H locs ls h hP hS hl hr1 hr2; cases h
  | succ n ih => intro cells slots l2 l3 l4 l5 l6 l8 g H locs ls h hP hS hl hr1 hr2; exact bs_L_act_190 C0 hst  (N := (n + 1) * 0 + T) ih hr1 hr2 (by omega) (by omega) h hP hS hl
set_option maxHeartbeats 2000000 in
set_option maxRecDepth 20000 in
theorem m_L_act (l : Launch) (hst : l.stackTraces = false) (Γ : gE)   (a1 : Int32) (a2 : Int32) (g : gG) (z : Int64 × gG) (h : f_L_act a1 a2 g = some z) : gCl l yL_act cL_act 9 (some .long) 9 150 5 30 Γ [.ref (gB Γ + 0), .int a1, .int a2] g z := by
  unfold f_L_act at h
  refine gStartC (own := RL) (by decide +kernel) rfl (Nat.le_of_ble_eq_true rfl) ?_
  intro p e s m below meth c C0 ls hl hP
  have hS : va_S (gA Γ) s.heap s.heap [] := va_S.rf
  have hl : lv_has ls 9 [(0, .ref (gB Γ + 0)), (1, .int a1), (2, .int a2)] := hl
  obtain ⟨hx, hb, hml, hr, hown, hts, hK, hlk, hX⟩ := id C0
  refine lv_iload_n hx hb dL_act_0 rfl (lv_at hl 2 rfl) ?_
  refine lv_iconst (v := 4) hx hb dL_act_1 (by decide) ?_
  refine lv_irem hx hb dL_act_2 (by decide) ?_
  refine lv_topi (fun x1 ex1 => ?_)
  replace h := gLetI ex1 h
  refine lv_istore_n (lv' := [(3, .int x1), (0, .ref (gB Γ + 0)), (1, .int a1), (2, .int a2)]) hx hb dL_act_3 rfl hl (by decide) rfl (fun ls hl => ?_)
  refine lv_iload_n hx hb dL_act_4 rfl (lv_at hl 2 rfl) ?_
  refine lv_bipush (v := 18) hx hb dL_act_5 (by decide) ?_
  refine lv_irem hx hb dL_act_7 (by decide) ?_
  by_cases c2 : (a1 - a1 / (18 : Int32) * (18 : Int32)) = (0 : Int32)
  · replace h := gpos c2 h
    refine lv_tableIn (tgt := 64) hx hb dL_act_8 (by rw [c2]; decide) (by rw [c2]; decide) (by rw [c2]; rfl) (by decide) ?_
    exact bs_L_act_64 C0 hst  (N := (5 - 0)) (by omega) (by omega) (by omega) h hP hS (lv_sub hl [1] rfl)
  replace h := gneg c2 h
  by_cases c3 : (a1 - a1 / (18 : Int32) * (18 : Int32)) = (1 : Int32)
  · replace h := gpos c3 h
    refine lv_tableIn (tgt := 64) hx hb dL_act_8 (by rw [c3]; decide) (by rw [c3]; decide) (by rw [c3]; rfl) (by decide) ?_
    exact bs_L_act_64 C0 hst  (N := (5 - 0)) (by omega) (by omega) (by omega) h hP hS (lv_sub hl [1] rfl)
  replace h := gneg c3 h
  by_cases c4 : (a1 - a1 / (18 : Int32) * (18 : Int32)) = (2 : Int32)
  · replace h := gpos c4 h
    refine lv_tableIn (tgt := 64) hx hb dL_act_8 (by rw [c4]; decide) (by rw [c4]; decide) (by rw [c4]; rfl) (by decide) ?_
    exact bs_L_act_64 C0 hst  (N := (5 - 0)) (by omega) (by omega) (by omega) h hP hS (lv_sub hl [1] rfl)
  replace h := gneg c4 h
  by_cases c5 : (a1 - a1 / (18 : Int32) * (18 : Int32)) = (3 : Int32)
  · replace h := gpos c5 h
    refine lv_tableIn (tgt := 69) hx hb dL_act_8 (by rw [c5]; decide) (by rw [c5]; decide) (by rw [c5]; rfl) (by decide) ?_
    exact bs_L_act_69 C0 hst  (N := (5 - 0)) (by omega) (by omega) (by omega) h hP hS (lv_sub hl [1, 0] rfl)
  replace h := gneg c5 h
  by_cases c6 : (a1 - a1 / (18 : Int32) * (18 : Int32)) = (4 : Int32)
  · replace h := gpos c6 h
    refine lv_tableIn (tgt := 69) hx hb dL_act_8 (by rw [c6]; decide) (by rw [c6]; decide) (by rw [c6]; rfl) (by decide) ?_
    exact bs_L_act_69 C0 hst  (N := (5 - 0)) (by omega) (by omega) (by omega) h hP hS (lv_sub hl [1, 0] rfl)
  replace h := gneg c6 h
  by_cases c7 : (a1 - a1 / (18 : Int32) * (18 : Int32)) = (5 : Int32)
  · replace h := gpos c7 h
    refine lv_tableIn (tgt := 75) hx hb dL_act_8 (by rw [c7]; decide) (by rw [c7]; decide) (by rw [c7]; rfl) (by decide) ?_
    refine lv_aload_n hx hb dL_act_75 rfl (lv_at hl 1 rfl) ?_
    refine lv_iload_n hx hb dL_act_76 rfl (lv_at hl 0 rfl) ?_
    refine gCHl (n2 := 2) (rest := []) C0 wcw_L_giveUp wn_L (by decide +kernel) wl_L_132 wt_L_giveUp ⟨Nat.le_of_ble_eq_true rfl, Nat.le_of_ble_eq_true rfl⟩ ⟨gRcl (by omega), gRsl (by omega)⟩ [.ref (gB Γ + 0), .int x1] rfl (Nat.le_of_ble_eq_true rfl) hP hS hl.1 dL_act_77 h (fun u hu => m_L_giveUp l hst Γ x1 g u hu) (fun u8 H locs h hP hS => ?_) rfl
    refine W.widen (k := 5) (n := 30) (by omega) (by omega) ?_
    exact glret hx hb hr hlk hP hS dL_act_80 h
  replace h := gneg c7 h
  by_cases c9 : (a1 - a1 / (18 : Int32) * (18 : Int32)) = (6 : Int32)
  · replace h := gpos c9 h
    refine lv_tableIn (tgt := 81) hx hb dL_act_8 (by rw [c9]; decide) (by rw [c9]; decide) (by rw [c9]; rfl) (by decide) ?_
    refine lv_aload_n hx hb dL_act_81 rfl (lv_at hl 1 rfl) ?_
    refine lv_iload_n hx hb dL_act_82 rfl (lv_at hl 3 rfl) ?_
    refine lv_iconst (v := 4) hx hb dL_act_83 (by decide) ?_
    refine lv_idiv hx hb dL_act_84 (by decide) ?_
    refine lv_bipush (v := 10) hx hb dL_act_85 (by decide) ?_
    refine lv_irem hx hb dL_act_87 (by decide) ?_
    refine lv_iload_n hx hb dL_act_88 rfl (lv_at hl 3 rfl) ?_
    refine lv_bipush (v := 40) hx hb dL_act_89 (by decide) ?_
    refine lv_idiv hx hb dL_act_91 (by decide) ?_
    refine lv_bipush (v := 10) hx hb dL_act_92 (by decide) ?_
    refine lv_irem hx hb dL_act_94 (by decide) ?_
    refine lv_iload_n hx hb dL_act_95 rfl (lv_at hl 3 rfl) ?_
    refine lv_sipush (v := 400) hx hb dL_act_96 (by decide) ?_
    refine lv_idiv hx hb dL_act_99 (by decide) ?_
    refine lv_bipush (v := 10) hx hb dL_act_100 (by decide) ?_
    refine lv_irem hx hb dL_act_102 (by decide) ?_
    refine gCHl (n2 := 4) (rest := []) C0 wcw_L_move wn_L (by decide +kernel) wl_L_134 wt_L_move ⟨Nat.le_of_ble_eq_true rfl, Nat.le_of_ble_eq_true rfl⟩ ⟨gRcl (by omega), gRsl (by omega)⟩ [.ref (gB Γ + 0), .int ((a2 / (4 : Int32)) - (a2 / (4 : Int32)) / (10 : Int32) * (10 : Int32)), .int ((a2 / (40 : Int32)) - (a2 / (40 : Int32)) / (10 : Int32) * (10 : Int32)), .int ((a2 / (400 : Int32)) - (a2 / (400 : Int32)) / (10 : Int32) * (10 : Int32))] rfl (Nat.le_of_ble_eq_true rfl) hP hS hl.1 dL_act_103 h (fun u hu => m_L_move l hst Γ ((a2 / (4 : Int32)) - (a2 / (4 : Int32)) / (10 : Int32) * (10 : Int32)) ((a2 / (40 : Int32)) - (a2 / (40 : Int32)) / (10 : Int32) * (10 : Int32)) ((a2 / (400 : Int32)) - (a2 / (400 : Int32)) / (10 : Int32) * (10 : Int32)) g u hu) (fun u10 H locs h hP hS => ?_) rfl
    refine W.widen (k := 5) (n := 30) (by omega) (by omega) ?_
    exact glret hx hb hr hlk hP hS dL_act_106 h
  replace h := gneg c9 h
  by_cases c11 : (a1 - a1 / (18 : Int32) * (18 : Int32)) = (7 : Int32)
  · replace h := gpos c11 h
    refine lv_tableIn (tgt := 107) hx hb dL_act_8 (by rw [c11]; decide) (by rw [c11]; decide) (by rw [c11]; rfl) (by decide) ?_
    refine lv_iload_n hx hb dL_act_107 rfl (lv_at hl 3 rfl) ?_
    refine lv_iconst (v := 5) hx hb dL_act_108 (by decide) ?_
    refine lv_irem hx hb dL_act_109 (by decide) ?_
    refine lv_if_ne (tgt := 126) hx hb dL_act_110 (by decide) (fun c12 => ?_) (fun c12 => ?_)
    · replace h := gneg c12 h
      refine lv_aload_n hx hb dL_act_126 rfl (lv_at hl 1 rfl) ?_
      refine gCHl (n2 := 1) (rest := []) C0 wcw_L_addTeam wn_L (by decide +kernel) wl_L_139 wt_L_addTeam ⟨Nat.le_of_ble_eq_true rfl, Nat.le_of_ble_eq_true rfl⟩ ⟨gRcl (by omega), gRsl (by omega)⟩ [.ref (gB Γ + 0)] rfl (Nat.le_of_ble_eq_true rfl) hP hS hl.1 dL_act_127 h (fun u hu => m_L_addTeam l hst Γ g u hu) (fun u13 H locs h hP hS => ?_) rfl
      refine W.widen (k := 5) (n := 30) (by omega) (by omega) ?_
      exact glret hx hb hr hlk hP hS dL_act_130 h
    · replace h := gpos c12 h
      refine lv_aload_n hx hb dL_act_113 rfl (lv_at hl 1 rfl) ?_
      refine lv_iload_n hx hb dL_act_114 rfl (lv_at hl 3 rfl) ?_
      refine lv_iconst (v := 4) hx hb dL_act_115 (by decide) ?_
      refine lv_idiv hx hb dL_act_116 (by decide) ?_
      refine lv_bipush (v := 10) hx hb dL_act_117 (by decide) ?_
      refine lv_irem hx hb dL_act_119 (by decide) ?_
      refine gCHl (n2 := 2) (rest := []) C0 wcw_L_ease wn_L (by decide +kernel) wl_L_137 wt_L_ease ⟨Nat.le_of_ble_eq_true rfl, Nat.le_of_ble_eq_true rfl⟩ ⟨gRcl (by omega), gRsl (by omega)⟩ [.ref (gB Γ + 0), .int ((a2 / (4 : Int32)) - (a2 / (4 : Int32)) / (10 : Int32) * (10 : Int32))] rfl (Nat.le_of_ble_eq_true rfl) hP hS hl.1 dL_act_120 h (fun u hu => m_L_ease l hst Γ ((a2 / (4 : Int32)) - (a2 / (4 : Int32)) / (10 : Int32) * (10 : Int32)) g u hu) (fun u14 H locs h hP hS => ?_) rfl
      refine lv_goto (tgt := 130) hx hb dL_act_123 (by decide) ?_
      refine W.widen (k := 5) (n := 30) (by omega) (by omega) ?_
      exact glret hx hb hr hlk hP hS dL_act_130 h
  replace h := gneg c11 h
  by_cases c15 : (a1 - a1 / (18 : Int32) * (18 : Int32)) = (8 : Int32)
  · replace h := gpos c15 h
    refine lv_tableIn (tgt := 131) hx hb dL_act_8 (by rw [c15]; decide) (by rw [c15]; decide) (by rw [c15]; rfl) (by decide) ?_
    refine lv_aload_n hx hb dL_act_131 rfl (lv_at hl 1 rfl) ?_
    refine gCHl (n2 := 1) (rest := []) C0 wcw_L_undo wn_L (by decide +kernel) wl_L_194 wt_L_undo ⟨Nat.le_of_ble_eq_true rfl, Nat.le_of_ble_eq_true rfl⟩ ⟨gRcl (by omega), gRsl (by omega)⟩ [.ref (gB Γ + 0)] rfl (Nat.le_of_ble_eq_true rfl) hP hS hl.1 dL_act_132 h (fun u hu => m_L_undo l hst Γ g u hu) (fun u16 H locs h hP hS => ?_) rfl
    refine W.widen (k := 5) (n := 30) (by omega) (by omega) ?_
    exact glret hx hb hr hlk hP hS dL_act_135 h
  replace h := gneg c15 h
  by_cases c17 : (a1 - a1 / (18 : Int32) * (18 : Int32)) = (9 : Int32)
  · replace h := gpos c17 h
    refine lv_tableIn (tgt := 136) hx hb dL_act_8 (by rw [c17]; decide) (by rw [c17]; decide) (by rw [c17]; rfl) (by decide) ?_
    refine lv_iload_n hx hb dL_act_136 rfl (lv_at hl 3 rfl) ?_
    refine lv_iconst (v := 2) hx hb dL_act_137 (by decide) ?_
    refine lv_irem hx hb dL_act_138 (by decide) ?_
    refine lv_if_ne (tgt := 154) hx hb dL_act_139 (by decide) (fun c18 => ?_) (fun c18 => ?_)
    · replace h := gneg c18 h
      refine lv_aload_n hx hb dL_act_154 rfl (lv_at hl 1 rfl) ?_
      refine lv_iload_n hx hb dL_act_155 rfl (lv_at hl 3 rfl) ?_
      refine lv_iconst (v := 2) hx hb dL_act_156 (by decide) ?_
      refine lv_idiv hx hb dL_act_157 (by decide) ?_
      refine lv_iconst (v := 1) hx hb dL_act_158 (by decide) ?_
      refine lv_iand hx hb dL_act_159 ?_
      refine gCHl (n2 := 2) (rest := []) C0 wcw_L_restore wn_L (by decide +kernel) wl_L_164 wt_L_restore ⟨Nat.le_of_ble_eq_true rfl, Nat.le_of_ble_eq_true rfl⟩ ⟨gRcl (by omega), gRsl (by omega)⟩ [.ref (gB Γ + 0), .int ((a2 / (2 : Int32)) &&& (1 : Int32))] rfl (Nat.le_of_ble_eq_true rfl) hP hS hl.1 dL_act_160 h (fun u hu => m_L_restore l hst Γ ((a2 / (2 : Int32)) &&& (1 : Int32)) g u hu) (fun u19 H locs h hP hS => ?_) rfl
      refine W.widen (k := 5) (n := 30) (by omega) (by omega) ?_
      exact glret hx hb hr hlk hP hS dL_act_163 h
    · replace h := gpos c18 h
      refine lv_aload_n hx hb dL_act_142 rfl (lv_at hl 1 rfl) ?_
      refine lv_iload_n hx hb dL_act_143 rfl (lv_at hl 3 rfl) ?_
      refine lv_iconst (v := 2) hx hb dL_act_144 (by decide) ?_
      refine lv_idiv hx hb dL_act_145 (by decide) ?_
      refine lv_iconst (v := 1) hx hb dL_act_146 (by decide) ?_
      refine lv_iand hx hb dL_act_147 ?_
      refine gCHl (n2 := 2) (rest := []) C0 wcw_L_save wn_L (by decide +kernel) wl_L_162 wt_L_save ⟨Nat.le_of_ble_eq_true rfl, Nat.le_of_ble_eq_true rfl⟩ ⟨gRcl (by omega), gRsl (by omega)⟩ [.ref (gB Γ + 0), .int ((a2 / (2 : Int32)) &&& (1 : Int32))] rfl (Nat.le_of_ble_eq_true rfl) hP hS hl.1 dL_act_148 h (fun u hu => m_L_save l hst Γ ((a2 / (2 : Int32)) &&& (1 : Int32)) g u hu) (fun u20 H locs h hP hS => ?_) rfl
      refine lv_goto (tgt := 163) hx hb dL_act_151 (by decide) ?_
      refine W.widen (k := 5) (n := 30) (by omega) (by omega) ?_
      exact glret hx hb hr hlk hP hS dL_act_163 h
  replace h := gneg c17 h
  have nc2 := gNe c2
  simp only [show ((0 : Int32)).toInt = 0 from by decide] at nc2
  have nc3 := gNe c3
  simp only [show ((1 : Int32)).toInt = 1 from by decide] at nc3
  have nc4 := gNe c4
  simp only [show ((2 : Int32)).toInt = 2 from by decide] at nc4
  have nc5 := gNe c5
  simp only [show ((3 : Int32)).toInt = 3 from by decide] at nc5
  have nc6 := gNe c6
  simp only [show ((4 : Int32)).toInt = 4 from by decide] at nc6
  have nc7 := gNe c7
  simp only [show ((5 : Int32)).toInt = 5 from by decide] at nc7
  have nc9 := gNe c9
  simp only [show ((6 : Int32)).toInt = 6 from by decide] at nc9
  have nc11 := gNe c11
  simp only [show ((7 : Int32)).toInt = 7 from by decide] at nc11
  have nc15 := gNe c15
  simp only [show ((8 : Int32)).toInt = 8 from by decide] at nc15
  have nc17 := gNe c17
  simp only [show ((9 : Int32)).toInt = 9 from by decide] at nc17
  refine lv_tableOut (tgt := 164) hx hb dL_act_8 (gTabOut (by omega)) (by decide) ?_
  refine lv_iload_n hx hb dL_act_164 rfl (lv_at hl 3 rfl) ?_
  refine lv_iconst (v := 4) hx hb dL_act_165 (by decide) ?_
  refine lv_idiv hx hb dL_act_166 (by decide) ?_
  refine lv_bipush (v := 10) hx hb dL_act_167 (by decide) ?_
  refine lv_irem hx hb dL_act_169 (by decide) ?_
  refine lv_topi (fun x21 ex21 => ?_)
  replace h := gLetI ex21 h
  refine lv_istore (lv' := [(4, .int x21), (3, .int x1), (0, .ref (gB Γ + 0)), (1, .int a1), (2, .int a2)]) hx hb dL_act_170 hl (by decide) rfl (fun ls hl => ?_)
  refine lv_aload_n hx hb dL_act_172 rfl (lv_at hl 2 rfl) ?_
  refine lv_iconst (v := 0) hx hb dL_act_173 (by decide) ?_
  refine gCHl (n2 := 2) (rest := []) C0 wcw_L_about wn_L (by decide +kernel) wl_L_106 wt_L_about ⟨Nat.le_of_ble_eq_true rfl, Nat.le_of_ble_eq_true rfl⟩ ⟨gRcl (by omega), gRsl (by omega)⟩ [.ref (gB Γ + 0), .int (0 : Int32)] rfl (Nat.le_of_ble_eq_true rfl) hP hS hl.1 dL_act_174 h (fun u hu => m_L_about l hst Γ (0 : Int32) g u hu) (fun u22 H locs h hP hS => ?_) rfl
  refine lv_l2i hx hb dL_act_177 rfl ?_
  refine lv_topi (fun x23 ex23 => ?_)
  replace h := gLetI ex23 h
  refine lv_istore (lv' := [(5, .int x23), (4, .int x21), (3, .int x1), (0, .ref (gB Γ + 0)), (1, .int a1), (2, .int a2)]) hx hb dL_act_178 hl (by decide) rfl (fun ls hl => ?_)
  refine lv_aload_n hx hb dL_act_180 rfl (lv_at hl 3 rfl) ?_
  refine lv_iload_n hx hb dL_act_181 rfl (lv_at hl 2 rfl) ?_
  refine gCHl (n2 := 2) (rest := []) C0 wcw_L_open wn_L (by decide +kernel) wl_L_116 wt_L_open ⟨Nat.le_of_ble_eq_true rfl, Nat.le_of_ble_eq_true rfl⟩ ⟨gRcl (by omega), gRsl (by omega)⟩ [.ref (gB Γ + 0), .int x1] rfl (Nat.le_of_ble_eq_true rfl) hP hS hl.1 dL_act_182 h (fun u hu => m_L_open l hst Γ x1 u22.2 u hu) (fun u24 H locs h hP hS => ?_) rfl
  refine lv_topl (fun x25 ex25 => ?_)
  replace h := gLetI ex25 h
  refine lv_lstore (lv' := [(6, .long x25), (5, .int x23), (4, .int x21), (3, .int x1), (0, .ref (gB Γ + 0)), (1, .int a1), (2, .int a2)]) hx hb dL_act_185 hl (by decide) rfl (fun ls hl => ?_)
  refine lv_iconst (v := 0) hx hb dL_act_187 (by decide) ?_
  refine lv_istore (lv' := [(8, .int (0 : Int32)), (6, .long x25), (5, .int x23), (4, .int x21), (3, .int x1), (0, .ref (gB Γ + 0)), (1, .int a1), (2, .int a2)]) hx hb dL_act_188 hl (by decide) rfl (fun ls hl => ?_)
  exact bk_L_act_190 C0 hst  (T := (5 - 2) - 0) (by omega) gFuelL _ _ _ _ _ _ _ _ _ _ _ _ h hP hS (lv_sub hl [5, 7, 4, 3, 2, 1, 0] rfl) (by unfold gFuelL; omega) (by unfold gFuelL; omega)
