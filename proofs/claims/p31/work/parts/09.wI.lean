set_option maxHeartbeats 2000000 in
set_option maxRecDepth 20000 in
theorem bs_L_kept_892 {p : Program} {l : Launch} {e : Env} {s : State} {m : MethodId} {args : Array Value} {below : List Frame} {meth : Method} {c : Code} {Γ : gE} (C0 : gCx p s m args meth c Γ RL cL_kept 27 (some .boolean)) (hst : l.stackTraces = false)   {z : Int32 × gG}  {l1 : Int32} {g : gG} {H : Heap} {locs : List Loc} {ls : Array Slot} {cells slots N : Nat} (hr1 : cells + N ≤ 938) (hr2 : slots + 6 * N ≤ 5628) (hn_ret : 2 ≤ N)  (h : fs_L_kept_892 l1 g = some z) (hP : va_P (gD Γ) gcls (lay Γ g) H) (hS : va_S (gA Γ) s.heap H locs) (hl : lv_has ls 27 [(0, .ref (gB Γ + 0)), (1, .int l1)]) : W p l e (gRx 9 169 938 5628) s m args below meth c H locs cells slots (MQ below (gQi Γ z) args s 938 5628 (gA Γ)) (F0 m 892 ls []) := by
  unfold fs_L_kept_892 at h
  obtain ⟨hx, hb, hml, hr, hown, hts, hK, hlk, hX⟩ := id C0
  refine lv_aload_n hx hb dL_kept_892 rfl (lv_at hl 0 rfl) ?_
  refine lv_iconst (v := 0) hx hb dL_kept_893 (by decide) ?_
  refine lv_iconst (v := 3) hx hb dL_kept_894 (by decide) ?_
  refine gCHl (n2 := 3) (rest := []) C0 wcw_L_place wn_L (by decide +kernel) wl_L_111 wt_L_place ⟨Nat.le_of_ble_eq_true rfl, Nat.le_of_ble_eq_true rfl⟩ ⟨gRcl (by omega), gRsl (by omega)⟩ [.ref (gB Γ + 0), .int (0 : Int32), .int (3 : Int32)] rfl (Nat.le_of_ble_eq_true rfl) hP hS hl.1 dL_kept_895 h (fun u hu => m_L_place l hst Γ (0 : Int32) (3 : Int32) g u hu) (fun u1 H locs h hP hS => ?_) rfl
  refine lv_lconst (v := 0) hx hb dL_kept_898 (by decide) ?_
  refine lv_iconst (v := 1) hx hb dL_kept_899 (by decide) ?_
  refine lv_iload_n hx hb dL_kept_900 rfl (lv_at hl 1 rfl) ?_
  refine lv_iconst (v := 1) hx hb dL_kept_901 (by decide) ?_
  refine lv_isub hx hb dL_kept_902 ?_
  refine lv_ishl hx hb dL_kept_903 ?_
  refine lv_i2l hx hb dL_kept_904 rfl ?_
  refine gCSi (rest := []) C0 cal_L_in wl_L_172 wt_L_in ⟨Nat.le_of_ble_eq_true rfl, Nat.le_of_ble_eq_true rfl⟩ ⟨gRcl (by omega), gRsl (by omega)⟩ [.long u1.1, .long (0 : Int64), .long (((1 : Int32) <<< ((l1 - (1 : Int32)) &&& 31)).toInt64)] rfl (Nat.le_of_ble_eq_true rfl) hP hS hl.1 dL_kept_905 h (fun u hu => m_L_in l Γ u1.1 (0 : Int64) (((1 : Int32) <<< ((l1 - (1 : Int32)) &&& 31)).toInt64) u1.2 u hu) (fun u2 H locs h hP hS => ?_) rfl
  refine lv_if_eq (tgt := 915) hx hb dL_kept_908 (by decide) (fun c3 => ?_) (fun c3 => ?_)
  · replace h := gpos c3 h
    refine lv_iconst (v := 0) hx hb dL_kept_915 (by decide) ?_
    refine W.widen (k := 938) (n := 5628) (by omega) (by omega) ?_
    exact gzret0 hx hb hr hlk hP hS rfl dL_kept_916 h
  · replace h := gneg c3 h
    refine lv_iconst (v := 1) hx hb dL_kept_911 (by decide) ?_
    refine lv_goto (tgt := 916) hx hb dL_kept_912 (by decide) ?_
    refine W.widen (k := 938) (n := 5628) (by omega) (by omega) ?_
    exact gzret0 hx hb hr hlk hP hS rfl dL_kept_916 h
set_option maxHeartbeats 2000000 in
set_option maxRecDepth 20000 in
theorem bs_L_kept_812 {p : Program} {l : Launch} {e : Env} {s : State} {m : MethodId} {args : Array Value} {below : List Frame} {meth : Method} {c : Code} {Γ : gE} (C0 : gCx p s m args meth c Γ RL cL_kept 27 (some .boolean)) (hst : l.stackTraces = false)   {z : Int32 × gG}  {l1 : Int32} {l3 : Int32} {l4 : Int64} {l6 : Int64} {l8 : Int64} {l10 : Int32} {g : gG} {H : Heap} {locs : List Loc} {ls : Array Slot} {cells slots N : Nat} (hr1 : cells + N ≤ 938) (hr2 : slots + 6 * N ≤ 5628) (hn_ret : 6 ≤ N)  (h : fs_L_kept_812 l1 l3 l4 l6 l8 l10 g = some z) (hP : va_P (gD Γ) gcls (lay Γ g) H) (hS : va_S (gA Γ) s.heap H locs) (hl : lv_has ls 27 [(0, .ref (gB Γ + 0)), (1, .int l1), (3, .int l3), (4, .long l4), (6, .long l6), (8, .long l8), (10, .int l10)]) : W p l e (gRx 9 169 938 5628) s m args below meth c H locs cells slots (MQ below (gQi Γ z) args s 938 5628 (gA Γ)) (F0 m 812 ls []) := by
  unfold fs_L_kept_812 at h
  obtain ⟨hx, hb, hml, hr, hown, hts, hK, hlk, hX⟩ := id C0
  refine lv_aload_n hx hb dL_kept_812 rfl (lv_at hl 0 rfl) ?_
  refine gCVi (rest := []) C0 cal_X9_easeBy wl_L_188 wi_X9_easeBy ws_X9_easeBy ⟨Nat.le_of_ble_eq_true rfl, Nat.le_of_ble_eq_true rfl⟩ ⟨gRcl (by omega), gRsl (by omega)⟩ grv_9 [] rfl (Nat.le_of_ble_eq_true rfl) hP hS hl.1 dL_kept_813 h (fun u hu => m_X9_easeBy l Γ g u hu) (fun u1 H locs h hP hS => ?_) rfl
  refine lv_topi (fun x2 ex2 => ?_)
  replace h := gLetI ex2 h
  refine lv_istore (lv' := [(11, .int x2), (0, .ref (gB Γ + 0)), (1, .int l1), (3, .int l3), (4, .long l4), (6, .long l6), (8, .long l8), (10, .int l10)]) hx hb dL_kept_816 hl (by decide) rfl (fun ls hl => ?_)
  refine lv_iload_n hx hb dL_kept_818 rfl (lv_at hl 3 rfl) ?_
  refine lv_if_eq (tgt := 915) hx hb dL_kept_819 (by decide) (fun c3 => ?_) (fun c3 => ?_)
  · replace h := gpos c3 h
    refine lv_iconst (v := 0) hx hb dL_kept_915 (by decide) ?_
    refine W.widen (k := 938) (n := 5628) (by omega) (by omega) ?_
    exact gzret0 hx hb hr hlk hP hS rfl dL_kept_916 h
  · replace h := gneg c3 h
    refine lv_aload_n hx hb dL_kept_822 rfl (lv_at hl 1 rfl) ?_
    refine lv_iconst (v := 2) hx hb dL_kept_823 (by decide) ?_
    refine gCHl (n2 := 2) (rest := []) C0 wcw_L_about wn_L (by decide +kernel) wl_L_106 wt_L_about ⟨Nat.le_of_ble_eq_true rfl, Nat.le_of_ble_eq_true rfl⟩ ⟨gRcl (by omega), gRsl (by omega)⟩ [.ref (gB Γ + 0), .int (2 : Int32)] rfl (Nat.le_of_ble_eq_true rfl) hP hS hl.1 dL_kept_824 h (fun u hu => m_L_about l hst Γ (2 : Int32) u1.2 u hu) (fun u4 H locs h hP hS => ?_) rfl
    refine lv_iload hx hb dL_kept_827 (lv_at hl 7 rfl) ?_
    refine lv_i2l hx hb dL_kept_829 rfl ?_
    refine W.lcmp hx hb dL_kept_830 ?_
    refine lv_if_ne (tgt := 915) hx hb dL_kept_831 (by decide) (fun c5 => ?_) (fun c5 => ?_)
    · replace h := gneg c5 h
      refine lv_iconst (v := 0) hx hb dL_kept_915 (by decide) ?_
      refine W.widen (k := 938) (n := 5628) (by omega) (by omega) ?_
      exact gzret0 hx hb hr hlk hP hS rfl dL_kept_916 h
    · replace h := gpos c5 h
      refine lv_aload_n hx hb dL_kept_834 rfl (lv_at hl 1 rfl) ?_
      refine lv_iconst (v := 3) hx hb dL_kept_835 (by decide) ?_
      refine gCHl (n2 := 2) (rest := []) C0 wcw_L_about wn_L (by decide +kernel) wl_L_106 wt_L_about ⟨Nat.le_of_ble_eq_true rfl, Nat.le_of_ble_eq_true rfl⟩ ⟨gRcl (by omega), gRsl (by omega)⟩ [.ref (gB Γ + 0), .int (3 : Int32)] rfl (Nat.le_of_ble_eq_true rfl) hP hS hl.1 dL_kept_836 h (fun u hu => m_L_about l hst Γ (3 : Int32) u4.2 u hu) (fun u6 H locs h hP hS => ?_) rfl
      refine lv_lload hx hb dL_kept_839 (lv_at hl 5 rfl) ?_
      refine W.lcmp hx hb dL_kept_841 ?_
      refine lv_if_ne (tgt := 915) hx hb dL_kept_842 (by decide) (fun c7 => ?_) (fun c7 => ?_)
      · replace h := gneg c7 h
        refine lv_iconst (v := 0) hx hb dL_kept_915 (by decide) ?_
        refine W.widen (k := 938) (n := 5628) (by omega) (by omega) ?_
        exact gzret0 hx hb hr hlk hP hS rfl dL_kept_916 h
      · replace h := gpos c7 h
        refine lv_aload_n hx hb dL_kept_845 rfl (lv_at hl 1 rfl) ?_
        refine lv_iconst (v := 4) hx hb dL_kept_846 (by decide) ?_
        refine gCHl (n2 := 2) (rest := []) C0 wcw_L_about wn_L (by decide +kernel) wl_L_106 wt_L_about ⟨Nat.le_of_ble_eq_true rfl, Nat.le_of_ble_eq_true rfl⟩ ⟨gRcl (by omega), gRsl (by omega)⟩ [.ref (gB Γ + 0), .int (4 : Int32)] rfl (Nat.le_of_ble_eq_true rfl) hP hS hl.1 dL_kept_847 h (fun u hu => m_L_about l hst Γ (4 : Int32) u6.2 u hu) (fun u8 H locs h hP hS => ?_) rfl
        refine lv_lload hx hb dL_kept_850 (lv_at hl 4 rfl) ?_
        refine gCSi (rest := [.long u8.1]) C0 cal_L_many wl_L_184 wt_L_many ⟨Nat.le_of_ble_eq_true rfl, Nat.le_of_ble_eq_true rfl⟩ ⟨gRcl (by omega), gRsl (by omega)⟩ [.long l4] rfl (Nat.le_of_ble_eq_true rfl) hP hS hl.1 dL_kept_852 h (fun u hu => m_L_many l Γ l4 u8.2 u hu) (fun u9 H locs h hP hS => ?_) rfl
        refine lv_i2l hx hb dL_kept_855 rfl ?_
        refine W.lcmp hx hb dL_kept_856 ?_
        refine lv_if_ne (tgt := 915) hx hb dL_kept_857 (by decide) (fun c10 => ?_) (fun c10 => ?_)
        · replace h := gneg c10 h
          refine lv_iconst (v := 0) hx hb dL_kept_915 (by decide) ?_
          refine W.widen (k := 938) (n := 5628) (by omega) (by omega) ?_
          exact gzret0 hx hb hr hlk hP hS rfl dL_kept_916 h
        · replace h := gpos c10 h
          refine lv_aload_n hx hb dL_kept_860 rfl (lv_at hl 1 rfl) ?_
          refine lv_iconst (v := 5) hx hb dL_kept_861 (by decide) ?_
          refine gCHl (n2 := 2) (rest := []) C0 wcw_L_about wn_L (by decide +kernel) wl_L_106 wt_L_about ⟨Nat.le_of_ble_eq_true rfl, Nat.le_of_ble_eq_true rfl⟩ ⟨gRcl (by omega), gRsl (by omega)⟩ [.ref (gB Γ + 0), .int (5 : Int32)] rfl (Nat.le_of_ble_eq_true rfl) hP hS hl.1 dL_kept_862 h (fun u hu => m_L_about l hst Γ (5 : Int32) u9.2 u hu) (fun u11 H locs h hP hS => ?_) rfl
          refine lv_lload hx hb dL_kept_865 (lv_at hl 6 rfl) ?_
          refine W.lcmp hx hb dL_kept_867 ?_
          refine lv_if_ne (tgt := 915) hx hb dL_kept_868 (by decide) (fun c12 => ?_) (fun c12 => ?_)
          · replace h := gneg c12 h
            refine lv_iconst (v := 0) hx hb dL_kept_915 (by decide) ?_
            refine W.widen (k := 938) (n := 5628) (by omega) (by omega) ?_
            exact gzret0 hx hb hr hlk hP hS rfl dL_kept_916 h
          · replace h := gpos c12 h
            refine lv_aload_n hx hb dL_kept_871 rfl (lv_at hl 1 rfl) ?_
            refine gCVi (rest := []) C0 cal_X9_deadEnds wl_L_191 wi_X9_deadEnds ws_X9_deadEnds ⟨Nat.le_of_ble_eq_true rfl, Nat.le_of_ble_eq_true rfl⟩ ⟨gRcl (by omega), gRsl (by omega)⟩ grv_9 [] rfl (Nat.le_of_ble_eq_true rfl) hP hS hl.1 dL_kept_872 h (fun u hu => m_X9_deadEnds l Γ u11.2 u hu) (fun u13 H locs h hP hS => ?_) rfl
            refine lv_if_lt (tgt := 915) hx hb dL_kept_875 (by decide) (fun c14 => ?_) (fun c14 => ?_)
            · replace h := gpos c14 h
              refine lv_iconst (v := 0) hx hb dL_kept_915 (by decide) ?_
              refine W.widen (k := 938) (n := 5628) (by omega) (by omega) ?_
              exact gzret0 hx hb hr hlk hP hS rfl dL_kept_916 h
            · replace h := gneg c14 h
              refine lv_aload_n hx hb dL_kept_878 rfl (lv_at hl 1 rfl) ?_
              refine gCVi (rest := []) C0 cal_X9_deadEnds wl_L_191 wi_X9_deadEnds ws_X9_deadEnds ⟨Nat.le_of_ble_eq_true rfl, Nat.le_of_ble_eq_true rfl⟩ ⟨gRcl (by omega), gRsl (by omega)⟩ grv_9 [] rfl (Nat.le_of_ble_eq_true rfl) hP hS hl.1 dL_kept_879 h (fun u hu => m_X9_deadEnds l Γ u13.2 u hu) (fun u15 H locs h hP hS => ?_) rfl
              refine lv_if_gt (tgt := 892) hx hb dL_kept_882 (by decide) (fun c16 => ?_) (fun c16 => ?_)
              · replace h := gpos c16 h
                exact bs_L_kept_892 C0 hst  (N := (N - 4)) (by omega) (by omega) (by omega) h hP hS (lv_sub hl [1, 2] rfl)
              · replace h := gneg c16 h
                refine lv_iload hx hb dL_kept_885 (lv_at hl 0 rfl) ?_
                refine lv_bipush (v := -9) hx hb dL_kept_887 (by decide) ?_
                refine lv_icmp_ne (tgt := 915) hx hb dL_kept_889 (by decide) (fun c17 => ?_) (fun c17 => ?_)
                · replace h := gneg c17 h
                  refine lv_iconst (v := 0) hx hb dL_kept_915 (by decide) ?_
                  refine W.widen (k := 938) (n := 5628) (by omega) (by omega) ?_
                  exact gzret0 hx hb hr hlk hP hS rfl dL_kept_916 h
                · replace h := gpos c17 h
                  exact bs_L_kept_892 C0 hst  (N := (N - 4)) (by omega) (by omega) (by omega) h hP hS (lv_sub hl [1, 2] rfl)
set_option maxHeartbeats 2000000 in
set_option maxRecDepth 20000 in
theorem bs_L_kept_803 {p : Program} {l : Launch} {e : Env} {s : State} {m : MethodId} {args : Array Value} {below : List Frame} {meth : Method} {c : Code} {Γ : gE} (C0 : gCx p s m args meth c Γ RL cL_kept 27 (some .boolean)) (hst : l.stackTraces = false)   {z : Int32 × gG} {F61 : Int32 → Int32 → Int32 → Int64 → Int64 → Int64 → Int32 → Int32 → gG → Option (Int32 × gG)} {l1 : Int32} {l2 : Int32} {l3 : Int32} {l4 : Int64} {l6 : Int64} {l8 : Int64} {l11 : Int32} {s0 : Int32} {s1 : Int32} {g : gG} {H : Heap} {locs : List Loc} {ls : Array Slot} {N61 : Nat} (hF61 : ∀ (cells slots : Nat) (l1 : Int32) (l2 : Int32) (l3 : Int32) (l4 : Int64) (l6 : Int64) (l8 : Int64) (l10 : Int32) (l11 : Int32) (g : gG) (H : Heap) (locs : List Loc) (ls : Array Slot), F61 l1 l2 l3 l4 l6 l8 l10 l11 g = some z → va_P (gD Γ) gcls (lay Γ g) H → va_S (gA Γ) s.heap H locs → lv_has ls 27 [(0, .ref (gB Γ + 0)), (1, .int l1), (2, .int l2), (3, .int l3), (4, .long l4), (6, .long l6), (8, .long l8), (10, .int l10), (11, .int l11)] → cells + N61 ≤ 938 → slots + 6 * N61 ≤ 5628 → W p l e (gRx 9 169 938 5628) s m args below meth c H locs cells slots (MQ below (gQi Γ z) args s 938 5628 (gA Γ)) (F0 m 61 ls [])) {cells slots N : Nat} (hr1 : cells + N ≤ 938) (hr2 : slots + 6 * N ≤ 5628) (hn_61 : 0 + N61 ≤ N) (h : fs_L_kept_803 F61 l1 l2 l3 l4 l6 l8 l11 s0 s1 g = some z) (hP : va_P (gD Γ) gcls (lay Γ g) H) (hS : va_S (gA Γ) s.heap H locs) (hl : lv_has ls 27 [(0, .ref (gB Γ + 0)), (1, .int l1), (2, .int l2), (3, .int l3), (4, .long l4), (6, .long l6), (8, .long l8), (11, .int l11)]) : W p l e (gRx 9 169 938 5628) s m args below meth c H locs cells slots (MQ below (gQi Γ z) args s 938 5628 (gA Γ)) (F0 m 803 ls [.int s1, .int s0]) := by
  unfold fs_L_kept_803 at h
  obtain ⟨hx, hb, hml, hr, hown, hts, hK, hlk, hX⟩ := id C0
  refine lv_iadd hx hb dL_kept_803 ?_
  refine lv_topi (fun x1 ex1 => ?_)
  replace h := gLetI ex1 h
  refine lv_istore (lv' := [(10, .int x1), (0, .ref (gB Γ + 0)), (1, .int l1), (2, .int l2), (3, .int l3), (4, .long l4), (6, .long l6), (8, .long l8), (11, .int l11)]) hx hb dL_kept_804 hl (by decide) rfl (fun ls hl => ?_)
  obtain ⟨x2, ex2⟩ : ∃ y : Int32, y = l11 + (1 : Int32) := ⟨_, rfl⟩
  replace h := gLetI ex2 h
  refine lv_iinc (v := x2) (lv' := [(11, .int x2), (10, .int x1), (0, .ref (gB Γ + 0)), (1, .int l1), (2, .int l2), (3, .int l3), (4, .long l4), (6, .long l6), (8, .long l8)]) hx hb dL_kept_806 hl (k := 8) rfl (by rw [ex2]; rfl) (by decide) rfl (fun ls hl => ?_)
  refine lv_goto (tgt := 61) hx hb dL_kept_809 (by decide) ?_
  exact hF61 _ _ _ _ _ _ _ _ _ _ _ _ _ _ h hP hS (lv_sub hl [2, 3, 4, 5, 6, 7, 8, 1, 0] rfl) (by omega) (by omega)
set_option maxHeartbeats 2000000 in
set_option maxRecDepth 20000 in
theorem bs_L_kept_777 {p : Program} {l : Launch} {e : Env} {s : State} {m : MethodId} {args : Array Value} {below : List Frame} {meth : Method} {c : Code} {Γ : gE} (C0 : gCx p s m args meth c Γ RL cL_kept 27 (some .boolean)) (hst : l.stackTraces = false)   {z : Int32 × gG} {F61 : Int32 → Int32 → Int32 → Int64 → Int64 → Int64 → Int32 → Int32 → gG → Option (Int32 × gG)} {l1 : Int32} {l2 : Int32} {l3 : Int32} {l4 : Int64} {l8 : Int64} {l10 : Int32} {l11 : Int32} {l15 : Int32} {s0 : Int64} {g : gG} {H : Heap} {locs : List Loc} {ls : Array Slot} {N61 : Nat} (hF61 : ∀ (cells slots : Nat) (l1 : Int32) (l2 : Int32) (l3 : Int32) (l4 : Int64) (l6 : Int64) (l8 : Int64) (l10 : Int32) (l11 : Int32) (g : gG) (H : Heap) (locs : List Loc) (ls : Array Slot), F61 l1 l2 l3 l4 l6 l8 l10 l11 g = some z → va_P (gD Γ) gcls (lay Γ g) H → va_S (gA Γ) s.heap H locs → lv_has ls 27 [(0, .ref (gB Γ + 0)), (1, .int l1), (2, .int l2), (3, .int l3), (4, .long l4), (6, .long l6), (8, .long l8), (10, .int l10), (11, .int l11)] → cells + N61 ≤ 938 → slots + 6 * N61 ≤ 5628 → W p l e (gRx 9 169 938 5628) s m args below meth c H locs cells slots (MQ below (gQi Γ z) args s 938 5628 (gA Γ)) (F0 m 61 ls [])) {cells slots N : Nat} (hr1 : cells + N ≤ 938) (hr2 : slots + 6 * N ≤ 5628) (hn_61 : 2 + N61 ≤ N) (h : fs_L_kept_777 F61 l1 l2 l3 l4 l8 l10 l11 l15 s0 g = some z) (hP : va_P (gD Γ) gcls (lay Γ g) H) (hS : va_S (gA Γ) s.heap H locs) (hl : lv_has ls 27 [(0, .ref (gB Γ + 0)), (1, .int l1), (2, .int l2), (3, .int l3), (4, .long l4), (8, .long l8), (10, .int l10), (11, .int l11), (15, .int l15)]) : W p l e (gRx 9 169 938 5628) s m args below meth c H locs cells slots (MQ below (gQi Γ z) args s 938 5628 (gA Γ)) (F0 m 777 ls [.long s0]) := by
  unfold fs_L_kept_777 at h
  obtain ⟨hx, hb, hml, hr, hown, hts, hK, hlk, hX⟩ := id C0
  refine lv_lstore (lv' := [(6, .long s0), (0, .ref (gB Γ + 0)), (1, .int l1), (2, .int l2), (3, .int l3), (4, .long l4), (8, .long l8), (10, .int l10), (11, .int l11), (15, .int l15)]) hx hb dL_kept_777 hl (by decide) rfl (fun ls hl => ?_)
  refine lv_lload hx hb dL_kept_779 (lv_at hl 6 rfl) ?_
  refine lv_aload_n hx hb dL_kept_781 rfl (lv_at hl 1 rfl) ?_
  refine lv_iload hx hb dL_kept_782 (lv_at hl 8 rfl) ?_
  refine lv_iconst (v := 3) hx hb dL_kept_784 (by decide) ?_
  refine gCHl (n2 := 3) (rest := [.long l8]) C0 wcw_L_team wn_L (by decide +kernel) wl_L_114 wt_L_team ⟨Nat.le_of_ble_eq_true rfl, Nat.le_of_ble_eq_true rfl⟩ ⟨gRcl (by omega), gRsl (by omega)⟩ [.ref (gB Γ + 0), .int l11, .int (3 : Int32)] rfl (Nat.le_of_ble_eq_true rfl) hP hS hl.1 dL_kept_785 h (fun u hu => m_L_team l hst Γ l11 (3 : Int32) g u hu) (fun u1 H locs h hP hS => ?_) rfl
  refine lv_ladd hx hb dL_kept_788 ?_
  refine lv_topl (fun x2 ex2 => ?_)
  replace h := gLetI ex2 h
  refine lv_lstore (lv' := [(8, .long x2), (6, .long s0), (0, .ref (gB Γ + 0)), (1, .int l1), (2, .int l2), (3, .int l3), (4, .long l4), (10, .int l10), (11, .int l11), (15, .int l15)]) hx hb dL_kept_789 hl (by decide) rfl (fun ls hl => ?_)
  refine lv_iload hx hb dL_kept_791 (lv_at hl 7 rfl) ?_
  refine lv_iload hx hb dL_kept_793 (lv_at hl 9 rfl) ?_
  refine lv_if_eq (tgt := 802) hx hb dL_kept_795 (by decide) (fun c3 => ?_) (fun c3 => ?_)
  · replace h := gpos c3 h
    refine lv_iconst (v := 0) hx hb dL_kept_802 (by decide) ?_
    exact bs_L_kept_803 C0 hst hF61 (N := (N - 2)) (by omega) (by omega) (by omega) h hP hS (lv_sub hl [2, 3, 4, 5, 6, 1, 0, 8] rfl)
  · replace h := gneg c3 h
    refine lv_iconst (v := 1) hx hb dL_kept_798 (by decide) ?_
    refine lv_goto (tgt := 803) hx hb dL_kept_799 (by decide) ?_
    exact bs_L_kept_803 C0 hst hF61 (N := (N - 2)) (by omega) (by omega) (by omega) h hP hS (lv_sub hl [2, 3, 4, 5, 6, 1, 0, 8] rfl)
set_option maxHeartbeats 2000000 in
set_option maxRecDepth 20000 in
theorem bs_L_kept_754 {p : Program} {l : Launch} {e : Env} {s : State} {m : MethodId} {args : Array Value} {below : List Frame} {meth : Method} {c : Code} {Γ : gE} (C0 : gCx p s m args meth c Γ RL cL_kept 27 (some .boolean)) (hst : l.stackTraces = false)   {z : Int32 × gG} {F61 : Int32 → Int32 → Int32 → Int64 → Int64 → Int64 → Int32 → Int32 → gG → Option (Int32 × gG)} {l1 : Int32} {l2 : Int32} {l4 : Int64} {l6 : Int64} {l8 : Int64} {l10 : Int32} {l11 : Int32} {l12 : Int64} {l15 : Int32} {l16 : Int64} {s0 : Int32} {g : gG} {H : Heap} {locs : List Loc} {ls : Array Slot} {N61 : Nat} (hF61 : ∀ (cells slots : Nat) (l1 : Int32) (l2 : Int32) (l3 : Int32) (l4 : Int64) (l6 : Int64) (l8 : Int64) (l10 : Int32) (l11 : Int32) (g : gG) (H : Heap) (locs : List Loc) (ls : Array Slot), F61 l1 l2 l3 l4 l6 l8 l10 l11 g = some z → va_P (gD Γ) gcls (lay Γ g) H → va_S (gA Γ) s.heap H locs → lv_has ls 27 [(0, .ref (gB Γ + 0)), (1, .int l1), (2, .int l2), (3, .int l3), (4, .long l4), (6, .long l6), (8, .long l8), (10, .int l10), (11, .int l11)] → cells + N61 ≤ 938 → slots + 6 * N61 ≤ 5628 → W p l e (gRx 9 169 938 5628) s m args below meth c H locs cells slots (MQ below (gQi Γ z) args s 938 5628 (gA Γ)) (F0 m 61 ls [])) {cells slots N : Nat} (hr1 : cells + N ≤ 938) (hr2 : slots + 6 * N ≤ 5628) (hn_61 : 2 + N61 ≤ N) (h : fs_L_kept_754 F61 l1 l2 l4 l6 l8 l10 l11 l12 l15 l16 s0 g = some z) (hP : va_P (gD Γ) gcls (lay Γ g) H) (hS : va_S (gA Γ) s.heap H locs) (hl : lv_has ls 27 [(0, .ref (gB Γ + 0)), (1, .int l1), (2, .int l2), (4, .long l4), (6, .long l6), (8, .long l8), (10, .int l10), (11, .int l11), (12, .long l12), (15, .int l15), (16, .long l16)]) : W p l e (gRx 9 169 938 5628) s m args below meth c H locs cells slots (MQ below (gQi Γ z) args s 938 5628 (gA Γ)) (F0 m 754 ls [.int s0]) := by
  unfold fs_L_kept_754 at h
  obtain ⟨hx, hb, hml, hr, hown, hts, hK, hlk, hX⟩ := id C0
  refine lv_istore_n (lv' := [(3, .int s0), (0, .ref (gB Γ + 0)), (1, .int l1), (2, .int l2), (4, .long l4), (6, .long l6), (8, .long l8), (10, .int l10), (11, .int l11), (12, .long l12), (15, .int l15), (16, .long l16)]) hx hb dL_kept_754 rfl hl (by decide) rfl (fun ls hl => ?_)
  refine lv_lload hx hb dL_kept_755 (lv_at hl 4 rfl) ?_
  refine lv_lload hx hb dL_kept_757 (lv_at hl 9 rfl) ?_
  refine lv_lor hx hb dL_kept_759 ?_
  refine lv_topl (fun x1 ex1 => ?_)
  replace h := gLetI ex1 h
  refine lv_lstore (lv' := [(4, .long x1), (3, .int s0), (0, .ref (gB Γ + 0)), (1, .int l1), (2, .int l2), (6, .long l6), (8, .long l8), (10, .int l10), (11, .int l11), (12, .long l12), (15, .int l15), (16, .long l16)]) hx hb dL_kept_760 hl (by decide) rfl (fun ls hl => ?_)
  refine lv_lload hx hb dL_kept_762 (lv_at hl 11 rfl) ?_
  refine lv_lload hx hb dL_kept_764 (lv_at hl 5 rfl) ?_
  refine W.lcmp hx hb dL_kept_766 ?_
  refine lv_if_le (tgt := 775) hx hb dL_kept_767 (by decide) (fun c2 => ?_) (fun c2 => ?_)
  · replace h := gpos c2 h
    refine lv_lload hx hb dL_kept_775 (lv_at hl 5 rfl) ?_
    exact bs_L_kept_777 C0 hst hF61 (N := (N - 0)) (by omega) (by omega) (by omega) h hP hS (lv_sub hl [2, 3, 4, 1, 0, 6, 7, 8, 10] rfl)
  · replace h := gneg c2 h
    refine lv_lload hx hb dL_kept_770 (lv_at hl 11 rfl) ?_
    refine lv_goto (tgt := 777) hx hb dL_kept_772 (by decide) ?_
    exact bs_L_kept_777 C0 hst hF61 (N := (N - 0)) (by omega) (by omega) (by omega) h hP hS (lv_sub hl [2, 3, 4, 1, 0, 6, 7, 8, 10] rfl)
set_option maxHeartbeats 2000000 in
set_option maxRecDepth 20000 in
theorem bs_L_kept_753 {p : Program} {l : Launch} {e : Env} {s : State} {m : MethodId} {args : Array Value} {below : List Frame} {meth : Method} {c : Code} {Γ : gE} (C0 : gCx p s m args meth c Γ RL cL_kept 27 (some .boolean)) (hst : l.stackTraces = false)   {z : Int32 × gG} {F61 : Int32 → Int32 → Int32 → Int64 → Int64 → Int64 → Int32 → Int32 → gG → Option (Int32 × gG)} {l1 : Int32} {l2 : Int32} {l4 : Int64} {l6 : Int64} {l8 : Int64} {l10 : Int32} {l11 : Int32} {l12 : Int64} {l15 : Int32} {l16 : Int64} {g : gG} {H : Heap} {locs : List Loc} {ls : Array Slot} {N61 : Nat} (hF61 : ∀ (cells slots : Nat) (l1 : Int32) (l2 : Int32) (l3 : Int32) (l4 : Int64) (l6 : Int64) (l8 : Int64) (l10 : Int32) (l11 : Int32) (g : gG) (H : Heap) (locs : List Loc) (ls : Array Slot), F61 l1 l2 l3 l4 l6 l8 l10 l11 g = some z → va_P (gD Γ) gcls (lay Γ g) H → va_S (gA Γ) s.heap H locs → lv_has ls 27 [(0, .ref (gB Γ + 0)), (1, .int l1), (2, .int l2), (3, .int l3), (4, .long l4), (6, .long l6), (8, .long l8), (10, .int l10), (11, .int l11)] → cells + N61 ≤ 938 → slots + 6 * N61 ≤ 5628 → W p l e (gRx 9 169 938 5628) s m args below meth c H locs cells slots (MQ below (gQi Γ z) args s 938 5628 (gA Γ)) (F0 m 61 ls [])) {cells slots N : Nat} (hr1 : cells + N ≤ 938) (hr2 : slots + 6 * N ≤ 5628) (hn_61 : 2 + N61 ≤ N) (h : fs_L_kept_753 F61 l1 l2 l4 l6 l8 l10 l11 l12 l15 l16 g = some z) (hP : va_P (gD Γ) gcls (lay Γ g) H) (hS : va_S (gA Γ) s.heap H locs) (hl : lv_has ls 27 [(0, .ref (gB Γ + 0)), (1, .int l1), (2, .int l2), (4, .long l4), (6, .long l6), (8, .long l8), (10, .int l10), (11, .int l11), (12, .long l12), (15, .int l15), (16, .long l16)]) : W p l e (gRx 9 169 938 5628) s m args below meth c H locs cells slots (MQ below (gQi Γ z) args s 938 5628 (gA Γ)) (F0 m 753 ls []) := by
  unfold fs_L_kept_753 at h
  obtain ⟨hx, hb, hml, hr, hown, hts, hK, hlk, hX⟩ := id C0
  refine lv_iconst (v := 0) hx hb dL_kept_753 (by decide) ?_
  exact bs_L_kept_754 C0 hst hF61 (N := (N - 0)) (by omega) (by omega) (by omega) h hP hS (lv_sub hl [0, 1, 2, 3, 4, 5, 6, 7, 8, 9, 10] rfl)
set_option maxHeartbeats 2000000 in
set_option maxRecDepth 20000 in
theorem bs_L_kept_749 {p : Program} {l : Launch} {e : Env} {s : State} {m : MethodId} {args : Array Value} {below : List Frame} {meth : Method} {c : Code} {Γ : gE} (C0 : gCx p s m args meth c Γ RL cL_kept 27 (some .boolean)) (hst : l.stackTraces = false)   {z : Int32 × gG} {F61 : Int32 → Int32 → Int32 → Int64 → Int64 → Int64 → Int32 → Int32 → gG → Option (Int32 × gG)} {l1 : Int32} {l2 : Int32} {l4 : Int64} {l6 : Int64} {l8 : Int64} {l10 : Int32} {l11 : Int32} {l12 : Int64} {l15 : Int32} {l16 : Int64} {g : gG} {H : Heap} {locs : List Loc} {ls : Array Slot} {N61 : Nat} (hF61 : ∀ (cells slots : Nat) (l1 : Int32) (l2 : Int32) (l3 : Int32) (l4 : Int64) (l6 : Int64) (l8 : Int64) (l10 : Int32) (l11 : Int32) (g : gG) (H : Heap) (locs : List Loc) (ls : Array Slot), F61 l1 l2 l3 l4 l6 l8 l10 l11 g = some z → va_P (gD Γ) gcls (lay Γ g) H → va_S (gA Γ) s.heap H locs → lv_has ls 27 [(0, .ref (gB Γ + 0)), (1, .int l1), (2, .int l2), (3, .int l3), (4, .long l4), (6, .long l6), (8, .long l8), (10, .int l10), (11, .int l11)] → cells + N61 ≤ 938 → slots + 6 * N61 ≤ 5628 → W p l e (gRx 9 169 938 5628) s m args below meth c H locs cells slots (MQ below (gQi Γ z) args s 938 5628 (gA Γ)) (F0 m 61 ls [])) {cells slots N : Nat} (hr1 : cells + N ≤ 938) (hr2 : slots + 6 * N ≤ 5628) (hn_61 : 2 + N61 ≤ N) (h : fs_L_kept_749 F61 l1 l2 l4 l6 l8 l10 l11 l12 l15 l16 g = some z) (hP : va_P (gD Γ) gcls (lay Γ g) H) (hS : va_S (gA Γ) s.heap H locs) (hl : lv_has ls 27 [(0, .ref (gB Γ + 0)), (1, .int l1), (2, .int l2), (4, .long l4), (6, .long l6), (8, .long l8), (10, .int l10), (11, .int l11), (12, .long l12), (15, .int l15), (16, .long l16)]) : W p l e (gRx 9 169 938 5628) s m args below meth c H locs cells slots (MQ below (gQi Γ z) args s 938 5628 (gA Γ)) (F0 m 749 ls []) := by
  unfold fs_L_kept_749 at h
  obtain ⟨hx, hb, hml, hr, hown, hts, hK, hlk, hX⟩ := id C0
  refine lv_iconst (v := 1) hx hb dL_kept_749 (by decide) ?_
  refine lv_goto (tgt := 754) hx hb dL_kept_750 (by decide) ?_
  exact bs_L_kept_754 C0 hst hF61 (N := (N - 0)) (by omega) (by omega) (by omega) h hP hS (lv_sub hl [0, 1, 2, 3, 4, 5, 6, 7, 8, 9, 10] rfl)
set_option maxHeartbeats 2000000 in
set_option maxRecDepth 20000 in
theorem bs_L_kept_642 {p : Program} {l : Launch} {e : Env} {s : State} {m : MethodId} {args : Array Value} {below : List Frame} {meth : Method} {c : Code} {Γ : gE} (C0 : gCx p s m args meth c Γ RL cL_kept 27 (some .boolean)) (hst : l.stackTraces = false)   {z : Int32 × gG} {F61 : Int32 → Int32 → Int32 → Int64 → Int64 → Int64 → Int32 → Int32 → gG → Option (Int32 × gG)} {l1 : Int32} {l2 : Int32} {l4 : Int64} {l6 : Int64} {l8 : Int64} {l10 : Int32} {l11 : Int32} {l12 : Int64} {l15 : Int32} {l16 : Int64} {l22 : Int32} {l23 : Int64} {l25 : Int64} {g : gG} {H : Heap} {locs : List Loc} {ls : Array Slot} {N61 : Nat} (hF61 : ∀ (cells slots : Nat) (l1 : Int32) (l2 : Int32) (l3 : Int32) (l4 : Int64) (l6 : Int64) (l8 : Int64) (l10 : Int32) (l11 : Int32) (g : gG) (H : Heap) (locs : List Loc) (ls : Array Slot), F61 l1 l2 l3 l4 l6 l8 l10 l11 g = some z → va_P (gD Γ) gcls (lay Γ g) H → va_S (gA Γ) s.heap H locs → lv_has ls 27 [(0, .ref (gB Γ + 0)), (1, .int l1), (2, .int l2), (3, .int l3), (4, .long l4), (6, .long l6), (8, .long l8), (10, .int l10), (11, .int l11)] → cells + N61 ≤ 938 → slots + 6 * N61 ≤ 5628 → W p l e (gRx 9 169 938 5628) s m args below meth c H locs cells slots (MQ below (gQi Γ z) args s 938 5628 (gA Γ)) (F0 m 61 ls [])) {cells slots N : Nat} (hr1 : cells + N ≤ 938) (hr2 : slots + 6 * N ≤ 5628) (hn_61 : 10 + N61 ≤ N) (h : fs_L_kept_642 F61 l1 l2 l4 l6 l8 l10 l11 l12 l15 l16 l22 l23 l25 g = some z) (hP : va_P (gD Γ) gcls (lay Γ g) H) (hS : va_S (gA Γ) s.heap H locs) (hl : lv_has ls 27 [(0, .ref (gB Γ + 0)), (1, .int l1), (2, .int l2), (4, .long l4), (6, .long l6), (8, .long l8), (10, .int l10), (11, .int l11), (12, .long l12), (15, .int l15), (16, .long l16), (22, .int l22), (23, .long l23), (25, .long l25)]) : W p l e (gRx 9 169 938 5628) s m args below meth c H locs cells slots (MQ below (gQi Γ z) args s 938 5628 (gA Γ)) (F0 m 642 ls []) := by
  unfold fs_L_kept_642 at h
  obtain ⟨hx, hb, hml, hr, hown, hts, hK, hlk, hX⟩ := id C0
  refine lv_iload hx hb dL_kept_642 (lv_at hl 9 rfl) ?_
  refine lv_if_eq (tgt := 688) hx hb dL_kept_644 (by decide) (fun c1 => ?_) (fun c1 => ?_)
  · replace h := gpos c1 h
    refine lv_iload hx hb dL_kept_688 (lv_at hl 11 rfl) ?_
    refine lv_if_ne (tgt := 749) hx hb dL_kept_690 (by decide) (fun c2 => ?_) (fun c2 => ?_)
    · replace h := gneg c2 h
      exact bs_L_kept_749 C0 hst hF61 (N := (N - 0)) (by omega) (by omega) (by omega) h hP hS (lv_sub hl [0, 1, 2, 3, 4, 5, 6, 7, 8, 9, 10] rfl)
    · replace h := gpos c2 h
      refine lv_aload_n hx hb dL_kept_693 rfl (lv_at hl 0 rfl) ?_
      refine lv_iload hx hb dL_kept_694 (lv_at hl 7 rfl) ?_
      refine lv_iconst (v := 0) hx hb dL_kept_696 (by decide) ?_
      refine gCHl (n2 := 3) (rest := []) C0 wcw_L_shortest wn_L (by decide +kernel) wl_L_141 wt_L_shortest ⟨Nat.le_of_ble_eq_true rfl, Nat.le_of_ble_eq_true rfl⟩ ⟨gRcl (by omega), gRsl (by omega)⟩ [.ref (gB Γ + 0), .int l11, .int (0 : Int32)] rfl (Nat.le_of_ble_eq_true rfl) hP hS hl.1 dL_kept_697 h (fun u hu => m_L_shortest l hst Γ l11 (0 : Int32) g u hu) (fun u3 H locs h hP hS => ?_) rfl
      refine lv_ldc2 (v := -9) hx hb hown (hts _ wkl_L_178) dL_kept_700 ?_
      refine W.lcmp hx hb dL_kept_703 ?_
      refine lv_if_ne (tgt := 753) hx hb dL_kept_704 (by decide) (fun c4 => ?_) (fun c4 => ?_)
      · replace h := gneg c4 h
        exact bs_L_kept_753 C0 hst hF61 (N := (N - 2)) (by omega) (by omega) (by omega) h hP hS (lv_sub hl [0, 1, 2, 3, 4, 5, 6, 7, 8, 9, 10] rfl)
      · replace h := gpos c4 h
        refine lv_aload_n hx hb dL_kept_707 rfl (lv_at hl 0 rfl) ?_
        refine lv_iload hx hb dL_kept_708 (lv_at hl 7 rfl) ?_
        refine lv_iconst (v := 1) hx hb dL_kept_710 (by decide) ?_
        refine gCHl (n2 := 3) (rest := []) C0 wcw_L_shortest wn_L (by decide +kernel) wl_L_141 wt_L_shortest ⟨Nat.le_of_ble_eq_true rfl, Nat.le_of_ble_eq_true rfl⟩ ⟨gRcl (by omega), gRsl (by omega)⟩ [.ref (gB Γ + 0), .int l11, .int (1 : Int32)] rfl (Nat.le_of_ble_eq_true rfl) hP hS hl.1 dL_kept_711 h (fun u hu => m_L_shortest l hst Γ l11 (1 : Int32) u3.2 u hu) (fun u5 H locs h hP hS => ?_) rfl
        refine lv_ldc2 (v := -9) hx hb hown (hts _ wkl_L_178) dL_kept_714 ?_
        refine W.lcmp hx hb dL_kept_717 ?_
        refine lv_if_ne (tgt := 753) hx hb dL_kept_718 (by decide) (fun c6 => ?_) (fun c6 => ?_)
        · replace h := gneg c6 h
          exact bs_L_kept_753 C0 hst hF61 (N := (N - 4)) (by omega) (by omega) (by omega) h hP hS (lv_sub hl [0, 1, 2, 3, 4, 5, 6, 7, 8, 9, 10] rfl)
        · replace h := gpos c6 h
          refine lv_aload_n hx hb dL_kept_721 rfl (lv_at hl 0 rfl) ?_
          refine lv_iload hx hb dL_kept_722 (lv_at hl 7 rfl) ?_
          refine lv_iconst (v := 0) hx hb dL_kept_724 (by decide) ?_
          refine gCHl (n2 := 3) (rest := []) C0 wcw_L_quickest wn_L (by decide +kernel) wl_L_143 wt_L_quickest ⟨Nat.le_of_ble_eq_true rfl, Nat.le_of_ble_eq_true rfl⟩ ⟨gRcl (by omega), gRsl (by omega)⟩ [.ref (gB Γ + 0), .int l11, .int (0 : Int32)] rfl (Nat.le_of_ble_eq_true rfl) hP hS hl.1 dL_kept_725 h (fun u hu => m_L_quickest l hst Γ l11 (0 : Int32) u5.2 u hu) (fun u7 H locs h hP hS => ?_) rfl
          refine lv_ldc2 (v := -9) hx hb hown (hts _ wkl_L_178) dL_kept_728 ?_
          refine W.lcmp hx hb dL_kept_731 ?_
          refine lv_if_ne (tgt := 753) hx hb dL_kept_732 (by decide) (fun c8 => ?_) (fun c8 => ?_)
          · replace h := gneg c8 h
            exact bs_L_kept_753 C0 hst hF61 (N := (N - 6)) (by omega) (by omega) (by omega) h hP hS (lv_sub hl [0, 1, 2, 3, 4, 5, 6, 7, 8, 9, 10] rfl)
          · replace h := gpos c8 h
            refine lv_aload_n hx hb dL_kept_735 rfl (lv_at hl 0 rfl) ?_
            refine lv_iload hx hb dL_kept_736 (lv_at hl 7 rfl) ?_
            refine lv_iconst (v := 1) hx hb dL_kept_738 (by decide) ?_
            refine gCHl (n2 := 3) (rest := []) C0 wcw_L_quickest wn_L (by decide +kernel) wl_L_143 wt_L_quickest ⟨Nat.le_of_ble_eq_true rfl, Nat.le_of_ble_eq_true rfl⟩ ⟨gRcl (by omega), gRsl (by omega)⟩ [.ref (gB Γ + 0), .int l11, .int (1 : Int32)] rfl (Nat.le_of_ble_eq_true rfl) hP hS hl.1 dL_kept_739 h (fun u hu => m_L_quickest l hst Γ l11 (1 : Int32) u7.2 u hu) (fun u9 H locs h hP hS => ?_) rfl
            refine lv_ldc2 (v := -9) hx hb hown (hts _ wkl_L_178) dL_kept_742 ?_
            refine W.lcmp hx hb dL_kept_745 ?_
            refine lv_if_ne (tgt := 753) hx hb dL_kept_746 (by decide) (fun c10 => ?_) (fun c10 => ?_)
            · replace h := gneg c10 h
              exact bs_L_kept_753 C0 hst hF61 (N := (N - 8)) (by omega) (by omega) (by omega) h hP hS (lv_sub hl [0, 1, 2, 3, 4, 5, 6, 7, 8, 9, 10] rfl)
            · replace h := gpos c10 h
              exact bs_L_kept_749 C0 hst hF61 (N := (N - 8)) (by omega) (by omega) (by omega) h hP hS (lv_sub hl [0, 1, 2, 3, 4, 5, 6, 7, 8, 9, 10] rfl)
  · replace h := gneg c1 h
    refine lv_aload_n hx hb dL_kept_647 rfl (lv_at hl 0 rfl) ?_
    refine lv_iload hx hb dL_kept_648 (lv_at hl 7 rfl) ?_
    refine lv_iconst (v := 0) hx hb dL_kept_650 (by decide) ?_
    refine gCHl (n2 := 3) (rest := []) C0 wcw_L_shortest wn_L (by decide +kernel) wl_L_141 wt_L_shortest ⟨Nat.le_of_ble_eq_true rfl, Nat.le_of_ble_eq_true rfl⟩ ⟨gRcl (by omega), gRsl (by omega)⟩ [.ref (gB Γ + 0), .int l11, .int (0 : Int32)] rfl (Nat.le_of_ble_eq_true rfl) hP hS hl.1 dL_kept_651 h (fun u hu => m_L_shortest l hst Γ l11 (0 : Int32) g u hu) (fun u11 H locs h hP hS => ?_) rfl
    refine lv_lconst (v := 0) hx hb dL_kept_654 (by decide) ?_
    refine W.lcmp hx hb dL_kept_655 ?_
    refine lv_if_ne (tgt := 753) hx hb dL_kept_656 (by decide) (fun c12 => ?_) (fun c12 => ?_)
    · replace h := gneg c12 h
      exact bs_L_kept_753 C0 hst hF61 (N := (N - 2)) (by omega) (by omega) (by omega) h hP hS (lv_sub hl [0, 1, 2, 3, 4, 5, 6, 7, 8, 9, 10] rfl)
    · replace h := gpos c12 h
      refine lv_aload_n hx hb dL_kept_659 rfl (lv_at hl 0 rfl) ?_
      refine lv_iload hx hb dL_kept_660 (lv_at hl 7 rfl) ?_
      refine lv_iconst (v := 0) hx hb dL_kept_662 (by decide) ?_
      refine gCHl (n2 := 3) (rest := []) C0 wcw_L_quickest wn_L (by decide +kernel) wl_L_143 wt_L_quickest ⟨Nat.le_of_ble_eq_true rfl, Nat.le_of_ble_eq_true rfl⟩ ⟨gRcl (by omega), gRsl (by omega)⟩ [.ref (gB Γ + 0), .int l11, .int (0 : Int32)] rfl (Nat.le_of_ble_eq_true rfl) hP hS hl.1 dL_kept_663 h (fun u hu => m_L_quickest l hst Γ l11 (0 : Int32) u11.2 u hu) (fun u13 H locs h hP hS => ?_) rfl
      refine lv_lconst (v := 0) hx hb dL_kept_666 (by decide) ?_
      refine W.lcmp hx hb dL_kept_667 ?_
      refine lv_if_ne (tgt := 753) hx hb dL_kept_668 (by decide) (fun c14 => ?_) (fun c14 => ?_)
      · replace h := gneg c14 h
        exact bs_L_kept_753 C0 hst hF61 (N := (N - 4)) (by omega) (by omega) (by omega) h hP hS (lv_sub hl [0, 1, 2, 3, 4, 5, 6, 7, 8, 9, 10] rfl)
      · replace h := gpos c14 h
        refine lv_lload hx hb dL_kept_671 (lv_at hl 12 rfl) ?_
        refine lv_lconst (v := 1) hx hb dL_kept_673 (by decide) ?_
        refine W.lcmp hx hb dL_kept_674 ?_
        refine lv_if_ne (tgt := 753) hx hb dL_kept_675 (by decide) (fun c15 => ?_) (fun c15 => ?_)
        · replace h := gneg c15 h
          exact bs_L_kept_753 C0 hst hF61 (N := (N - 4)) (by omega) (by omega) (by omega) h hP hS (lv_sub hl [0, 1, 2, 3, 4, 5, 6, 7, 8, 9, 10] rfl)
        · replace h := gpos c15 h
          refine lv_lload hx hb dL_kept_678 (lv_at hl 13 rfl) ?_
          refine lv_lconst (v := 0) hx hb dL_kept_680 (by decide) ?_
          refine W.lcmp hx hb dL_kept_681 ?_
          refine lv_if_ne (tgt := 753) hx hb dL_kept_682 (by decide) (fun c16 => ?_) (fun c16 => ?_)
          · replace h := gneg c16 h
            exact bs_L_kept_753 C0 hst hF61 (N := (N - 4)) (by omega) (by omega) (by omega) h hP hS (lv_sub hl [0, 1, 2, 3, 4, 5, 6, 7, 8, 9, 10] rfl)
          · replace h := gpos c16 h
            refine lv_goto (tgt := 749) hx hb dL_kept_685 (by decide) ?_
            exact bs_L_kept_749 C0 hst hF61 (N := (N - 4)) (by omega) (by omega) (by omega) h hP hS (lv_sub hl [0, 1, 2, 3, 4, 5, 6, 7, 8, 9, 10] rfl)
set_option maxHeartbeats 2000000 in
set_option maxRecDepth 20000 in
theorem bs_L_kept_546 {p : Program} {l : Launch} {e : Env} {s : State} {m : MethodId} {args : Array Value} {below : List Frame} {meth : Method} {c : Code} {Γ : gE} (C0 : gCx p s m args meth c Γ RL cL_kept 27 (some .boolean)) (hst : l.stackTraces = false)   {z : Int32 × gG} {F61 : Int32 → Int32 → Int32 → Int64 → Int64 → Int64 → Int32 → Int32 → gG → Option (Int32 × gG)} {l1 : Int32} {l2 : Int32} {l4 : Int64} {l6 : Int64} {l8 : Int64} {l10 : Int32} {l11 : Int32} {l12 : Int64} {l15 : Int32} {l16 : Int64} {l20 : Int64} {l22 : Int32} {l23 : Int64} {l25 : Int64} {s0 : Int32} {s1 : Int32} {g : gG} {H : Heap} {locs : List Loc} {ls : Array Slot} {N61 : Nat} (hF61 : ∀ (cells slots : Nat) (l1 : Int32) (l2 : Int32) (l3 : Int32) (l4 : Int64) (l6 : Int64) (l8 : Int64) (l10 : Int32) (l11 : Int32) (g : gG) (H : Heap) (locs : List Loc) (ls : Array Slot), F61 l1 l2 l3 l4 l6 l8 l10 l11 g = some z → va_P (gD Γ) gcls (lay Γ g) H → va_S (gA Γ) s.heap H locs → lv_has ls 27 [(0, .ref (gB Γ + 0)), (1, .int l1), (2, .int l2), (3, .int l3), (4, .long l4), (6, .long l6), (8, .long l8), (10, .int l10), (11, .int l11)] → cells + N61 ≤ 938 → slots + 6 * N61 ≤ 5628 → W p l e (gRx 9 169 938 5628) s m args below meth c H locs cells slots (MQ below (gQi Γ z) args s 938 5628 (gA Γ)) (F0 m 61 ls [])) {cells slots N : Nat} (hr1 : cells + N ≤ 938) (hr2 : slots + 6 * N ≤ 5628) (hn_61 : 20 + N61 ≤ N) (h : fs_L_kept_546 F61 l1 l2 l4 l6 l8 l10 l11 l12 l15 l16 l20 l22 l23 l25 s0 s1 g = some z) (hP : va_P (gD Γ) gcls (lay Γ g) H) (hS : va_S (gA Γ) s.heap H locs) (hl : lv_has ls 27 [(0, .ref (gB Γ + 0)), (1, .int l1), (2, .int l2), (4, .long l4), (6, .long l6), (8, .long l8), (10, .int l10), (11, .int l11), (12, .long l12), (15, .int l15), (16, .long l16), (20, .long l20), (22, .int l22), (23, .long l23), (25, .long l25)]) : W p l e (gRx 9 169 938 5628) s m args below meth c H locs cells slots (MQ below (gQi Γ z) args s 938 5628 (gA Γ)) (F0 m 546 ls [.int s1, .int s0]) := by
  unfold fs_L_kept_546 at h
  obtain ⟨hx, hb, hml, hr, hown, hts, hK, hlk, hX⟩ := id C0
  refine lv_icmp_ne (tgt := 753) hx hb dL_kept_546 (by decide) (fun c1 => ?_) (fun c1 => ?_)
  · replace h := gneg c1 h
    exact bs_L_kept_753 C0 hst hF61 (N := (N - 0)) (by omega) (by omega) (by omega) h hP hS (lv_sub hl [0, 1, 2, 3, 4, 5, 6, 7, 8, 9, 10] rfl)
  · replace h := gpos c1 h
    refine lv_iload hx hb dL_kept_549 (lv_at hl 12 rfl) ?_
    refine lv_if_eq (tgt := 642) hx hb dL_kept_551 (by decide) (fun c2 => ?_) (fun c2 => ?_)
    · replace h := gpos c2 h
      exact bs_L_kept_642 C0 hst hF61 (N := (N - 0)) (by omega) (by omega) (by omega) h hP hS (lv_sub hl [0, 1, 2, 3, 4, 5, 6, 7, 8, 9, 10, 12, 13, 14] rfl)
    · replace h := gneg c2 h
      refine lv_lload hx hb dL_kept_554 (lv_at hl 14 rfl) ?_
      refine lv_iload_n hx hb dL_kept_556 rfl (lv_at hl 1 rfl) ?_
      refine lv_iconst (v := 1) hx hb dL_kept_557 (by decide) ?_
      refine lv_isub hx hb dL_kept_558 ?_
      refine gCSi (rest := []) C0 cal_L_has wl_L_147 wt_L_has ⟨Nat.le_of_ble_eq_true rfl, Nat.le_of_ble_eq_true rfl⟩ ⟨gRcl (by omega), gRsl (by omega)⟩ [.long l25, .int (l1 - (1 : Int32))] rfl (Nat.le_of_ble_eq_true rfl) hP hS hl.1 dL_kept_559 h (fun u hu => m_L_has l Γ l25 (l1 - (1 : Int32)) g u hu) (fun u3 H locs h hP hS => ?_) rfl
      refine lv_if_eq (tgt := 753) hx hb dL_kept_562 (by decide) (fun c4 => ?_) (fun c4 => ?_)
      · replace h := gpos c4 h
        exact bs_L_kept_753 C0 hst hF61 (N := (N - 0)) (by omega) (by omega) (by omega) h hP hS (lv_sub hl [0, 1, 2, 3, 4, 5, 6, 7, 8, 9, 10] rfl)
      · replace h := gneg c4 h
        refine lv_lload hx hb dL_kept_565 (lv_at hl 14 rfl) ?_
        refine lv_lload hx hb dL_kept_567 (lv_at hl 8 rfl) ?_
        refine lv_land hx hb dL_kept_569 ?_
        refine lv_lconst (v := 0) hx hb dL_kept_570 (by decide) ?_
        refine W.lcmp hx hb dL_kept_571 ?_
        refine lv_if_ne (tgt := 753) hx hb dL_kept_572 (by decide) (fun c5 => ?_) (fun c5 => ?_)
        · replace h := gneg c5 h
          exact bs_L_kept_753 C0 hst hF61 (N := (N - 0)) (by omega) (by omega) (by omega) h hP hS (lv_sub hl [0, 1, 2, 3, 4, 5, 6, 7, 8, 9, 10] rfl)
        · replace h := gpos c5 h
          refine lv_lload hx hb dL_kept_575 (lv_at hl 14 rfl) ?_
          refine gCSi (rest := []) C0 cal_L_many wl_L_184 wt_L_many ⟨Nat.le_of_ble_eq_true rfl, Nat.le_of_ble_eq_true rfl⟩ ⟨gRcl (by omega), gRsl (by omega)⟩ [.long l25] rfl (Nat.le_of_ble_eq_true rfl) hP hS hl.1 dL_kept_577 h (fun u hu => m_L_many l Γ l25 u3.2 u hu) (fun u6 H locs h hP hS => ?_) rfl
          refine lv_i2l hx hb dL_kept_580 rfl ?_
          refine lv_aload_n hx hb dL_kept_581 rfl (lv_at hl 0 rfl) ?_
          refine lv_iload hx hb dL_kept_582 (lv_at hl 7 rfl) ?_
          refine lv_iconst (v := 0) hx hb dL_kept_584 (by decide) ?_
          refine gCHl (n2 := 3) (rest := [.long u6.1.toInt64]) C0 wcw_L_shortest wn_L (by decide +kernel) wl_L_141 wt_L_shortest ⟨Nat.le_of_ble_eq_true rfl, Nat.le_of_ble_eq_true rfl⟩ ⟨gRcl (by omega), gRsl (by omega)⟩ [.ref (gB Γ + 0), .int l11, .int (0 : Int32)] rfl (Nat.le_of_ble_eq_true rfl) hP hS hl.1 dL_kept_585 h (fun u hu => m_L_shortest l hst Γ l11 (0 : Int32) u6.2 u hu) (fun u7 H locs h hP hS => ?_) rfl
          refine W.lcmp hx hb dL_kept_588 ?_
          refine lv_if_gt (tgt := 753) hx hb dL_kept_589 (by decide) (fun c8 => ?_) (fun c8 => ?_)
          · replace h := gpos c8 h
            exact bs_L_kept_753 C0 hst hF61 (N := (N - 2)) (by omega) (by omega) (by omega) h hP hS (lv_sub hl [0, 1, 2, 3, 4, 5, 6, 7, 8, 9, 10] rfl)
          · replace h := gneg c8 h
            refine lv_aload_n hx hb dL_kept_592 rfl (lv_at hl 0 rfl) ?_
            refine lv_iload hx hb dL_kept_593 (lv_at hl 7 rfl) ?_
            refine lv_iconst (v := 0) hx hb dL_kept_595 (by decide) ?_
            refine gCHl (n2 := 3) (rest := []) C0 wcw_L_shortest wn_L (by decide +kernel) wl_L_141 wt_L_shortest ⟨Nat.le_of_ble_eq_true rfl, Nat.le_of_ble_eq_true rfl⟩ ⟨gRcl (by omega), gRsl (by omega)⟩ [.ref (gB Γ + 0), .int l11, .int (0 : Int32)] rfl (Nat.le_of_ble_eq_true rfl) hP hS hl.1 dL_kept_596 h (fun u hu => m_L_shortest l hst Γ l11 (0 : Int32) u7.2 u hu) (fun u9 H locs h hP hS => ?_) rfl
            refine lv_aload_n hx hb dL_kept_599 rfl (lv_at hl 0 rfl) ?_
            refine lv_iload hx hb dL_kept_600 (lv_at hl 7 rfl) ?_
            refine lv_iconst (v := 0) hx hb dL_kept_602 (by decide) ?_
            refine gCHl (n2 := 3) (rest := [.long u9.1]) C0 wcw_L_quickest wn_L (by decide +kernel) wl_L_143 wt_L_quickest ⟨Nat.le_of_ble_eq_true rfl, Nat.le_of_ble_eq_true rfl⟩ ⟨gRcl (by omega), gRsl (by omega)⟩ [.ref (gB Γ + 0), .int l11, .int (0 : Int32)] rfl (Nat.le_of_ble_eq_true rfl) hP hS hl.1 dL_kept_603 h (fun u hu => m_L_quickest l hst Γ l11 (0 : Int32) u9.2 u hu) (fun u10 H locs h hP hS => ?_) rfl
            refine W.lcmp hx hb dL_kept_606 ?_
            refine lv_if_gt (tgt := 753) hx hb dL_kept_607 (by decide) (fun c11 => ?_) (fun c11 => ?_)
            · replace h := gpos c11 h
              exact bs_L_kept_753 C0 hst hF61 (N := (N - 6)) (by omega) (by omega) (by omega) h hP hS (lv_sub hl [0, 1, 2, 3, 4, 5, 6, 7, 8, 9, 10] rfl)
            · replace h := gneg c11 h
              refine lv_lload hx hb dL_kept_610 (lv_at hl 11 rfl) ?_
              refine lv_aload_n hx hb dL_kept_612 rfl (lv_at hl 0 rfl) ?_
              refine lv_iload hx hb dL_kept_613 (lv_at hl 7 rfl) ?_
              refine lv_iconst (v := 1) hx hb dL_kept_615 (by decide) ?_
              refine gCHl (n2 := 3) (rest := [.long l20]) C0 wcw_L_shortest wn_L (by decide +kernel) wl_L_141 wt_L_shortest ⟨Nat.le_of_ble_eq_true rfl, Nat.le_of_ble_eq_true rfl⟩ ⟨gRcl (by omega), gRsl (by omega)⟩ [.ref (gB Γ + 0), .int l11, .int (1 : Int32)] rfl (Nat.le_of_ble_eq_true rfl) hP hS hl.1 dL_kept_616 h (fun u hu => m_L_shortest l hst Γ l11 (1 : Int32) u10.2 u hu) (fun u12 H locs h hP hS => ?_) rfl
              refine lv_l2i hx hb dL_kept_619 rfl ?_
              refine gCSi (rest := []) C0 cal_L_has wl_L_147 wt_L_has ⟨Nat.le_of_ble_eq_true rfl, Nat.le_of_ble_eq_true rfl⟩ ⟨gRcl (by omega), gRsl (by omega)⟩ [.long l20, .int u12.1.toInt32] rfl (Nat.le_of_ble_eq_true rfl) hP hS hl.1 dL_kept_620 h (fun u hu => m_L_has l Γ l20 u12.1.toInt32 u12.2 u hu) (fun u13 H locs h hP hS => ?_) rfl
              refine lv_if_eq (tgt := 753) hx hb dL_kept_623 (by decide) (fun c14 => ?_) (fun c14 => ?_)
              · replace h := gpos c14 h
                exact bs_L_kept_753 C0 hst hF61 (N := (N - 8)) (by omega) (by omega) (by omega) h hP hS (lv_sub hl [0, 1, 2, 3, 4, 5, 6, 7, 8, 9, 10] rfl)
              · replace h := gneg c14 h
                refine lv_lload hx hb dL_kept_626 (lv_at hl 11 rfl) ?_
                refine lv_aload_n hx hb dL_kept_628 rfl (lv_at hl 0 rfl) ?_
                refine lv_iload hx hb dL_kept_629 (lv_at hl 7 rfl) ?_
                refine lv_iconst (v := 1) hx hb dL_kept_631 (by decide) ?_
                refine gCHl (n2 := 3) (rest := [.long l20]) C0 wcw_L_quickest wn_L (by decide +kernel) wl_L_143 wt_L_quickest ⟨Nat.le_of_ble_eq_true rfl, Nat.le_of_ble_eq_true rfl⟩ ⟨gRcl (by omega), gRsl (by omega)⟩ [.ref (gB Γ + 0), .int l11, .int (1 : Int32)] rfl (Nat.le_of_ble_eq_true rfl) hP hS hl.1 dL_kept_632 h (fun u hu => m_L_quickest l hst Γ l11 (1 : Int32) u13.2 u hu) (fun u15 H locs h hP hS => ?_) rfl
                refine lv_l2i hx hb dL_kept_635 rfl ?_
                refine gCSi (rest := []) C0 cal_L_has wl_L_147 wt_L_has ⟨Nat.le_of_ble_eq_true rfl, Nat.le_of_ble_eq_true rfl⟩ ⟨gRcl (by omega), gRsl (by omega)⟩ [.long l20, .int u15.1.toInt32] rfl (Nat.le_of_ble_eq_true rfl) hP hS hl.1 dL_kept_636 h (fun u hu => m_L_has l Γ l20 u15.1.toInt32 u15.2 u hu) (fun u16 H locs h hP hS => ?_) rfl
                refine lv_if_eq (tgt := 753) hx hb dL_kept_639 (by decide) (fun c17 => ?_) (fun c17 => ?_)
                · replace h := gpos c17 h
                  exact bs_L_kept_753 C0 hst hF61 (N := (N - 10)) (by omega) (by omega) (by omega) h hP hS (lv_sub hl [0, 1, 2, 3, 4, 5, 6, 7, 8, 9, 10] rfl)
                · replace h := gneg c17 h
                  exact bs_L_kept_642 C0 hst hF61 (N := (N - 10)) (by omega) (by omega) (by omega) h hP hS (lv_sub hl [0, 1, 2, 3, 4, 5, 6, 7, 8, 9, 10, 12, 13, 14] rfl)
set_option maxHeartbeats 2000000 in
set_option maxRecDepth 20000 in
theorem bs_L_kept_545 {p : Program} {l : Launch} {e : Env} {s : State} {m : MethodId} {args : Array Value} {below : List Frame} {meth : Method} {c : Code} {Γ : gE} (C0 : gCx p s m args meth c Γ RL cL_kept 27 (some .boolean)) (hst : l.stackTraces = false)   {z : Int32 × gG} {F61 : Int32 → Int32 → Int32 → Int64 → Int64 → Int64 → Int32 → Int32 → gG → Option (Int32 × gG)} {l1 : Int32} {l2 : Int32} {l4 : Int64} {l6 : Int64} {l8 : Int64} {l10 : Int32} {l11 : Int32} {l12 : Int64} {l15 : Int32} {l16 : Int64} {l20 : Int64} {l22 : Int32} {l23 : Int64} {l25 : Int64} {s0 : Int32} {g : gG} {H : Heap} {locs : List Loc} {ls : Array Slot} {N61 : Nat} (hF61 : ∀ (cells slots : Nat) (l1 : Int32) (l2 : Int32) (l3 : Int32) (l4 : Int64) (l6 : Int64) (l8 : Int64) (l10 : Int32) (l11 : Int32) (g : gG) (H : Heap) (locs : List Loc) (ls : Array Slot), F61 l1 l2 l3 l4 l6 l8 l10 l11 g = some z → va_P (gD Γ) gcls (lay Γ g) H → va_S (gA Γ) s.heap H locs → lv_has ls 27 [(0, .ref (gB Γ + 0)), (1, .int l1), (2, .int l2), (3, .int l3), (4, .long l4), (6, .long l6), (8, .long l8), (10, .int l10), (11, .int l11)] → cells + N61 ≤ 938 → slots + 6 * N61 ≤ 5628 → W p l e (gRx 9 169 938 5628) s m args below meth c H locs cells slots (MQ below (gQi Γ z) args s 938 5628 (gA Γ)) (F0 m 61 ls [])) {cells slots N : Nat} (hr1 : cells + N ≤ 938) (hr2 : slots + 6 * N ≤ 5628) (hn_61 : 20 + N61 ≤ N) (h : fs_L_kept_545 F61 l1 l2 l4 l6 l8 l10 l11 l12 l15 l16 l20 l22 l23 l25 s0 g = some z) (hP : va_P (gD Γ) gcls (lay Γ g) H) (hS : va_S (gA Γ) s.heap H locs) (hl : lv_has ls 27 [(0, .ref (gB Γ + 0)), (1, .int l1), (2, .int l2), (4, .long l4), (6, .long l6), (8, .long l8), (10, .int l10), (11, .int l11), (12, .long l12), (15, .int l15), (16, .long l16), (20, .long l20), (22, .int l22), (23, .long l23), (25, .long l25)]) : W p l e (gRx 9 169 938 5628) s m args below meth c H locs cells slots (MQ below (gQi Γ z) args s 938 5628 (gA Γ)) (F0 m 545 ls [.int s0]) := by
  unfold fs_L_kept_545 at h
  obtain ⟨hx, hb, hml, hr, hown, hts, hK, hlk, hX⟩ := id C0
  refine lv_iconst (v := 0) hx hb dL_kept_545 (by decide) ?_
  exact bs_L_kept_546 C0 hst hF61 (N := (N - 0)) (by omega) (by omega) (by omega) h hP hS (lv_sub hl [0, 1, 2, 3, 4, 5, 6, 7, 8, 9, 10, 11, 12, 13, 14] rfl)
set_option maxHeartbeats 2000000 in
set_option maxRecDepth 20000 in
theorem bs_L_kept_531 {p : Program} {l : Launch} {e : Env} {s : State} {m : MethodId} {args : Array Value} {below : List Frame} {meth : Method} {c : Code} {Γ : gE} (C0 : gCx p s m args meth c Γ RL cL_kept 27 (some .boolean)) (hst : l.stackTraces = false)   {z : Int32 × gG} {F61 : Int32 → Int32 → Int32 → Int64 → Int64 → Int64 → Int32 → Int32 → gG → Option (Int32 × gG)} {l1 : Int32} {l2 : Int32} {l4 : Int64} {l6 : Int64} {l8 : Int64} {l10 : Int32} {l11 : Int32} {l12 : Int64} {l15 : Int32} {l16 : Int64} {l20 : Int64} {l22 : Int32} {l23 : Int64} {l25 : Int64} {s0 : Int32} {g : gG} {H : Heap} {locs : List Loc} {ls : Array Slot} {N61 : Nat} (hF61 : ∀ (cells slots : Nat) (l1 : Int32) (l2 : Int32) (l3 : Int32) (l4 : Int64) (l6 : Int64) (l8 : Int64) (l10 : Int32) (l11 : Int32) (g : gG) (H : Heap) (locs : List Loc) (ls : Array Slot), F61 l1 l2 l3 l4 l6 l8 l10 l11 g = some z → va_P (gD Γ) gcls (lay Γ g) H → va_S (gA Γ) s.heap H locs → lv_has ls 27 [(0, .ref (gB Γ + 0)), (1, .int l1), (2, .int l2), (3, .int l3), (4, .long l4), (6, .long l6), (8, .long l8), (10, .int l10), (11, .int l11)] → cells + N61 ≤ 938 → slots + 6 * N61 ≤ 5628 → W p l e (gRx 9 169 938 5628) s m args below meth c H locs cells slots (MQ below (gQi Γ z) args s 938 5628 (gA Γ)) (F0 m 61 ls [])) {cells slots N : Nat} (hr1 : cells + N ≤ 938) (hr2 : slots + 6 * N ≤ 5628) (hn_61 : 20 + N61 ≤ N) (h : fs_L_kept_531 F61 l1 l2 l4 l6 l8 l10 l11 l12 l15 l16 l20 l22 l23 l25 s0 g = some z) (hP : va_P (gD Γ) gcls (lay Γ g) H) (hS : va_S (gA Γ) s.heap H locs) (hl : lv_has ls 27 [(0, .ref (gB Γ + 0)), (1, .int l1), (2, .int l2), (4, .long l4), (6, .long l6), (8, .long l8), (10, .int l10), (11, .int l11), (12, .long l12), (15, .int l15), (16, .long l16), (20, .long l20), (22, .int l22), (23, .long l23), (25, .long l25)]) : W p l e (gRx 9 169 938 5628) s m args below meth c H locs cells slots (MQ below (gQi Γ z) args s 938 5628 (gA Γ)) (F0 m 531 ls [.int s0]) := by
  unfold fs_L_kept_531 at h
  obtain ⟨hx, hb, hml, hr, hown, hts, hK, hlk, hX⟩ := id C0
  refine lv_iload hx hb dL_kept_531 (lv_at hl 9 rfl) ?_
  refine lv_if_ne (tgt := 545) hx hb dL_kept_533 (by decide) (fun c1 => ?_) (fun c1 => ?_)
  · replace h := gneg c1 h
    exact bs_L_kept_545 C0 hst hF61 (N := (N - 0)) (by omega) (by omega) (by omega) h hP hS (lv_sub hl [0, 1, 2, 3, 4, 5, 6, 7, 8, 9, 10, 11, 12, 13, 14] rfl)
  · replace h := gpos c1 h
    refine lv_iload hx hb dL_kept_536 (lv_at hl 12 rfl) ?_
    refine lv_if_ne (tgt := 545) hx hb dL_kept_538 (by decide) (fun c2 => ?_) (fun c2 => ?_)
    · replace h := gneg c2 h
      exact bs_L_kept_545 C0 hst hF61 (N := (N - 0)) (by omega) (by omega) (by omega) h hP hS (lv_sub hl [0, 1, 2, 3, 4, 5, 6, 7, 8, 9, 10, 11, 12, 13, 14] rfl)
    · replace h := gpos c2 h
      refine lv_iconst (v := 1) hx hb dL_kept_541 (by decide) ?_
      refine lv_goto (tgt := 546) hx hb dL_kept_542 (by decide) ?_
      exact bs_L_kept_546 C0 hst hF61 (N := (N - 0)) (by omega) (by omega) (by omega) h hP hS (lv_sub hl [0, 1, 2, 3, 4, 5, 6, 7, 8, 9, 10, 11, 12, 13, 14] rfl)
set_option maxHeartbeats 2000000 in
set_option maxRecDepth 20000 in
theorem bs_L_kept_514 {p : Program} {l : Launch} {e : Env} {s : State} {m : MethodId} {args : Array Value} {below : List Frame} {meth : Method} {c : Code} {Γ : gE} (C0 : gCx p s m args meth c Γ RL cL_kept 27 (some .boolean)) (hst : l.stackTraces = false)   {z : Int32 × gG} {F61 : Int32 → Int32 → Int32 → Int64 → Int64 → Int64 → Int32 → Int32 → gG → Option (Int32 × gG)} {l1 : Int32} {l2 : Int32} {l4 : Int64} {l6 : Int64} {l8 : Int64} {l10 : Int32} {l11 : Int32} {l12 : Int64} {l15 : Int32} {l16 : Int64} {l20 : Int64} {l22 : Int32} {l23 : Int64} {l25 : Int64} {s0 : Int32} {s1 : Int32} {g : gG} {H : Heap} {locs : List Loc} {ls : Array Slot} {N61 : Nat} (hF61 : ∀ (cells slots : Nat) (l1 : Int32) (l2 : Int32) (l3 : Int32) (l4 : Int64) (l6 : Int64) (l8 : Int64) (l10 : Int32) (l11 : Int32) (g : gG) (H : Heap) (locs : List Loc) (ls : Array Slot), F61 l1 l2 l3 l4 l6 l8 l10 l11 g = some z → va_P (gD Γ) gcls (lay Γ g) H → va_S (gA Γ) s.heap H locs → lv_has ls 27 [(0, .ref (gB Γ + 0)), (1, .int l1), (2, .int l2), (3, .int l3), (4, .long l4), (6, .long l6), (8, .long l8), (10, .int l10), (11, .int l11)] → cells + N61 ≤ 938 → slots + 6 * N61 ≤ 5628 → W p l e (gRx 9 169 938 5628) s m args below meth c H locs cells slots (MQ below (gQi Γ z) args s 938 5628 (gA Γ)) (F0 m 61 ls [])) {cells slots N : Nat} (hr1 : cells + N ≤ 938) (hr2 : slots + 6 * N ≤ 5628) (hn_61 : 20 + N61 ≤ N) (h : fs_L_kept_514 F61 l1 l2 l4 l6 l8 l10 l11 l12 l15 l16 l20 l22 l23 l25 s0 s1 g = some z) (hP : va_P (gD Γ) gcls (lay Γ g) H) (hS : va_S (gA Γ) s.heap H locs) (hl : lv_has ls 27 [(0, .ref (gB Γ + 0)), (1, .int l1), (2, .int l2), (4, .long l4), (6, .long l6), (8, .long l8), (10, .int l10), (11, .int l11), (12, .long l12), (15, .int l15), (16, .long l16), (20, .long l20), (22, .int l22), (23, .long l23), (25, .long l25)]) : W p l e (gRx 9 169 938 5628) s m args below meth c H locs cells slots (MQ below (gQi Γ z) args s 938 5628 (gA Γ)) (F0 m 514 ls [.int s1, .int s0]) := by
  unfold fs_L_kept_514 at h
  obtain ⟨hx, hb, hml, hr, hown, hts, hK, hlk, hX⟩ := id C0
  refine lv_icmp_ne (tgt := 753) hx hb dL_kept_514 (by decide) (fun c1 => ?_) (fun c1 => ?_)
  · replace h := gneg c1 h
    exact bs_L_kept_753 C0 hst hF61 (N := (N - 0)) (by omega) (by omega) (by omega) h hP hS (lv_sub hl [0, 1, 2, 3, 4, 5, 6, 7, 8, 9, 10] rfl)
  · replace h := gpos c1 h
    refine lv_lload hx hb dL_kept_517 (lv_at hl 14 rfl) ?_
    refine lv_ldc2 (v := -9) hx hb hown (hts _ wkl_L_178) dL_kept_519 ?_
    refine W.lcmp hx hb dL_kept_522 ?_
    refine lv_if_ne (tgt := 530) hx hb dL_kept_523 (by decide) (fun c2 => ?_) (fun c2 => ?_)
    · replace h := gneg c2 h
      refine lv_iconst (v := 0) hx hb dL_kept_530 (by decide) ?_
      exact bs_L_kept_531 C0 hst hF61 (N := (N - 0)) (by omega) (by omega) (by omega) h hP hS (lv_sub hl [0, 1, 2, 3, 4, 5, 6, 7, 8, 9, 10, 11, 12, 13, 14] rfl)
    · replace h := gpos c2 h
      refine lv_iconst (v := 1) hx hb dL_kept_526 (by decide) ?_
      refine lv_goto (tgt := 531) hx hb dL_kept_527 (by decide) ?_
      exact bs_L_kept_531 C0 hst hF61 (N := (N - 0)) (by omega) (by omega) (by omega) h hP hS (lv_sub hl [0, 1, 2, 3, 4, 5, 6, 7, 8, 9, 10, 11, 12, 13, 14] rfl)
set_option maxHeartbeats 2000000 in
set_option maxRecDepth 20000 in
theorem bs_L_kept_509 {p : Program} {l : Launch} {e : Env} {s : State} {m : MethodId} {args : Array Value} {below : List Frame} {meth : Method} {c : Code} {Γ : gE} (C0 : gCx p s m args meth c Γ RL cL_kept 27 (some .boolean)) (hst : l.stackTraces = false)   {z : Int32 × gG} {F61 : Int32 → Int32 → Int32 → Int64 → Int64 → Int64 → Int32 → Int32 → gG → Option (Int32 × gG)} {l1 : Int32} {l2 : Int32} {l4 : Int64} {l6 : Int64} {l8 : Int64} {l10 : Int32} {l11 : Int32} {l12 : Int64} {l15 : Int32} {l16 : Int64} {l20 : Int64} {l22 : Int32} {l23 : Int64} {l25 : Int64} {s0 : Int32} {g : gG} {H : Heap} {locs : List Loc} {ls : Array Slot} {N61 : Nat} (hF61 : ∀ (cells slots : Nat) (l1 : Int32) (l2 : Int32) (l3 : Int32) (l4 : Int64) (l6 : Int64) (l8 : Int64) (l10 : Int32) (l11 : Int32) (g : gG) (H : Heap) (locs : List Loc) (ls : Array Slot), F61 l1 l2 l3 l4 l6 l8 l10 l11 g = some z → va_P (gD Γ) gcls (lay Γ g) H → va_S (gA Γ) s.heap H locs → lv_has ls 27 [(0, .ref (gB Γ + 0)), (1, .int l1), (2, .int l2), (3, .int l3), (4, .long l4), (6, .long l6), (8, .long l8), (10, .int l10), (11, .int l11)] → cells + N61 ≤ 938 → slots + 6 * N61 ≤ 5628 → W p l e (gRx 9 169 938 5628) s m args below meth c H locs cells slots (MQ below (gQi Γ z) args s 938 5628 (gA Γ)) (F0 m 61 ls [])) {cells slots N : Nat} (hr1 : cells + N ≤ 938) (hr2 : slots + 6 * N ≤ 5628) (hn_61 : 20 + N61 ≤ N) (h : fs_L_kept_509 F61 l1 l2 l4 l6 l8 l10 l11 l12 l15 l16 l20 l22 l23 l25 s0 g = some z) (hP : va_P (gD Γ) gcls (lay Γ g) H) (hS : va_S (gA Γ) s.heap H locs) (hl : lv_has ls 27 [(0, .ref (gB Γ + 0)), (1, .int l1), (2, .int l2), (4, .long l4), (6, .long l6), (8, .long l8), (10, .int l10), (11, .int l11), (12, .long l12), (15, .int l15), (16, .long l16), (20, .long l20), (22, .int l22), (23, .long l23), (25, .long l25)]) : W p l e (gRx 9 169 938 5628) s m args below meth c H locs cells slots (MQ below (gQi Γ z) args s 938 5628 (gA Γ)) (F0 m 509 ls [.int s0]) := by
  unfold fs_L_kept_509 at h
  obtain ⟨hx, hb, hml, hr, hown, hts, hK, hlk, hX⟩ := id C0
  refine lv_iconst (v := 1) hx hb dL_kept_509 (by decide) ?_
  refine lv_goto (tgt := 514) hx hb dL_kept_510 (by decide) ?_
  exact bs_L_kept_514 C0 hst hF61 (N := (N - 0)) (by omega) (by omega) (by omega) h hP hS (lv_sub hl [0, 1, 2, 3, 4, 5, 6, 7, 8, 9, 10, 11, 12, 13, 14] rfl)
set_option maxHeartbeats 2000000 in
set_option maxRecDepth 20000 in
theorem bs_L_kept_499 {p : Program} {l : Launch} {e : Env} {s : State} {m : MethodId} {args : Array Value} {below : List Frame} {meth : Method} {c : Code} {Γ : gE} (C0 : gCx p s m args meth c Γ RL cL_kept 27 (some .boolean)) (hst : l.stackTraces = false)   {z : Int32 × gG} {F61 : Int32 → Int32 → Int32 → Int64 → Int64 → Int64 → Int32 → Int32 → gG → Option (Int32 × gG)} {l1 : Int32} {l2 : Int32} {l4 : Int64} {l6 : Int64} {l8 : Int64} {l10 : Int32} {l11 : Int32} {l12 : Int64} {l15 : Int32} {l16 : Int64} {l20 : Int64} {l22 : Int32} {l23 : Int64} {l25 : Int64} {s0 : Int32} {g : gG} {H : Heap} {locs : List Loc} {ls : Array Slot} {N61 : Nat} (hF61 : ∀ (cells slots : Nat) (l1 : Int32) (l2 : Int32) (l3 : Int32) (l4 : Int64) (l6 : Int64) (l8 : Int64) (l10 : Int32) (l11 : Int32) (g : gG) (H : Heap) (locs : List Loc) (ls : Array Slot), F61 l1 l2 l3 l4 l6 l8 l10 l11 g = some z → va_P (gD Γ) gcls (lay Γ g) H → va_S (gA Γ) s.heap H locs → lv_has ls 27 [(0, .ref (gB Γ + 0)), (1, .int l1), (2, .int l2), (3, .int l3), (4, .long l4), (6, .long l6), (8, .long l8), (10, .int l10), (11, .int l11)] → cells + N61 ≤ 938 → slots + 6 * N61 ≤ 5628 → W p l e (gRx 9 169 938 5628) s m args below meth c H locs cells slots (MQ below (gQi Γ z) args s 938 5628 (gA Γ)) (F0 m 61 ls [])) {cells slots N : Nat} (hr1 : cells + N ≤ 938) (hr2 : slots + 6 * N ≤ 5628) (hn_61 : 20 + N61 ≤ N) (h : fs_L_kept_499 F61 l1 l2 l4 l6 l8 l10 l11 l12 l15 l16 l20 l22 l23 l25 s0 g = some z) (hP : va_P (gD Γ) gcls (lay Γ g) H) (hS : va_S (gA Γ) s.heap H locs) (hl : lv_has ls 27 [(0, .ref (gB Γ + 0)), (1, .int l1), (2, .int l2), (4, .long l4), (6, .long l6), (8, .long l8), (10, .int l10), (11, .int l11), (12, .long l12), (15, .int l15), (16, .long l16), (20, .long l20), (22, .int l22), (23, .long l23), (25, .long l25)]) : W p l e (gRx 9 169 938 5628) s m args below meth c H locs cells slots (MQ below (gQi Γ z) args s 938 5628 (gA Γ)) (F0 m 499 ls [.int s0]) := by
  unfold fs_L_kept_499 at h
  obtain ⟨hx, hb, hml, hr, hown, hts, hK, hlk, hX⟩ := id C0
  refine lv_iload hx hb dL_kept_499 (lv_at hl 9 rfl) ?_
  refine lv_if_ne (tgt := 509) hx hb dL_kept_501 (by decide) (fun c1 => ?_) (fun c1 => ?_)
  · replace h := gneg c1 h
    exact bs_L_kept_509 C0 hst hF61 (N := (N - 0)) (by omega) (by omega) (by omega) h hP hS (lv_sub hl [0, 1, 2, 3, 4, 5, 6, 7, 8, 9, 10, 11, 12, 13, 14] rfl)
  · replace h := gpos c1 h
    refine lv_iload hx hb dL_kept_504 (lv_at hl 12 rfl) ?_
    refine lv_if_eq (tgt := 513) hx hb dL_kept_506 (by decide) (fun c2 => ?_) (fun c2 => ?_)
    · replace h := gpos c2 h
      refine lv_iconst (v := 0) hx hb dL_kept_513 (by decide) ?_
      exact bs_L_kept_514 C0 hst hF61 (N := (N - 0)) (by omega) (by omega) (by omega) h hP hS (lv_sub hl [0, 1, 2, 3, 4, 5, 6, 7, 8, 9, 10, 11, 12, 13, 14] rfl)
    · replace h := gneg c2 h
      exact bs_L_kept_509 C0 hst hF61 (N := (N - 0)) (by omega) (by omega) (by omega) h hP hS (lv_sub hl [0, 1, 2, 3, 4, 5, 6, 7, 8, 9, 10, 11, 12, 13, 14] rfl)
set_option maxHeartbeats 2000000 in
set_option maxRecDepth 20000 in
theorem bs_L_kept_465 {p : Program} {l : Launch} {e : Env} {s : State} {m : MethodId} {args : Array Value} {below : List Frame} {meth : Method} {c : Code} {Γ : gE} (C0 : gCx p s m args meth c Γ RL cL_kept 27 (some .boolean)) (hst : l.stackTraces = false)   {z : Int32 × gG} {F61 : Int32 → Int32 → Int32 → Int64 → Int64 → Int64 → Int32 → Int32 → gG → Option (Int32 × gG)} {l1 : Int32} {l2 : Int32} {l3 : Int32} {l4 : Int64} {l6 : Int64} {l8 : Int64} {l10 : Int32} {l11 : Int32} {l12 : Int64} {l15 : Int32} {l16 : Int64} {l20 : Int64} {s0 : Int32} {g : gG} {H : Heap} {locs : List Loc} {ls : Array Slot} {N61 : Nat} (hF61 : ∀ (cells slots : Nat) (l1 : Int32) (l2 : Int32) (l3 : Int32) (l4 : Int64) (l6 : Int64) (l8 : Int64) (l10 : Int32) (l11 : Int32) (g : gG) (H : Heap) (locs : List Loc) (ls : Array Slot), F61 l1 l2 l3 l4 l6 l8 l10 l11 g = some z → va_P (gD Γ) gcls (lay Γ g) H → va_S (gA Γ) s.heap H locs → lv_has ls 27 [(0, .ref (gB Γ + 0)), (1, .int l1), (2, .int l2), (3, .int l3), (4, .long l4), (6, .long l6), (8, .long l8), (10, .int l10), (11, .int l11)] → cells + N61 ≤ 938 → slots + 6 * N61 ≤ 5628 → W p l e (gRx 9 169 938 5628) s m args below meth c H locs cells slots (MQ below (gQi Γ z) args s 938 5628 (gA Γ)) (F0 m 61 ls [])) {cells slots N : Nat} (hr1 : cells + N ≤ 938) (hr2 : slots + 6 * N ≤ 5628) (hn_61 : 22 + N61 ≤ N) (h : fs_L_kept_465 F61 l1 l2 l3 l4 l6 l8 l10 l11 l12 l15 l16 l20 s0 g = some z) (hP : va_P (gD Γ) gcls (lay Γ g) H) (hS : va_S (gA Γ) s.heap H locs) (hl : lv_has ls 27 [(0, .ref (gB Γ + 0)), (1, .int l1), (2, .int l2), (3, .int l3), (4, .long l4), (6, .long l6), (8, .long l8), (10, .int l10), (11, .int l11), (12, .long l12), (15, .int l15), (16, .long l16), (20, .long l20)]) : W p l e (gRx 9 169 938 5628) s m args below meth c H locs cells slots (MQ below (gQi Γ z) args s 938 5628 (gA Γ)) (F0 m 465 ls [.int s0]) := by
  unfold fs_L_kept_465 at h
  obtain ⟨hx, hb, hml, hr, hown, hts, hK, hlk, hX⟩ := id C0
  refine lv_istore (lv' := [(22, .int s0), (0, .ref (gB Γ + 0)), (1, .int l1), (2, .int l2), (3, .int l3), (4, .long l4), (6, .long l6), (8, .long l8), (10, .int l10), (11, .int l11), (12, .long l12), (15, .int l15), (16, .long l16), (20, .long l20)]) hx hb dL_kept_465 hl (by decide) rfl (fun ls hl => ?_)
  refine lv_aload_n hx hb dL_kept_467 rfl (lv_at hl 1 rfl) ?_
  refine lv_iload hx hb dL_kept_468 (lv_at hl 9 rfl) ?_
  refine gCHl (n2 := 2) (rest := []) C0 wcw_L_orders wn_L (by decide +kernel) wl_L_118 wt_L_orders ⟨Nat.le_of_ble_eq_true rfl, Nat.le_of_ble_eq_true rfl⟩ ⟨gRcl (by omega), gRsl (by omega)⟩ [.ref (gB Γ + 0), .int l11] rfl (Nat.le_of_ble_eq_true rfl) hP hS hl.1 dL_kept_470 h (fun u hu => m_L_orders l hst Γ l11 g u hu) (fun u1 H locs h hP hS => ?_) rfl
  refine lv_topl (fun x2 ex2 => ?_)
  replace h := gLetI ex2 h
  refine lv_lstore (lv' := [(23, .long x2), (22, .int s0), (0, .ref (gB Γ + 0)), (1, .int l1), (2, .int l2), (3, .int l3), (4, .long l4), (6, .long l6), (8, .long l8), (10, .int l10), (11, .int l11), (12, .long l12), (15, .int l15), (16, .long l16), (20, .long l20)]) hx hb dL_kept_473 hl (by decide) rfl (fun ls hl => ?_)
  refine lv_aload_n hx hb dL_kept_475 rfl (lv_at hl 2 rfl) ?_
  refine lv_iload hx hb dL_kept_476 (lv_at hl 10 rfl) ?_
  refine gCHl (n2 := 2) (rest := []) C0 wcw_L_needed wn_L (by decide +kernel) wl_L_151 wt_L_needed ⟨Nat.le_of_ble_eq_true rfl, Nat.le_of_ble_eq_true rfl⟩ ⟨gRcl (by omega), gRsl (by omega)⟩ [.ref (gB Γ + 0), .int l11] rfl (Nat.le_of_ble_eq_true rfl) hP hS hl.1 dL_kept_478 h (fun u hu => m_L_needed l hst Γ l11 u1.2 u hu) (fun u3 H locs h hP hS => ?_) rfl
  refine lv_topl (fun x4 ex4 => ?_)
  replace h := gLetI ex4 h
  refine lv_lstore (lv' := [(25, .long x4), (23, .long x2), (22, .int s0), (0, .ref (gB Γ + 0)), (1, .int l1), (2, .int l2), (3, .int l3), (4, .long l4), (6, .long l6), (8, .long l8), (10, .int l10), (11, .int l11), (12, .long l12), (15, .int l15), (16, .long l16), (20, .long l20)]) hx hb dL_kept_481 hl (by decide) rfl (fun ls hl => ?_)
  refine lv_iload_n hx hb dL_kept_483 rfl (lv_at hl 6 rfl) ?_
  refine lv_if_eq (tgt := 753) hx hb dL_kept_484 (by decide) (fun c5 => ?_) (fun c5 => ?_)
  · replace h := gpos c5 h
    exact bs_L_kept_753 C0 hst hF61 (N := (N - 2)) (by omega) (by omega) (by omega) h hP hS (lv_sub hl [3, 4, 5, 7, 8, 9, 10, 11, 12, 13, 14] rfl)
  · replace h := gneg c5 h
    refine lv_lload hx hb dL_kept_487 (lv_at hl 1 rfl) ?_
    refine lv_lconst (v := 0) hx hb dL_kept_489 (by decide) ?_
    refine W.lcmp hx hb dL_kept_490 ?_
    refine lv_if_le (tgt := 498) hx hb dL_kept_491 (by decide) (fun c6 => ?_) (fun c6 => ?_)
    · replace h := gpos c6 h
      refine lv_iconst (v := 0) hx hb dL_kept_498 (by decide) ?_
      exact bs_L_kept_499 C0 hst hF61 (N := (N - 2)) (by omega) (by omega) (by omega) h hP hS (lv_sub hl [3, 4, 5, 7, 8, 9, 10, 11, 12, 13, 14, 15, 2, 1, 0] rfl)
    · replace h := gneg c6 h
      refine lv_iconst (v := 1) hx hb dL_kept_494 (by decide) ?_
      refine lv_goto (tgt := 499) hx hb dL_kept_495 (by decide) ?_
      exact bs_L_kept_499 C0 hst hF61 (N := (N - 2)) (by omega) (by omega) (by omega) h hP hS (lv_sub hl [3, 4, 5, 7, 8, 9, 10, 11, 12, 13, 14, 15, 2, 1, 0] rfl)
set_option maxHeartbeats 2000000 in
set_option maxRecDepth 20000 in
theorem bs_L_kept_464 {p : Program} {l : Launch} {e : Env} {s : State} {m : MethodId} {args : Array Value} {below : List Frame} {meth : Method} {c : Code} {Γ : gE} (C0 : gCx p s m args meth c Γ RL cL_kept 27 (some .boolean)) (hst : l.stackTraces = false)   {z : Int32 × gG} {F61 : Int32 → Int32 → Int32 → Int64 → Int64 → Int64 → Int32 → Int32 → gG → Option (Int32 × gG)} {l1 : Int32} {l2 : Int32} {l3 : Int32} {l4 : Int64} {l6 : Int64} {l8 : Int64} {l10 : Int32} {l11 : Int32} {l12 : Int64} {l15 : Int32} {l16 : Int64} {l20 : Int64} {g : gG} {H : Heap} {locs : List Loc} {ls : Array Slot} {N61 : Nat} (hF61 : ∀ (cells slots : Nat) (l1 : Int32) (l2 : Int32) (l3 : Int32) (l4 : Int64) (l6 : Int64) (l8 : Int64) (l10 : Int32) (l11 : Int32) (g : gG) (H : Heap) (locs : List Loc) (ls : Array Slot), F61 l1 l2 l3 l4 l6 l8 l10 l11 g = some z → va_P (gD Γ) gcls (lay Γ g) H → va_S (gA Γ) s.heap H locs → lv_has ls 27 [(0, .ref (gB Γ + 0)), (1, .int l1), (2, .int l2), (3, .int l3), (4, .long l4), (6, .long l6), (8, .long l8), (10, .int l10), (11, .int l11)] → cells + N61 ≤ 938 → slots + 6 * N61 ≤ 5628 → W p l e (gRx 9 169 938 5628) s m args below meth c H locs cells slots (MQ below (gQi Γ z) args s 938 5628 (gA Γ)) (F0 m 61 ls [])) {cells slots N : Nat} (hr1 : cells + N ≤ 938) (hr2 : slots + 6 * N ≤ 5628) (hn_61 : 22 + N61 ≤ N) (h : fs_L_kept_464 F61 l1 l2 l3 l4 l6 l8 l10 l11 l12 l15 l16 l20 g = some z) (hP : va_P (gD Γ) gcls (lay Γ g) H) (hS : va_S (gA Γ) s.heap H locs) (hl : lv_has ls 27 [(0, .ref (gB Γ + 0)), (1, .int l1), (2, .int l2), (3, .int l3), (4, .long l4), (6, .long l6), (8, .long l8), (10, .int l10), (11, .int l11), (12, .long l12), (15, .int l15), (16, .long l16), (20, .long l20)]) : W p l e (gRx 9 169 938 5628) s m args below meth c H locs cells slots (MQ below (gQi Γ z) args s 938 5628 (gA Γ)) (F0 m 464 ls []) := by
  unfold fs_L_kept_464 at h
  obtain ⟨hx, hb, hml, hr, hown, hts, hK, hlk, hX⟩ := id C0
  refine lv_iconst (v := 0) hx hb dL_kept_464 (by decide) ?_
  exact bs_L_kept_465 C0 hst hF61 (N := (N - 0)) (by omega) (by omega) (by omega) h hP hS (lv_sub hl [0, 1, 2, 3, 4, 5, 6, 7, 8, 9, 10, 11, 12] rfl)
set_option maxHeartbeats 2000000 in
set_option maxRecDepth 20000 in
theorem bs_L_kept_448 {p : Program} {l : Launch} {e : Env} {s : State} {m : MethodId} {args : Array Value} {below : List Frame} {meth : Method} {c : Code} {Γ : gE} (C0 : gCx p s m args meth c Γ RL cL_kept 27 (some .boolean)) (hst : l.stackTraces = false)   {z : Int32 × gG} {F61 : Int32 → Int32 → Int32 → Int64 → Int64 → Int64 → Int32 → Int32 → gG → Option (Int32 × gG)} {l1 : Int32} {l2 : Int32} {l3 : Int32} {l4 : Int64} {l6 : Int64} {l8 : Int64} {l10 : Int32} {l11 : Int32} {l12 : Int64} {l15 : Int32} {l16 : Int64} {l20 : Int64} {g : gG} {H : Heap} {locs : List Loc} {ls : Array Slot} {N61 : Nat} (hF61 : ∀ (cells slots : Nat) (l1 : Int32) (l2 : Int32) (l3 : Int32) (l4 : Int64) (l6 : Int64) (l8 : Int64) (l10 : Int32) (l11 : Int32) (g : gG) (H : Heap) (locs : List Loc) (ls : Array Slot), F61 l1 l2 l3 l4 l6 l8 l10 l11 g = some z → va_P (gD Γ) gcls (lay Γ g) H → va_S (gA Γ) s.heap H locs → lv_has ls 27 [(0, .ref (gB Γ + 0)), (1, .int l1), (2, .int l2), (3, .int l3), (4, .long l4), (6, .long l6), (8, .long l8), (10, .int l10), (11, .int l11)] → cells + N61 ≤ 938 → slots + 6 * N61 ≤ 5628 → W p l e (gRx 9 169 938 5628) s m args below meth c H locs cells slots (MQ below (gQi Γ z) args s 938 5628 (gA Γ)) (F0 m 61 ls [])) {cells slots N : Nat} (hr1 : cells + N ≤ 938) (hr2 : slots + 6 * N ≤ 5628) (hn_61 : 22 + N61 ≤ N) (h : fs_L_kept_448 F61 l1 l2 l3 l4 l6 l8 l10 l11 l12 l15 l16 l20 g = some z) (hP : va_P (gD Γ) gcls (lay Γ g) H) (hS : va_S (gA Γ) s.heap H locs) (hl : lv_has ls 27 [(0, .ref (gB Γ + 0)), (1, .int l1), (2, .int l2), (3, .int l3), (4, .long l4), (6, .long l6), (8, .long l8), (10, .int l10), (11, .int l11), (12, .long l12), (15, .int l15), (16, .long l16), (20, .long l20)]) : W p l e (gRx 9 169 938 5628) s m args below meth c H locs cells slots (MQ below (gQi Γ z) args s 938 5628 (gA Γ)) (F0 m 448 ls []) := by
  unfold fs_L_kept_448 at h
  obtain ⟨hx, hb, hml, hr, hown, hts, hK, hlk, hX⟩ := id C0
  refine lv_iload hx hb dL_kept_448 (lv_at hl 10 rfl) ?_
  refine lv_if_ne (tgt := 464) hx hb dL_kept_450 (by decide) (fun c1 => ?_) (fun c1 => ?_)
  · replace h := gneg c1 h
    exact bs_L_kept_464 C0 hst hF61 (N := (N - 0)) (by omega) (by omega) (by omega) h hP hS (lv_sub hl [0, 1, 2, 3, 4, 5, 6, 7, 8, 9, 10, 11, 12] rfl)
  · replace h := gpos c1 h
    refine lv_lload hx hb dL_kept_453 (lv_at hl 12 rfl) ?_
    refine lv_lconst (v := 0) hx hb dL_kept_455 (by decide) ?_
    refine W.lcmp hx hb dL_kept_456 ?_
    refine lv_if_eq (tgt := 464) hx hb dL_kept_457 (by decide) (fun c2 => ?_) (fun c2 => ?_)
    · replace h := gpos c2 h
      exact bs_L_kept_464 C0 hst hF61 (N := (N - 0)) (by omega) (by omega) (by omega) h hP hS (lv_sub hl [0, 1, 2, 3, 4, 5, 6, 7, 8, 9, 10, 11, 12] rfl)
    · replace h := gneg c2 h
      refine lv_iconst (v := 1) hx hb dL_kept_460 (by decide) ?_
      refine lv_goto (tgt := 465) hx hb dL_kept_461 (by decide) ?_
      exact bs_L_kept_465 C0 hst hF61 (N := (N - 0)) (by omega) (by omega) (by omega) h hP hS (lv_sub hl [0, 1, 2, 3, 4, 5, 6, 7, 8, 9, 10, 11, 12] rfl)
set_option maxHeartbeats 2000000 in
set_option maxRecDepth 20000 in
theorem bs_L_kept_441 {p : Program} {l : Launch} {e : Env} {s : State} {m : MethodId} {args : Array Value} {below : List Frame} {meth : Method} {c : Code} {Γ : gE} (C0 : gCx p s m args meth c Γ RL cL_kept 27 (some .boolean)) (hst : l.stackTraces = false)   {z : Int32 × gG} {F61 : Int32 → Int32 → Int32 → Int64 → Int64 → Int64 → Int32 → Int32 → gG → Option (Int32 × gG)} {F382 : Int32 → Int32 → Int32 → Int64 → Int64 → Int64 → Int32 → Int32 → Int64 → Int32 → Int64 → Int64 → Int64 → Int32 → gG → Option (Int32 × gG)} {l1 : Int32} {l2 : Int32} {l4 : Int64} {l6 : Int64} {l8 : Int64} {l10 : Int32} {l11 : Int32} {l12 : Int64} {l15 : Int32} {l16 : Int64} {l18 : Int64} {l20 : Int64} {l22 : Int32} {s0 : Int32} {g : gG} {H : Heap} {locs : List Loc} {ls : Array Slot} {N61 : Nat} (hF61 : ∀ (cells slots : Nat) (l1 : Int32) (l2 : Int32) (l3 : Int32) (l4 : Int64) (l6 : Int64) (l8 : Int64) (l10 : Int32) (l11 : Int32) (g : gG) (H : Heap) (locs : List Loc) (ls : Array Slot), F61 l1 l2 l3 l4 l6 l8 l10 l11 g = some z → va_P (gD Γ) gcls (lay Γ g) H → va_S (gA Γ) s.heap H locs → lv_has ls 27 [(0, .ref (gB Γ + 0)), (1, .int l1), (2, .int l2), (3, .int l3), (4, .long l4), (6, .long l6), (8, .long l8), (10, .int l10), (11, .int l11)] → cells + N61 ≤ 938 → slots + 6 * N61 ≤ 5628 → W p l e (gRx 9 169 938 5628) s m args below meth c H locs cells slots (MQ below (gQi Γ z) args s 938 5628 (gA Γ)) (F0 m 61 ls [])) {N382 : Nat} (hF382 : ∀ (cells slots : Nat) (l1 : Int32) (l2 : Int32) (l3 : Int32) (l4 : Int64) (l6 : Int64) (l8 : Int64) (l10 : Int32) (l11 : Int32) (l12 : Int64) (l15 : Int32) (l16 : Int64) (l18 : Int64) (l20 : Int64) (l22 : Int32) (g : gG) (H : Heap) (locs : List Loc) (ls : Array Slot), F382 l1 l2 l3 l4 l6 l8 l10 l11 l12 l15 l16 l18 l20 l22 g = some z → va_P (gD Γ) gcls (lay Γ g) H → va_S (gA Γ) s.heap H locs → lv_has ls 27 [(0, .ref (gB Γ + 0)), (1, .int l1), (2, .int l2), (3, .int l3), (4, .long l4), (6, .long l6), (8, .long l8), (10, .int l10), (11, .int l11), (12, .long l12), (15, .int l15), (16, .long l16), (18, .long l18), (20, .long l20), (22, .int l22)] → cells + N382 ≤ 938 → slots + 6 * N382 ≤ 5628 → W p l e (gRx 9 169 938 5628) s m args below meth c H locs cells slots (MQ below (gQi Γ z) args s 938 5628 (gA Γ)) (F0 m 382 ls [])) {cells slots N : Nat} (hr1 : cells + N ≤ 938) (hr2 : slots + 6 * N ≤ 5628) (hn_382 : 0 + N382 ≤ N) (h : fs_L_kept_441 F61 F382 l1 l2 l4 l6 l8 l10 l11 l12 l15 l16 l18 l20 l22 s0 g = some z) (hP : va_P (gD Γ) gcls (lay Γ g) H) (hS : va_S (gA Γ) s.heap H locs) (hl : lv_has ls 27 [(0, .ref (gB Γ + 0)), (1, .int l1), (2, .int l2), (4, .long l4), (6, .long l6), (8, .long l8), (10, .int l10), (11, .int l11), (12, .long l12), (15, .int l15), (16, .long l16), (18, .long l18), (20, .long l20), (22, .int l22)]) : W p l e (gRx 9 169 938 5628) s m args below meth c H locs cells slots (MQ below (gQi Γ z) args s 938 5628 (gA Γ)) (F0 m 441 ls [.int s0]) := by
  unfold fs_L_kept_441 at h
  obtain ⟨hx, hb, hml, hr, hown, hts, hK, hlk, hX⟩ := id C0
  refine lv_istore_n (lv' := [(3, .int s0), (0, .ref (gB Γ + 0)), (1, .int l1), (2, .int l2), (4, .long l4), (6, .long l6), (8, .long l8), (10, .int l10), (11, .int l11), (12, .long l12), (15, .int l15), (16, .long l16), (18, .long l18), (20, .long l20), (22, .int l22)]) hx hb dL_kept_441 rfl hl (by decide) rfl (fun ls hl => ?_)
  obtain ⟨x1, ex1⟩ : ∃ y : Int32, y = l22 + (1 : Int32) := ⟨_, rfl⟩
  replace h := gLetI ex1 h
  refine lv_iinc (v := x1) (lv' := [(22, .int x1), (3, .int s0), (0, .ref (gB Γ + 0)), (1, .int l1), (2, .int l2), (4, .long l4), (6, .long l6), (8, .long l8), (10, .int l10), (11, .int l11), (12, .long l12), (15, .int l15), (16, .long l16), (18, .long l18), (20, .long l20)]) hx hb dL_kept_442 hl (k := 14) rfl (by rw [ex1]; rfl) (by decide) rfl (fun ls hl => ?_)
  refine lv_goto (tgt := 382) hx hb dL_kept_445 (by decide) ?_
  exact hF382 _ _ _ _ _ _ _ _ _ _ _ _ _ _ _ _ _ _ _ _ h hP hS (lv_sub hl [2, 3, 4, 1, 5, 6, 7, 8, 9, 10, 11, 12, 13, 14, 0] rfl) (by omega) (by omega)
set_option maxHeartbeats 2000000 in
set_option maxRecDepth 20000 in
theorem bs_L_kept_433 {p : Program} {l : Launch} {e : Env} {s : State} {m : MethodId} {args : Array Value} {below : List Frame} {meth : Method} {c : Code} {Γ : gE} (C0 : gCx p s m args meth c Γ RL cL_kept 27 (some .boolean)) (hst : l.stackTraces = false)   {z : Int32 × gG} {F61 : Int32 → Int32 → Int32 → Int64 → Int64 → Int64 → Int32 → Int32 → gG → Option (Int32 × gG)} {F382 : Int32 → Int32 → Int32 → Int64 → Int64 → Int64 → Int32 → Int32 → Int64 → Int32 → Int64 → Int64 → Int64 → Int32 → gG → Option (Int32 × gG)} {l1 : Int32} {l2 : Int32} {l4 : Int64} {l6 : Int64} {l8 : Int64} {l10 : Int32} {l11 : Int32} {l12 : Int64} {l15 : Int32} {l16 : Int64} {l18 : Int64} {l20 : Int64} {l22 : Int32} {s0 : Int32} {s1 : Int32} {g : gG} {H : Heap} {locs : List Loc} {ls : Array Slot} {N61 : Nat} (hF61 : ∀ (cells slots : Nat) (l1 : Int32) (l2 : Int32) (l3 : Int32) (l4 : Int64) (l6 : Int64) (l8 : Int64) (l10 : Int32) (l11 : Int32) (g : gG) (H : Heap) (locs : List Loc) (ls : Array Slot), F61 l1 l2 l3 l4 l6 l8 l10 l11 g = some z → va_P (gD Γ) gcls (lay Γ g) H → va_S (gA Γ) s.heap H locs → lv_has ls 27 [(0, .ref (gB Γ + 0)), (1, .int l1), (2, .int l2), (3, .int l3), (4, .long l4), (6, .long l6), (8, .long l8), (10, .int l10), (11, .int l11)] → cells + N61 ≤ 938 → slots + 6 * N61 ≤ 5628 → W p l e (gRx 9 169 938 5628) s m args below meth c H locs cells slots (MQ below (gQi Γ z) args s 938 5628 (gA Γ)) (F0 m 61 ls [])) {N382 : Nat} (hF382 : ∀ (cells slots : Nat) (l1 : Int32) (l2 : Int32) (l3 : Int32) (l4 : Int64) (l6 : Int64) (l8 : Int64) (l10 : Int32) (l11 : Int32) (l12 : Int64) (l15 : Int32) (l16 : Int64) (l18 : Int64) (l20 : Int64) (l22 : Int32) (g : gG) (H : Heap) (locs : List Loc) (ls : Array Slot), F382 l1 l2 l3 l4 l6 l8 l10 l11 l12 l15 l16 l18 l20 l22 g = some z → va_P (gD Γ) gcls (lay Γ g) H → va_S (gA Γ) s.heap H locs → lv_has ls 27 [(0, .ref (gB Γ + 0)), (1, .int l1), (2, .int l2), (3, .int l3), (4, .long l4), (6, .long l6), (8, .long l8), (10, .int l10), (11, .int l11), (12, .long l12), (15, .int l15), (16, .long l16), (18, .long l18), (20, .long l20), (22, .int l22)] → cells + N382 ≤ 938 → slots + 6 * N382 ≤ 5628 → W p l e (gRx 9 169 938 5628) s m args below meth c H locs cells slots (MQ below (gQi Γ z) args s 938 5628 (gA Γ)) (F0 m 382 ls [])) {cells slots N : Nat} (hr1 : cells + N ≤ 938) (hr2 : slots + 6 * N ≤ 5628) (hn_382 : 0 + N382 ≤ N) (h : fs_L_kept_433 F61 F382 l1 l2 l4 l6 l8 l10 l11 l12 l15 l16 l18 l20 l22 s0 s1 g = some z) (hP : va_P (gD Γ) gcls (lay Γ g) H) (hS : va_S (gA Γ) s.heap H locs) (hl : lv_has ls 27 [(0, .ref (gB Γ + 0)), (1, .int l1), (2, .int l2), (4, .long l4), (6, .long l6), (8, .long l8), (10, .int l10), (11, .int l11), (12, .long l12), (15, .int l15), (16, .long l16), (18, .long l18), (20, .long l20), (22, .int l22)]) : W p l e (gRx 9 169 938 5628) s m args below meth c H locs cells slots (MQ below (gQi Γ z) args s 938 5628 (gA Γ)) (F0 m 433 ls [.int s1, .int s0]) := by
  unfold fs_L_kept_433 at h
  obtain ⟨hx, hb, hml, hr, hown, hts, hK, hlk, hX⟩ := id C0
  refine lv_icmp_ne (tgt := 440) hx hb dL_kept_433 (by decide) (fun c1 => ?_) (fun c1 => ?_)
  · replace h := gneg c1 h
    refine lv_iconst (v := 0) hx hb dL_kept_440 (by decide) ?_
    exact bs_L_kept_441 C0 hst hF61 hF382 (N := (N - 0)) (by omega) (by omega) (by omega) h hP hS (lv_sub hl [0, 1, 2, 3, 4, 5, 6, 7, 8, 9, 10, 11, 12, 13] rfl)
  · replace h := gpos c1 h
    refine lv_iconst (v := 1) hx hb dL_kept_436 (by decide) ?_
    refine lv_goto (tgt := 441) hx hb dL_kept_437 (by decide) ?_
    exact bs_L_kept_441 C0 hst hF61 hF382 (N := (N - 0)) (by omega) (by omega) (by omega) h hP hS (lv_sub hl [0, 1, 2, 3, 4, 5, 6, 7, 8, 9, 10, 11, 12, 13] rfl)
set_option maxHeartbeats 2000000 in
set_option maxRecDepth 20000 in
theorem bs_L_kept_432 {p : Program} {l : Launch} {e : Env} {s : State} {m : MethodId} {args : Array Value} {below : List Frame} {meth : Method} {c : Code} {Γ : gE} (C0 : gCx p s m args meth c Γ RL cL_kept 27 (some .boolean)) (hst : l.stackTraces = false)   {z : Int32 × gG} {F61 : Int32 → Int32 → Int32 → Int64 → Int64 → Int64 → Int32 → Int32 → gG → Option (Int32 × gG)} {F382 : Int32 → Int32 → Int32 → Int64 → Int64 → Int64 → Int32 → Int32 → Int64 → Int32 → Int64 → Int64 → Int64 → Int32 → gG → Option (Int32 × gG)} {l1 : Int32} {l2 : Int32} {l4 : Int64} {l6 : Int64} {l8 : Int64} {l10 : Int32} {l11 : Int32} {l12 : Int64} {l15 : Int32} {l16 : Int64} {l18 : Int64} {l20 : Int64} {l22 : Int32} {s0 : Int32} {g : gG} {H : Heap} {locs : List Loc} {ls : Array Slot} {N61 : Nat} (hF61 : ∀ (cells slots : Nat) (l1 : Int32) (l2 : Int32) (l3 : Int32) (l4 : Int64) (l6 : Int64) (l8 : Int64) (l10 : Int32) (l11 : Int32) (g : gG) (H : Heap) (locs : List Loc) (ls : Array Slot), F61 l1 l2 l3 l4 l6 l8 l10 l11 g = some z → va_P (gD Γ) gcls (lay Γ g) H → va_S (gA Γ) s.heap H locs → lv_has ls 27 [(0, .ref (gB Γ + 0)), (1, .int l1), (2, .int l2), (3, .int l3), (4, .long l4), (6, .long l6), (8, .long l8), (10, .int l10), (11, .int l11)] → cells + N61 ≤ 938 → slots + 6 * N61 ≤ 5628 → W p l e (gRx 9 169 938 5628) s m args below meth c H locs cells slots (MQ below (gQi Γ z) args s 938 5628 (gA Γ)) (F0 m 61 ls [])) {N382 : Nat} (hF382 : ∀ (cells slots : Nat) (l1 : Int32) (l2 : Int32) (l3 : Int32) (l4 : Int64) (l6 : Int64) (l8 : Int64) (l10 : Int32) (l11 : Int32) (l12 : Int64) (l15 : Int32) (l16 : Int64) (l18 : Int64) (l20 : Int64) (l22 : Int32) (g : gG) (H : Heap) (locs : List Loc) (ls : Array Slot), F382 l1 l2 l3 l4 l6 l8 l10 l11 l12 l15 l16 l18 l20 l22 g = some z → va_P (gD Γ) gcls (lay Γ g) H → va_S (gA Γ) s.heap H locs → lv_has ls 27 [(0, .ref (gB Γ + 0)), (1, .int l1), (2, .int l2), (3, .int l3), (4, .long l4), (6, .long l6), (8, .long l8), (10, .int l10), (11, .int l11), (12, .long l12), (15, .int l15), (16, .long l16), (18, .long l18), (20, .long l20), (22, .int l22)] → cells + N382 ≤ 938 → slots + 6 * N382 ≤ 5628 → W p l e (gRx 9 169 938 5628) s m args below meth c H locs cells slots (MQ below (gQi Γ z) args s 938 5628 (gA Γ)) (F0 m 382 ls [])) {cells slots N : Nat} (hr1 : cells + N ≤ 938) (hr2 : slots + 6 * N ≤ 5628) (hn_382 : 0 + N382 ≤ N) (h : fs_L_kept_432 F61 F382 l1 l2 l4 l6 l8 l10 l11 l12 l15 l16 l18 l20 l22 s0 g = some z) (hP : va_P (gD Γ) gcls (lay Γ g) H) (hS : va_S (gA Γ) s.heap H locs) (hl : lv_has ls 27 [(0, .ref (gB Γ + 0)), (1, .int l1), (2, .int l2), (4, .long l4), (6, .long l6), (8, .long l8), (10, .int l10), (11, .int l11), (12, .long l12), (15, .int l15), (16, .long l16), (18, .long l18), (20, .long l20), (22, .int l22)]) : W p l e (gRx 9 169 938 5628) s m args below meth c H locs cells slots (MQ below (gQi Γ z) args s 938 5628 (gA Γ)) (F0 m 432 ls [.int s0]) := by
  unfold fs_L_kept_432 at h
  obtain ⟨hx, hb, hml, hr, hown, hts, hK, hlk, hX⟩ := id C0
  refine lv_iconst (v := 0) hx hb dL_kept_432 (by decide) ?_
  exact bs_L_kept_433 C0 hst hF61 hF382 (N := (N - 0)) (by omega) (by omega) (by omega) h hP hS (lv_sub hl [0, 1, 2, 3, 4, 5, 6, 7, 8, 9, 10, 11, 12, 13] rfl)
set_option maxHeartbeats 2000000 in
set_option maxRecDepth 20000 in
theorem bs_L_kept_382 {p : Program} {l : Launch} {e : Env} {s : State} {m : MethodId} {args : Array Value} {below : List Frame} {meth : Method} {c : Code} {Γ : gE} (C0 : gCx p s m args meth c Γ RL cL_kept 27 (some .boolean)) (hst : l.stackTraces = false)   {z : Int32 × gG} {F61 : Int32 → Int32 → Int32 → Int64 → Int64 → Int64 → Int32 → Int32 → gG → Option (Int32 × gG)} {F382 : Int32 → Int32 → Int32 → Int64 → Int64 → Int64 → Int32 → Int32 → Int64 → Int32 → Int64 → Int64 → Int64 → Int32 → gG → Option (Int32 × gG)} {l1 : Int32} {l2 : Int32} {l3 : Int32} {l4 : Int64} {l6 : Int64} {l8 : Int64} {l10 : Int32} {l11 : Int32} {l12 : Int64} {l15 : Int32} {l16 : Int64} {l18 : Int64} {l20 : Int64} {l22 : Int32} {g : gG} {H : Heap} {locs : List Loc} {ls : Array Slot} {N61 : Nat} (hF61 : ∀ (cells slots : Nat) (l1 : Int32) (l2 : Int32) (l3 : Int32) (l4 : Int64) (l6 : Int64) (l8 : Int64) (l10 : Int32) (l11 : Int32) (g : gG) (H : Heap) (locs : List Loc) (ls : Array Slot), F61 l1 l2 l3 l4 l6 l8 l10 l11 g = some z → va_P (gD Γ) gcls (lay Γ g) H → va_S (gA Γ) s.heap H locs → lv_has ls 27 [(0, .ref (gB Γ + 0)), (1, .int l1), (2, .int l2), (3, .int l3), (4, .long l4), (6, .long l6), (8, .long l8), (10, .int l10), (11, .int l11)] → cells + N61 ≤ 938 → slots + 6 * N61 ≤ 5628 → W p l e (gRx 9 169 938 5628) s m args below meth c H locs cells slots (MQ below (gQi Γ z) args s 938 5628 (gA Γ)) (F0 m 61 ls [])) {N382 : Nat} (hF382 : ∀ (cells slots : Nat) (l1 : Int32) (l2 : Int32) (l3 : Int32) (l4 : Int64) (l6 : Int64) (l8 : Int64) (l10 : Int32) (l11 : Int32) (l12 : Int64) (l15 : Int32) (l16 : Int64) (l18 : Int64) (l20 : Int64) (l22 : Int32) (g : gG) (H : Heap) (locs : List Loc) (ls : Array Slot), F382 l1 l2 l3 l4 l6 l8 l10 l11 l12 l15 l16 l18 l20 l22 g = some z → va_P (gD Γ) gcls (lay Γ g) H → va_S (gA Γ) s.heap H locs → lv_has ls 27 [(0, .ref (gB Γ + 0)), (1, .int l1), (2, .int l2), (3, .int l3), (4, .long l4), (6, .long l6), (8, .long l8), (10, .int l10), (11, .int l11), (12, .long l12), (15, .int l15), (16, .long l16), (18, .long l18), (20, .long l20), (22, .int l22)] → cells + N382 ≤ 938 → slots + 6 * N382 ≤ 5628 → W p l e (gRx 9 169 938 5628) s m args below meth c H locs cells slots (MQ below (gQi Γ z) args s 938 5628 (gA Γ)) (F0 m 382 ls [])) {cells slots N : Nat} (hr1 : cells + N ≤ 938) (hr2 : slots + 6 * N ≤ 5628) (hn_382 : 2 + N382 ≤ N) (hn_61 : 22 + N61 ≤ N) (h : fs_L_kept_382 F61 F382 l1 l2 l3 l4 l6 l8 l10 l11 l12 l15 l16 l18 l20 l22 g = some z) (hP : va_P (gD Γ) gcls (lay Γ g) H) (hS : va_S (gA Γ) s.heap H locs) (hl : lv_has ls 27 [(0, .ref (gB Γ + 0)), (1, .int l1), (2, .int l2), (3, .int l3), (4, .long l4), (6, .long l6), (8, .long l8), (10, .int l10), (11, .int l11), (12, .long l12), (15, .int l15), (16, .long l16), (18, .long l18), (20, .long l20), (22, .int l22)]) : W p l e (gRx 9 169 938 5628) s m args below meth c H locs cells slots (MQ below (gQi Γ z) args s 938 5628 (gA Γ)) (F0 m 382 ls []) := by
  unfold fs_L_kept_382 at h
  obtain ⟨hx, hb, hml, hr, hown, hts, hK, hlk, hX⟩ := id C0
  refine lv_iload hx hb dL_kept_382 (lv_at hl 14 rfl) ?_
  refine lv_iload_n hx hb dL_kept_384 rfl (lv_at hl 1 rfl) ?_
  refine lv_icmp_ge (tgt := 448) hx hb dL_kept_385 (by decide) (fun c1 => ?_) (fun c1 => ?_)
  · replace h := gpos c1 h
    exact bs_L_kept_448 C0 hst hF61 (N := (N - 0)) (by omega) (by omega) (by omega) h hP hS (lv_sub hl [0, 1, 2, 3, 4, 5, 6, 7, 8, 9, 10, 11, 13] rfl)
  · replace h := gneg c1 h
    refine lv_iload_n hx hb dL_kept_388 rfl (lv_at hl 3 rfl) ?_
    refine lv_if_eq (tgt := 448) hx hb dL_kept_389 (by decide) (fun c2 => ?_) (fun c2 => ?_)
    · replace h := gpos c2 h
      exact bs_L_kept_448 C0 hst hF61 (N := (N - 0)) (by omega) (by omega) (by omega) h hP hS (lv_sub hl [0, 1, 2, 3, 4, 5, 6, 7, 8, 9, 10, 11, 13] rfl)
    · replace h := gneg c2 h
      refine lv_lload hx hb dL_kept_392 (lv_at hl 12 rfl) ?_
      refine lv_iload hx hb dL_kept_394 (lv_at hl 14 rfl) ?_
      refine gCSi (rest := []) C0 cal_L_has wl_L_147 wt_L_has ⟨Nat.le_of_ble_eq_true rfl, Nat.le_of_ble_eq_true rfl⟩ ⟨gRcl (by omega), gRsl (by omega)⟩ [.long l18, .int l22] rfl (Nat.le_of_ble_eq_true rfl) hP hS hl.1 dL_kept_396 h (fun u hu => m_L_has l Γ l18 l22 g u hu) (fun u3 H locs h hP hS => ?_) rfl
      refine lv_iload hx hb dL_kept_399 (lv_at hl 10 rfl) ?_
      refine lv_if_ne (tgt := 432) hx hb dL_kept_401 (by decide) (fun c4 => ?_) (fun c4 => ?_)
      · replace h := gneg c4 h
        exact bs_L_kept_432 C0 hst hF61 hF382 (N := (N - 0)) (by omega) (by omega) (by omega) h hP hS (lv_sub hl [0, 1, 2, 4, 5, 6, 7, 8, 9, 10, 11, 12, 13, 14] rfl)
      · replace h := gpos c4 h
        refine lv_lload hx hb dL_kept_404 (lv_at hl 9 rfl) ?_
        refine lv_iload hx hb dL_kept_406 (lv_at hl 14 rfl) ?_
        refine gCSi (rest := [.int u3.1]) C0 cal_L_has wl_L_147 wt_L_has ⟨Nat.le_of_ble_eq_true rfl, Nat.le_of_ble_eq_true rfl⟩ ⟨gRcl (by omega), gRsl (by omega)⟩ [.long l12, .int l22] rfl (Nat.le_of_ble_eq_true rfl) hP hS hl.1 dL_kept_408 h (fun u hu => m_L_has l Γ l12 l22 u3.2 u hu) (fun u5 H locs h hP hS => ?_) rfl
        refine lv_if_ne (tgt := 432) hx hb dL_kept_411 (by decide) (fun c6 => ?_) (fun c6 => ?_)
        · replace h := gneg c6 h
          exact bs_L_kept_432 C0 hst hF61 hF382 (N := (N - 0)) (by omega) (by omega) (by omega) h hP hS (lv_sub hl [0, 1, 2, 4, 5, 6, 7, 8, 9, 10, 11, 12, 13, 14] rfl)
        · replace h := gpos c6 h
          refine lv_aload_n hx hb dL_kept_414 rfl (lv_at hl 0 rfl) ?_
          refine lv_iload hx hb dL_kept_415 (lv_at hl 14 rfl) ?_
          refine lv_lload hx hb dL_kept_417 (lv_at hl 9 rfl) ?_
          refine lv_l2i hx hb dL_kept_419 rfl ?_
          refine gCHl (n2 := 3) (rest := [.int u3.1]) C0 wcw_L_holds wn_L (by decide +kernel) wl_L_124 wt_L_holds ⟨Nat.le_of_ble_eq_true rfl, Nat.le_of_ble_eq_true rfl⟩ ⟨gRcl (by omega), gRsl (by omega)⟩ [.ref (gB Γ + 0), .int l22, .int l12.toInt32] rfl (Nat.le_of_ble_eq_true rfl) hP hS hl.1 dL_kept_420 h (fun u hu => m_L_holds l hst Γ l22 l12.toInt32 u5.2 u hu) (fun u7 H locs h hP hS => ?_) rfl
          refine lv_lconst (v := 1) hx hb dL_kept_423 (by decide) ?_
          refine W.lcmp hx hb dL_kept_424 ?_
          refine lv_if_ne (tgt := 432) hx hb dL_kept_425 (by decide) (fun c8 => ?_) (fun c8 => ?_)
          · replace h := gneg c8 h
            exact bs_L_kept_432 C0 hst hF61 hF382 (N := (N - 2)) (by omega) (by omega) (by omega) h hP hS (lv_sub hl [0, 1, 2, 4, 5, 6, 7, 8, 9, 10, 11, 12, 13, 14] rfl)
          · replace h := gpos c8 h
            refine lv_iconst (v := 1) hx hb dL_kept_428 (by decide) ?_
            refine lv_goto (tgt := 433) hx hb dL_kept_429 (by decide) ?_
            exact bs_L_kept_433 C0 hst hF61 hF382 (N := (N - 2)) (by omega) (by omega) (by omega) h hP hS (lv_sub hl [0, 1, 2, 4, 5, 6, 7, 8, 9, 10, 11, 12, 13, 14] rfl)
set_option maxHeartbeats 2000000 in
set_option maxRecDepth 20000 in
theorem bk_L_kept_382 {p : Program} {l : Launch} {e : Env} {s : State} {m : MethodId} {args : Array Value} {below : List Frame} {meth : Method} {c : Code} {Γ : gE} (C0 : gCx p s m args meth c Γ RL cL_kept 27 (some .boolean)) (hst : l.stackTraces = false)   {z : Int32 × gG} {F61 : Int32 → Int32 → Int32 → Int64 → Int64 → Int64 → Int32 → Int32 → gG → Option (Int32 × gG)} {N61 : Nat} (hF61 : ∀ (cells slots : Nat) (l1 : Int32) (l2 : Int32) (l3 : Int32) (l4 : Int64) (l6 : Int64) (l8 : Int64) (l10 : Int32) (l11 : Int32) (g : gG) (H : Heap) (locs : List Loc) (ls : Array Slot), F61 l1 l2 l3 l4 l6 l8 l10 l11 g = some z → va_P (gD Γ) gcls (lay Γ g) H → va_S (gA Γ) s.heap H locs → lv_has ls 27 [(0, .ref (gB Γ + 0)), (1, .int l1), (2, .int l2), (3, .int l3), (4, .long l4), (6, .long l6), (8, .long l8), (10, .int l10), (11, .int l11)] → cells + N61 ≤ 938 → slots + 6 * N61 ≤ 5628 → W p l e (gRx 9 169 938 5628) s m args below meth c H locs cells slots (MQ below (gQi Γ z) args s 938 5628 (gA Γ)) (F0 m 61 ls [])) {T : Nat} (hT_61 : 22 + N61 ≤ T) : ∀ (n cells slots : Nat) (l1 : Int32) (l2 : Int32) (l3 : Int32) (l4 : Int64) (l6 : Int64) (l8 : Int64) (l10 : Int32) (l11 : Int32) (l12 : Int64) (l15 : Int32) (l16 : Int64) (l18 : Int64) (l20 : Int64) (l22 : Int32) (g : gG) (H : Heap) (locs : List Loc) (ls : Array Slot), fb_L_kept_382 F61 n l1 l2 l3 l4 l6 l8 l10 l11 l12 l15 l16 l18 l20 l22 g = some z → va_P (gD Γ) gcls (lay Γ g) H → va_S (gA Γ) s.heap H locs → lv_has ls 27 [(0, .ref (gB Γ + 0)), (1, .int l1), (2, .int l2), (3, .int l3), (4, .long l4), (6, .long l6), (8, .long l8), (10, .int l10), (11, .int l11), (12, .long l12), (15, .int l15), (16, .long l16), (18, .long l18), (20, .long l20), (22, .int l22)] → cells + (n * 2 + T) ≤ 938 → slots + 6 * (n * 2 + T) ≤ 5628 → W p l e (gRx 9 169 938 5628) s m args below meth c H locs cells slots (MQ below (gQi Γ z) args s 938 5628 (gA Γ)) (F0 m 382 ls []) := by
  intro n
  induction n with
  | zero => intro cells slots l1 l2 l3 l4 l6 l8 l10 l11 l12 l15 l16 l18 l20 l22 g H locs ls h hP hS hl hr1 hr2; cases h
  | succ n ih => intro cells slots l1 l2 l3 l4 l6 l8 l10 l11 l12 l15 l16 l18 l20 l22 g H locs ls h hP hS hl hr1 hr2; exact bs_L_kept_382 C0 hst hF61 (N := (n + 1) * 2 + T) ih hr1 hr2 (by omega) (by omega) h hP hS hl
set_option maxHeartbeats 2000000 in
set_option maxRecDepth 20000 in
theorem bs_L_kept_378 {p : Program} {l : Launch} {e : Env} {s : State} {m : MethodId} {args : Array Value} {below : List Frame} {meth : Method} {c : Code} {Γ : gE} (C0 : gCx p s m args meth c Γ RL cL_kept 27 (some .boolean)) (hst : l.stackTraces = false)   {z : Int32 × gG} {F61 : Int32 → Int32 → Int32 → Int64 → Int64 → Int64 → Int32 → Int32 → gG → Option (Int32 × gG)} {l1 : Int32} {l2 : Int32} {l4 : Int64} {l6 : Int64} {l8 : Int64} {l10 : Int32} {l11 : Int32} {l12 : Int64} {l15 : Int32} {l16 : Int64} {l18 : Int64} {l20 : Int64} {s0 : Int32} {g : gG} {H : Heap} {locs : List Loc} {ls : Array Slot} {N61 : Nat} (hF61 : ∀ (cells slots : Nat) (l1 : Int32) (l2 : Int32) (l3 : Int32) (l4 : Int64) (l6 : Int64) (l8 : Int64) (l10 : Int32) (l11 : Int32) (g : gG) (H : Heap) (locs : List Loc) (ls : Array Slot), F61 l1 l2 l3 l4 l6 l8 l10 l11 g = some z → va_P (gD Γ) gcls (lay Γ g) H → va_S (gA Γ) s.heap H locs → lv_has ls 27 [(0, .ref (gB Γ + 0)), (1, .int l1), (2, .int l2), (3, .int l3), (4, .long l4), (6, .long l6), (8, .long l8), (10, .int l10), (11, .int l11)] → cells + N61 ≤ 938 → slots + 6 * N61 ≤ 5628 → W p l e (gRx 9 169 938 5628) s m args below meth c H locs cells slots (MQ below (gQi Γ z) args s 938 5628 (gA Γ)) (F0 m 61 ls [])) {cells slots N : Nat} (hr1 : cells + N ≤ 938) (hr2 : slots + 6 * N ≤ 5628) (hn_61 : 46 + N61 ≤ N) (h : fs_L_kept_378 F61 l1 l2 l4 l6 l8 l10 l11 l12 l15 l16 l18 l20 s0 g = some z) (hP : va_P (gD Γ) gcls (lay Γ g) H) (hS : va_S (gA Γ) s.heap H locs) (hl : lv_has ls 27 [(0, .ref (gB Γ + 0)), (1, .int l1), (2, .int l2), (4, .long l4), (6, .long l6), (8, .long l8), (10, .int l10), (11, .int l11), (12, .long l12), (15, .int l15), (16, .long l16), (18, .long l18), (20, .long l20)]) : W p l e (gRx 9 169 938 5628) s m args below meth c H locs cells slots (MQ below (gQi Γ z) args s 938 5628 (gA Γ)) (F0 m 378 ls [.int s0]) := by
  unfold fs_L_kept_378 at h
  obtain ⟨hx, hb, hml, hr, hown, hts, hK, hlk, hX⟩ := id C0
  refine lv_istore_n (lv' := [(3, .int s0), (0, .ref (gB Γ + 0)), (1, .int l1), (2, .int l2), (4, .long l4), (6, .long l6), (8, .long l8), (10, .int l10), (11, .int l11), (12, .long l12), (15, .int l15), (16, .long l16), (18, .long l18), (20, .long l20)]) hx hb dL_kept_378 rfl hl (by decide) rfl (fun ls hl => ?_)
  refine lv_iconst (v := 0) hx hb dL_kept_379 (by decide) ?_
  refine lv_istore (lv' := [(22, .int (0 : Int32)), (3, .int s0), (0, .ref (gB Γ + 0)), (1, .int l1), (2, .int l2), (4, .long l4), (6, .long l6), (8, .long l8), (10, .int l10), (11, .int l11), (12, .long l12), (15, .int l15), (16, .long l16), (18, .long l18), (20, .long l20)]) hx hb dL_kept_380 hl (by decide) rfl (fun ls hl => ?_)
  exact bk_L_kept_382 C0 hst hF61 (T := (N - 0) - 24) (by omega) gFuelL _ _ _ _ _ _ _ _ _ _ _ _ _ _ _ _ _ _ _ _ h hP hS (lv_sub hl [2, 3, 4, 1, 5, 6, 7, 8, 9, 10, 11, 12, 13, 14, 0] rfl) (by unfold gFuelL; omega) (by unfold gFuelL; omega)
set_option maxHeartbeats 2000000 in
set_option maxRecDepth 20000 in
theorem bs_L_kept_377 {p : Program} {l : Launch} {e : Env} {s : State} {m : MethodId} {args : Array Value} {below : List Frame} {meth : Method} {c : Code} {Γ : gE} (C0 : gCx p s m args meth c Γ RL cL_kept 27 (some .boolean)) (hst : l.stackTraces = false)   {z : Int32 × gG} {F61 : Int32 → Int32 → Int32 → Int64 → Int64 → Int64 → Int32 → Int32 → gG → Option (Int32 × gG)} {l1 : Int32} {l2 : Int32} {l4 : Int64} {l6 : Int64} {l8 : Int64} {l10 : Int32} {l11 : Int32} {l12 : Int64} {l15 : Int32} {l16 : Int64} {l18 : Int64} {l20 : Int64} {g : gG} {H : Heap} {locs : List Loc} {ls : Array Slot} {N61 : Nat} (hF61 : ∀ (cells slots : Nat) (l1 : Int32) (l2 : Int32) (l3 : Int32) (l4 : Int64) (l6 : Int64) (l8 : Int64) (l10 : Int32) (l11 : Int32) (g : gG) (H : Heap) (locs : List Loc) (ls : Array Slot), F61 l1 l2 l3 l4 l6 l8 l10 l11 g = some z → va_P (gD Γ) gcls (lay Γ g) H → va_S (gA Γ) s.heap H locs → lv_has ls 27 [(0, .ref (gB Γ + 0)), (1, .int l1), (2, .int l2), (3, .int l3), (4, .long l4), (6, .long l6), (8, .long l8), (10, .int l10), (11, .int l11)] → cells + N61 ≤ 938 → slots + 6 * N61 ≤ 5628 → W p l e (gRx 9 169 938 5628) s m args below meth c H locs cells slots (MQ below (gQi Γ z) args s 938 5628 (gA Γ)) (F0 m 61 ls [])) {cells slots N : Nat} (hr1 : cells + N ≤ 938) (hr2 : slots + 6 * N ≤ 5628) (hn_61 : 46 + N61 ≤ N) (h : fs_L_kept_377 F61 l1 l2 l4 l6 l8 l10 l11 l12 l15 l16 l18 l20 g = some z) (hP : va_P (gD Γ) gcls (lay Γ g) H) (hS : va_S (gA Γ) s.heap H locs) (hl : lv_has ls 27 [(0, .ref (gB Γ + 0)), (1, .int l1), (2, .int l2), (4, .long l4), (6, .long l6), (8, .long l8), (10, .int l10), (11, .int l11), (12, .long l12), (15, .int l15), (16, .long l16), (18, .long l18), (20, .long l20)]) : W p l e (gRx 9 169 938 5628) s m args below meth c H locs cells slots (MQ below (gQi Γ z) args s 938 5628 (gA Γ)) (F0 m 377 ls []) := by
  unfold fs_L_kept_377 at h
  obtain ⟨hx, hb, hml, hr, hown, hts, hK, hlk, hX⟩ := id C0
  refine lv_iconst (v := 0) hx hb dL_kept_377 (by decide) ?_
  exact bs_L_kept_378 C0 hst hF61 (N := (N - 0)) (by omega) (by omega) (by omega) h hP hS (lv_sub hl [0, 1, 2, 3, 4, 5, 6, 7, 8, 9, 10, 11, 12] rfl)
set_option maxHeartbeats 2000000 in
set_option maxRecDepth 20000 in
theorem bs_L_kept_310 {p : Program} {l : Launch} {e : Env} {s : State} {m : MethodId} {args : Array Value} {below : List Frame} {meth : Method} {c : Code} {Γ : gE} (C0 : gCx p s m args meth c Γ RL cL_kept 27 (some .boolean)) (hst : l.stackTraces = false)   {z : Int32 × gG} {F61 : Int32 → Int32 → Int32 → Int64 → Int64 → Int64 → Int32 → Int32 → gG → Option (Int32 × gG)} {l1 : Int32} {l2 : Int32} {l4 : Int64} {l6 : Int64} {l8 : Int64} {l10 : Int32} {l11 : Int32} {l12 : Int64} {l14 : Int32} {l15 : Int32} {l16 : Int64} {l18 : Int64} {l20 : Int64} {s0 : Int64} {s1 : Int64} {g : gG} {H : Heap} {locs : List Loc} {ls : Array Slot} {N61 : Nat} (hF61 : ∀ (cells slots : Nat) (l1 : Int32) (l2 : Int32) (l3 : Int32) (l4 : Int64) (l6 : Int64) (l8 : Int64) (l10 : Int32) (l11 : Int32) (g : gG) (H : Heap) (locs : List Loc) (ls : Array Slot), F61 l1 l2 l3 l4 l6 l8 l10 l11 g = some z → va_P (gD Γ) gcls (lay Γ g) H → va_S (gA Γ) s.heap H locs → lv_has ls 27 [(0, .ref (gB Γ + 0)), (1, .int l1), (2, .int l2), (3, .int l3), (4, .long l4), (6, .long l6), (8, .long l8), (10, .int l10), (11, .int l11)] → cells + N61 ≤ 938 → slots + 6 * N61 ≤ 5628 → W p l e (gRx 9 169 938 5628) s m args below meth c H locs cells slots (MQ below (gQi Γ z) args s 938 5628 (gA Γ)) (F0 m 61 ls [])) {cells slots N : Nat} (hr1 : cells + N ≤ 938) (hr2 : slots + 6 * N ≤ 5628) (hn_61 : 50 + N61 ≤ N) (h : fs_L_kept_310 F61 l1 l2 l4 l6 l8 l10 l11 l12 l14 l15 l16 l18 l20 s0 s1 g = some z) (hP : va_P (gD Γ) gcls (lay Γ g) H) (hS : va_S (gA Γ) s.heap H locs) (hl : lv_has ls 27 [(0, .ref (gB Γ + 0)), (1, .int l1), (2, .int l2), (4, .long l4), (6, .long l6), (8, .long l8), (10, .int l10), (11, .int l11), (12, .long l12), (14, .int l14), (15, .int l15), (16, .long l16), (18, .long l18), (20, .long l20)]) : W p l e (gRx 9 169 938 5628) s m args below meth c H locs cells slots (MQ below (gQi Γ z) args s 938 5628 (gA Γ)) (F0 m 310 ls [.long s1, .long s0]) := by
  unfold fs_L_kept_310 at h
  obtain ⟨hx, hb, hml, hr, hown, hts, hK, hlk, hX⟩ := id C0
  refine W.lcmp hx hb dL_kept_310 ?_
  refine lv_if_ne (tgt := 377) hx hb dL_kept_311 (by decide) (fun c1 => ?_) (fun c1 => ?_)
  · replace h := gneg c1 h
    exact bs_L_kept_377 C0 hst hF61 (N := (N - 0)) (by omega) (by omega) (by omega) h hP hS (lv_sub hl [0, 1, 2, 3, 4, 5, 6, 7, 8, 10, 11, 12, 13] rfl)
  · replace h := gpos c1 h
    refine lv_aload_n hx hb dL_kept_314 rfl (lv_at hl 0 rfl) ?_
    refine lv_iload hx hb dL_kept_315 (lv_at hl 7 rfl) ?_
    refine lv_iconst (v := 4) hx hb dL_kept_317 (by decide) ?_
    refine gCHl (n2 := 3) (rest := []) C0 wcw_L_team wn_L (by decide +kernel) wl_L_114 wt_L_team ⟨Nat.le_of_ble_eq_true rfl, Nat.le_of_ble_eq_true rfl⟩ ⟨gRcl (by omega), gRsl (by omega)⟩ [.ref (gB Γ + 0), .int l11, .int (4 : Int32)] rfl (Nat.le_of_ble_eq_true rfl) hP hS hl.1 dL_kept_318 h (fun u hu => m_L_team l hst Γ l11 (4 : Int32) g u hu) (fun u2 H locs h hP hS => ?_) rfl
    refine lv_lload hx hb dL_kept_321 (lv_at hl 11 rfl) ?_
    refine W.lcmp hx hb dL_kept_323 ?_
    refine lv_if_ne (tgt := 377) hx hb dL_kept_324 (by decide) (fun c3 => ?_) (fun c3 => ?_)
    · replace h := gneg c3 h
      exact bs_L_kept_377 C0 hst hF61 (N := (N - 2)) (by omega) (by omega) (by omega) h hP hS (lv_sub hl [0, 1, 2, 3, 4, 5, 6, 7, 8, 10, 11, 12, 13] rfl)
    · replace h := gpos c3 h
      refine lv_aload_n hx hb dL_kept_327 rfl (lv_at hl 0 rfl) ?_
      refine lv_iload hx hb dL_kept_328 (lv_at hl 7 rfl) ?_
      refine lv_iconst (v := 2) hx hb dL_kept_330 (by decide) ?_
      refine gCHl (n2 := 3) (rest := []) C0 wcw_L_team wn_L (by decide +kernel) wl_L_114 wt_L_team ⟨Nat.le_of_ble_eq_true rfl, Nat.le_of_ble_eq_true rfl⟩ ⟨gRcl (by omega), gRsl (by omega)⟩ [.ref (gB Γ + 0), .int l11, .int (2 : Int32)] rfl (Nat.le_of_ble_eq_true rfl) hP hS hl.1 dL_kept_331 h (fun u hu => m_L_team l hst Γ l11 (2 : Int32) u2.2 u hu) (fun u4 H locs h hP hS => ?_) rfl
      refine lv_iload hx hb dL_kept_334 (lv_at hl 9 rfl) ?_
      refine lv_i2l hx hb dL_kept_336 rfl ?_
      refine lv_bipush (v := 19) hx hb dL_kept_337 (by decide) ?_
      refine lv_iload hx hb dL_kept_339 (lv_at hl 9 rfl) ?_
      refine lv_imul hx hb dL_kept_341 ?_
      refine lv_i2l hx hb dL_kept_342 rfl ?_
      refine gCSi (rest := []) C0 cal_L_in wl_L_172 wt_L_in ⟨Nat.le_of_ble_eq_true rfl, Nat.le_of_ble_eq_true rfl⟩ ⟨gRcl (by omega), gRsl (by omega)⟩ [.long u4.1, .long l14.toInt64, .long (((19 : Int32) * l14).toInt64)] rfl (Nat.le_of_ble_eq_true rfl) hP hS hl.1 dL_kept_343 h (fun u hu => m_L_in l Γ u4.1 l14.toInt64 (((19 : Int32) * l14).toInt64) u4.2 u hu) (fun u5 H locs h hP hS => ?_) rfl
      refine lv_if_eq (tgt := 377) hx hb dL_kept_346 (by decide) (fun c6 => ?_) (fun c6 => ?_)
      · replace h := gpos c6 h
        exact bs_L_kept_377 C0 hst hF61 (N := (N - 4)) (by omega) (by omega) (by omega) h hP hS (lv_sub hl [0, 1, 2, 3, 4, 5, 6, 7, 8, 10, 11, 12, 13] rfl)
      · replace h := gneg c6 h
        refine lv_lload hx hb dL_kept_349 (lv_at hl 13 rfl) ?_
        refine lv_lload hx hb dL_kept_351 (lv_at hl 12 rfl) ?_
        refine lv_ldc2 (v := -1) hx hb hown (hts _ wkl_L_182) dL_kept_353 ?_
        refine lv_lxor hx hb dL_kept_356 ?_
        refine lv_land hx hb dL_kept_357 ?_
        refine lv_lconst (v := 0) hx hb dL_kept_358 (by decide) ?_
        refine W.lcmp hx hb dL_kept_359 ?_
        refine lv_if_ne (tgt := 377) hx hb dL_kept_360 (by decide) (fun c7 => ?_) (fun c7 => ?_)
        · replace h := gneg c7 h
          exact bs_L_kept_377 C0 hst hF61 (N := (N - 4)) (by omega) (by omega) (by omega) h hP hS (lv_sub hl [0, 1, 2, 3, 4, 5, 6, 7, 8, 10, 11, 12, 13] rfl)
        · replace h := gpos c7 h
          refine lv_lload hx hb dL_kept_363 (lv_at hl 12 rfl) ?_
          refine lv_lload hx hb dL_kept_365 (lv_at hl 8 rfl) ?_
          refine lv_land hx hb dL_kept_367 ?_
          refine lv_lconst (v := 0) hx hb dL_kept_368 (by decide) ?_
          refine W.lcmp hx hb dL_kept_369 ?_
          refine lv_if_ne (tgt := 377) hx hb dL_kept_370 (by decide) (fun c8 => ?_) (fun c8 => ?_)
          · replace h := gneg c8 h
            exact bs_L_kept_377 C0 hst hF61 (N := (N - 4)) (by omega) (by omega) (by omega) h hP hS (lv_sub hl [0, 1, 2, 3, 4, 5, 6, 7, 8, 10, 11, 12, 13] rfl)
          · replace h := gpos c8 h
            refine lv_iconst (v := 1) hx hb dL_kept_373 (by decide) ?_
            refine lv_goto (tgt := 378) hx hb dL_kept_374 (by decide) ?_
            exact bs_L_kept_378 C0 hst hF61 (N := (N - 4)) (by omega) (by omega) (by omega) h hP hS (lv_sub hl [0, 1, 2, 3, 4, 5, 6, 7, 8, 10, 11, 12, 13] rfl)
set_option maxHeartbeats 2000000 in
set_option maxRecDepth 20000 in
theorem bs_L_kept_233 {p : Program} {l : Launch} {e : Env} {s : State} {m : MethodId} {args : Array Value} {below : List Frame} {meth : Method} {c : Code} {Γ : gE} (C0 : gCx p s m args meth c Γ RL cL_kept 27 (some .boolean)) (hst : l.stackTraces = false)   {z : Int32 × gG} {F61 : Int32 → Int32 → Int32 → Int64 → Int64 → Int64 → Int32 → Int32 → gG → Option (Int32 × gG)} {l1 : Int32} {l2 : Int32} {l3 : Int32} {l4 : Int64} {l6 : Int64} {l8 : Int64} {l10 : Int32} {l11 : Int32} {l12 : Int64} {l14 : Int32} {l15 : Int32} {s0 : Int64} {g : gG} {H : Heap} {locs : List Loc} {ls : Array Slot} {N61 : Nat} (hF61 : ∀ (cells slots : Nat) (l1 : Int32) (l2 : Int32) (l3 : Int32) (l4 : Int64) (l6 : Int64) (l8 : Int64) (l10 : Int32) (l11 : Int32) (g : gG) (H : Heap) (locs : List Loc) (ls : Array Slot), F61 l1 l2 l3 l4 l6 l8 l10 l11 g = some z → va_P (gD Γ) gcls (lay Γ g) H → va_S (gA Γ) s.heap H locs → lv_has ls 27 [(0, .ref (gB Γ + 0)), (1, .int l1), (2, .int l2), (3, .int l3), (4, .long l4), (6, .long l6), (8, .long l8), (10, .int l10), (11, .int l11)] → cells + N61 ≤ 938 → slots + 6 * N61 ≤ 5628 → W p l e (gRx 9 169 938 5628) s m args below meth c H locs cells slots (MQ below (gQi Γ z) args s 938 5628 (gA Γ)) (F0 m 61 ls [])) {cells slots N : Nat} (hr1 : cells + N ≤ 938) (hr2 : slots + 6 * N ≤ 5628) (hn_61 : 60 + N61 ≤ N) (h : fs_L_kept_233 F61 l1 l2 l3 l4 l6 l8 l10 l11 l12 l14 l15 s0 g = some z) (hP : va_P (gD Γ) gcls (lay Γ g) H) (hS : va_S (gA Γ) s.heap H locs) (hl : lv_has ls 27 [(0, .ref (gB Γ + 0)), (1, .int l1), (2, .int l2), (3, .int l3), (4, .long l4), (6, .long l6), (8, .long l8), (10, .int l10), (11, .int l11), (12, .long l12), (14, .int l14), (15, .int l15)]) : W p l e (gRx 9 169 938 5628) s m args below meth c H locs cells slots (MQ below (gQi Γ z) args s 938 5628 (gA Γ)) (F0 m 233 ls [.long s0]) := by
  unfold fs_L_kept_233 at h
  obtain ⟨hx, hb, hml, hr, hown, hts, hK, hlk, hX⟩ := id C0
  refine lv_lstore (lv' := [(16, .long s0), (0, .ref (gB Γ + 0)), (1, .int l1), (2, .int l2), (3, .int l3), (4, .long l4), (6, .long l6), (8, .long l8), (10, .int l10), (11, .int l11), (12, .long l12), (14, .int l14), (15, .int l15)]) hx hb dL_kept_233 hl (by decide) rfl (fun ls hl => ?_)
  refine lv_aload_n hx hb dL_kept_235 rfl (lv_at hl 1 rfl) ?_
  refine lv_iload hx hb dL_kept_236 (lv_at hl 9 rfl) ?_
  refine gCHl (n2 := 2) (rest := []) C0 wcw_L_open wn_L (by decide +kernel) wl_L_116 wt_L_open ⟨Nat.le_of_ble_eq_true rfl, Nat.le_of_ble_eq_true rfl⟩ ⟨gRcl (by omega), gRsl (by omega)⟩ [.ref (gB Γ + 0), .int l11] rfl (Nat.le_of_ble_eq_true rfl) hP hS hl.1 dL_kept_238 h (fun u hu => m_L_open l hst Γ l11 g u hu) (fun u1 H locs h hP hS => ?_) rfl
  refine lv_topl (fun x2 ex2 => ?_)
  replace h := gLetI ex2 h
  refine lv_lstore (lv' := [(18, .long x2), (16, .long s0), (0, .ref (gB Γ + 0)), (1, .int l1), (2, .int l2), (3, .int l3), (4, .long l4), (6, .long l6), (8, .long l8), (10, .int l10), (11, .int l11), (12, .long l12), (14, .int l14), (15, .int l15)]) hx hb dL_kept_241 hl (by decide) rfl (fun ls hl => ?_)
  refine lv_aload_n hx hb dL_kept_243 rfl (lv_at hl 2 rfl) ?_
  refine lv_iload hx hb dL_kept_244 (lv_at hl 10 rfl) ?_
  refine gCHl (n2 := 2) (rest := []) C0 wcw_L_safe wn_L (by decide +kernel) wl_L_145 wt_L_safe ⟨Nat.le_of_ble_eq_true rfl, Nat.le_of_ble_eq_true rfl⟩ ⟨gRcl (by omega), gRsl (by omega)⟩ [.ref (gB Γ + 0), .int l11] rfl (Nat.le_of_ble_eq_true rfl) hP hS hl.1 dL_kept_246 h (fun u hu => m_L_safe l hst Γ l11 u1.2 u hu) (fun u3 H locs h hP hS => ?_) rfl
  refine lv_topl (fun x4 ex4 => ?_)
  replace h := gLetI ex4 h
  refine lv_lstore (lv' := [(20, .long x4), (18, .long x2), (16, .long s0), (0, .ref (gB Γ + 0)), (1, .int l1), (2, .int l2), (3, .int l3), (4, .long l4), (6, .long l6), (8, .long l8), (10, .int l10), (11, .int l11), (12, .long l12), (14, .int l14), (15, .int l15)]) hx hb dL_kept_249 hl (by decide) rfl (fun ls hl => ?_)
  refine lv_iload_n hx hb dL_kept_251 rfl (lv_at hl 6 rfl) ?_
  refine lv_if_eq (tgt := 377) hx hb dL_kept_252 (by decide) (fun c5 => ?_) (fun c5 => ?_)
  · replace h := gpos c5 h
    exact bs_L_kept_377 C0 hst hF61 (N := (N - 2)) (by omega) (by omega) (by omega) h hP hS (lv_sub hl [3, 4, 5, 7, 8, 9, 10, 11, 12, 14, 2, 1, 0] rfl)
  · replace h := gneg c5 h
    refine lv_aload_n hx hb dL_kept_255 rfl (lv_at hl 3 rfl) ?_
    refine lv_iload hx hb dL_kept_256 (lv_at hl 11 rfl) ?_
    refine lv_iconst (v := 0) hx hb dL_kept_258 (by decide) ?_
    refine gCHl (n2 := 3) (rest := []) C0 wcw_L_team wn_L (by decide +kernel) wl_L_114 wt_L_team ⟨Nat.le_of_ble_eq_true rfl, Nat.le_of_ble_eq_true rfl⟩ ⟨gRcl (by omega), gRsl (by omega)⟩ [.ref (gB Γ + 0), .int l11, .int (0 : Int32)] rfl (Nat.le_of_ble_eq_true rfl) hP hS hl.1 dL_kept_259 h (fun u hu => m_L_team l hst Γ l11 (0 : Int32) u3.2 u hu) (fun u6 H locs h hP hS => ?_) rfl
    refine lv_lload hx hb dL_kept_262 (lv_at hl 12 rfl) ?_
    refine W.lcmp hx hb dL_kept_264 ?_
    refine lv_if_ne (tgt := 377) hx hb dL_kept_265 (by decide) (fun c7 => ?_) (fun c7 => ?_)
    · replace h := gneg c7 h
      exact bs_L_kept_377 C0 hst hF61 (N := (N - 4)) (by omega) (by omega) (by omega) h hP hS (lv_sub hl [3, 4, 5, 7, 8, 9, 10, 11, 12, 14, 2, 1, 0] rfl)
    · replace h := gpos c7 h
      refine lv_aload_n hx hb dL_kept_268 rfl (lv_at hl 3 rfl) ?_
      refine lv_iload hx hb dL_kept_269 (lv_at hl 11 rfl) ?_
      refine lv_iconst (v := 1) hx hb dL_kept_271 (by decide) ?_
      refine gCHl (n2 := 3) (rest := []) C0 wcw_L_team wn_L (by decide +kernel) wl_L_114 wt_L_team ⟨Nat.le_of_ble_eq_true rfl, Nat.le_of_ble_eq_true rfl⟩ ⟨gRcl (by omega), gRsl (by omega)⟩ [.ref (gB Γ + 0), .int l11, .int (1 : Int32)] rfl (Nat.le_of_ble_eq_true rfl) hP hS hl.1 dL_kept_272 h (fun u hu => m_L_team l hst Γ l11 (1 : Int32) u6.2 u hu) (fun u8 H locs h hP hS => ?_) rfl
      refine lv_iload hx hb dL_kept_275 (lv_at hl 13 rfl) ?_
      refine lv_i2l hx hb dL_kept_277 rfl ?_
      refine W.lcmp hx hb dL_kept_278 ?_
      refine lv_if_ne (tgt := 377) hx hb dL_kept_279 (by decide) (fun c9 => ?_) (fun c9 => ?_)
      · replace h := gneg c9 h
        exact bs_L_kept_377 C0 hst hF61 (N := (N - 6)) (by omega) (by omega) (by omega) h hP hS (lv_sub hl [3, 4, 5, 7, 8, 9, 10, 11, 12, 14, 2, 1, 0] rfl)
      · replace h := gpos c9 h
        refine lv_aload_n hx hb dL_kept_282 rfl (lv_at hl 3 rfl) ?_
        refine lv_iload hx hb dL_kept_283 (lv_at hl 11 rfl) ?_
        refine lv_iconst (v := 5) hx hb dL_kept_285 (by decide) ?_
        refine gCHl (n2 := 3) (rest := []) C0 wcw_L_team wn_L (by decide +kernel) wl_L_114 wt_L_team ⟨Nat.le_of_ble_eq_true rfl, Nat.le_of_ble_eq_true rfl⟩ ⟨gRcl (by omega), gRsl (by omega)⟩ [.ref (gB Γ + 0), .int l11, .int (5 : Int32)] rfl (Nat.le_of_ble_eq_true rfl) hP hS hl.1 dL_kept_286 h (fun u hu => m_L_team l hst Γ l11 (5 : Int32) u8.2 u hu) (fun u10 H locs h hP hS => ?_) rfl
        refine lv_iload hx hb dL_kept_289 (lv_at hl 13 rfl) ?_
        refine lv_if_ne (tgt := 300) hx hb dL_kept_291 (by decide) (fun c11 => ?_) (fun c11 => ?_)
        · replace h := gneg c11 h
          refine lv_aload_n hx hb dL_kept_300 rfl (lv_at hl 3 rfl) ?_
          refine lv_iload hx hb dL_kept_301 (lv_at hl 11 rfl) ?_
          refine lv_iload hx hb dL_kept_303 (lv_at hl 13 rfl) ?_
          refine lv_iconst (v := 1) hx hb dL_kept_305 (by decide) ?_
          refine lv_isub hx hb dL_kept_306 ?_
          refine gCHl (n2 := 3) (rest := [.long u10.1]) C0 wcw_L_trail wn_L (by decide +kernel) wl_L_126 wt_L_trail ⟨Nat.le_of_ble_eq_true rfl, Nat.le_of_ble_eq_true rfl⟩ ⟨gRcl (by omega), gRsl (by omega)⟩ [.ref (gB Γ + 0), .int l11, .int (l14 - (1 : Int32))] rfl (Nat.le_of_ble_eq_true rfl) hP hS hl.1 dL_kept_307 h (fun u hu => m_L_trail l hst Γ l11 (l14 - (1 : Int32)) u10.2 u hu) (fun u12 H locs h hP hS => ?_) rfl
          exact bs_L_kept_310 C0 hst hF61 (N := (N - 10)) (by omega) (by omega) (by omega) h hP hS (lv_sub hl [3, 4, 5, 7, 8, 9, 10, 11, 12, 13, 14, 2, 1, 0] rfl)
        · replace h := gpos c11 h
          refine lv_ldc2 (v := -9) hx hb hown (hts _ wkl_L_178) dL_kept_294 ?_
          refine lv_goto (tgt := 310) hx hb dL_kept_297 (by decide) ?_
          exact bs_L_kept_310 C0 hst hF61 (N := (N - 8)) (by omega) (by omega) (by omega) h hP hS (lv_sub hl [3, 4, 5, 7, 8, 9, 10, 11, 12, 13, 14, 2, 1, 0] rfl)
set_option maxHeartbeats 2000000 in
set_option maxRecDepth 20000 in
theorem bs_L_kept_232 {p : Program} {l : Launch} {e : Env} {s : State} {m : MethodId} {args : Array Value} {below : List Frame} {meth : Method} {c : Code} {Γ : gE} (C0 : gCx p s m args meth c Γ RL cL_kept 27 (some .boolean)) (hst : l.stackTraces = false)   {z : Int32 × gG} {F61 : Int32 → Int32 → Int32 → Int64 → Int64 → Int64 → Int32 → Int32 → gG → Option (Int32 × gG)} {l1 : Int32} {l2 : Int32} {l3 : Int32} {l4 : Int64} {l6 : Int64} {l8 : Int64} {l10 : Int32} {l11 : Int32} {l12 : Int64} {l14 : Int32} {l15 : Int32} {g : gG} {H : Heap} {locs : List Loc} {ls : Array Slot} {N61 : Nat} (hF61 : ∀ (cells slots : Nat) (l1 : Int32) (l2 : Int32) (l3 : Int32) (l4 : Int64) (l6 : Int64) (l8 : Int64) (l10 : Int32) (l11 : Int32) (g : gG) (H : Heap) (locs : List Loc) (ls : Array Slot), F61 l1 l2 l3 l4 l6 l8 l10 l11 g = some z → va_P (gD Γ) gcls (lay Γ g) H → va_S (gA Γ) s.heap H locs → lv_has ls 27 [(0, .ref (gB Γ + 0)), (1, .int l1), (2, .int l2), (3, .int l3), (4, .long l4), (6, .long l6), (8, .long l8), (10, .int l10), (11, .int l11)] → cells + N61 ≤ 938 → slots + 6 * N61 ≤ 5628 → W p l e (gRx 9 169 938 5628) s m args below meth c H locs cells slots (MQ below (gQi Γ z) args s 938 5628 (gA Γ)) (F0 m 61 ls [])) {cells slots N : Nat} (hr1 : cells + N ≤ 938) (hr2 : slots + 6 * N ≤ 5628) (hn_61 : 60 + N61 ≤ N) (h : fs_L_kept_232 F61 l1 l2 l3 l4 l6 l8 l10 l11 l12 l14 l15 g = some z) (hP : va_P (gD Γ) gcls (lay Γ g) H) (hS : va_S (gA Γ) s.heap H locs) (hl : lv_has ls 27 [(0, .ref (gB Γ + 0)), (1, .int l1), (2, .int l2), (3, .int l3), (4, .long l4), (6, .long l6), (8, .long l8), (10, .int l10), (11, .int l11), (12, .long l12), (14, .int l14), (15, .int l15)]) : W p l e (gRx 9 169 938 5628) s m args below meth c H locs cells slots (MQ below (gQi Γ z) args s 938 5628 (gA Γ)) (F0 m 232 ls []) := by
  unfold fs_L_kept_232 at h
  obtain ⟨hx, hb, hml, hr, hown, hts, hK, hlk, hX⟩ := id C0
  refine lv_lconst (v := 0) hx hb dL_kept_232 (by decide) ?_
  exact bs_L_kept_233 C0 hst hF61 (N := (N - 0)) (by omega) (by omega) (by omega) h hP hS (lv_sub hl [0, 1, 2, 3, 4, 5, 6, 7, 8, 9, 10, 11] rfl)
set_option maxHeartbeats 2000000 in
set_option maxRecDepth 20000 in
theorem bs_L_kept_180 {p : Program} {l : Launch} {e : Env} {s : State} {m : MethodId} {args : Array Value} {below : List Frame} {meth : Method} {c : Code} {Γ : gE} (C0 : gCx p s m args meth c Γ RL cL_kept 27 (some .boolean)) (hst : l.stackTraces = false)   {z : Int32 × gG} {F61 : Int32 → Int32 → Int32 → Int64 → Int64 → Int64 → Int32 → Int32 → gG → Option (Int32 × gG)} {l1 : Int32} {l2 : Int32} {l3 : Int32} {l4 : Int64} {l6 : Int64} {l8 : Int64} {l10 : Int32} {l11 : Int32} {l12 : Int64} {l14 : Int32} {g : gG} {H : Heap} {locs : List Loc} {ls : Array Slot} {N61 : Nat} (hF61 : ∀ (cells slots : Nat) (l1 : Int32) (l2 : Int32) (l3 : Int32) (l4 : Int64) (l6 : Int64) (l8 : Int64) (l10 : Int32) (l11 : Int32) (g : gG) (H : Heap) (locs : List Loc) (ls : Array Slot), F61 l1 l2 l3 l4 l6 l8 l10 l11 g = some z → va_P (gD Γ) gcls (lay Γ g) H → va_S (gA Γ) s.heap H locs → lv_has ls 27 [(0, .ref (gB Γ + 0)), (1, .int l1), (2, .int l2), (3, .int l3), (4, .long l4), (6, .long l6), (8, .long l8), (10, .int l10), (11, .int l11)] → cells + N61 ≤ 938 → slots + 6 * N61 ≤ 5628 → W p l e (gRx 9 169 938 5628) s m args below meth c H locs cells slots (MQ below (gQi Γ z) args s 938 5628 (gA Γ)) (F0 m 61 ls [])) {cells slots N : Nat} (hr1 : cells + N ≤ 938) (hr2 : slots + 6 * N ≤ 5628) (hn_61 : 64 + N61 ≤ N) (h : fs_L_kept_180 F61 l1 l2 l3 l4 l6 l8 l10 l11 l12 l14 g = some z) (hP : va_P (gD Γ) gcls (lay Γ g) H) (hS : va_S (gA Γ) s.heap H locs) (hl : lv_has ls 27 [(0, .ref (gB Γ + 0)), (1, .int l1), (2, .int l2), (3, .int l3), (4, .long l4), (6, .long l6), (8, .long l8), (10, .int l10), (11, .int l11), (12, .long l12), (14, .int l14)]) : W p l e (gRx 9 169 938 5628) s m args below meth c H locs cells slots (MQ below (gQi Γ z) args s 938 5628 (gA Γ)) (F0 m 180 ls []) := by
  unfold fs_L_kept_180 at h
  obtain ⟨hx, hb, hml, hr, hown, hts, hK, hlk, hX⟩ := id C0
  refine lv_lload hx hb dL_kept_180 (lv_at hl 9 rfl) ?_
  refine lv_iload_n hx hb dL_kept_182 rfl (lv_at hl 1 rfl) ?_
  refine lv_iconst (v := 1) hx hb dL_kept_183 (by decide) ?_
  refine lv_isub hx hb dL_kept_184 ?_
  refine gCSi (rest := []) C0 cal_L_has wl_L_147 wt_L_has ⟨Nat.le_of_ble_eq_true rfl, Nat.le_of_ble_eq_true rfl⟩ ⟨gRcl (by omega), gRsl (by omega)⟩ [.long l12, .int (l1 - (1 : Int32))] rfl (Nat.le_of_ble_eq_true rfl) hP hS hl.1 dL_kept_185 h (fun u hu => m_L_has l Γ l12 (l1 - (1 : Int32)) g u hu) (fun u1 H locs h hP hS => ?_) rfl
  refine lv_topi (fun x2 ex2 => ?_)
  replace h := gLetI ex2 h
  refine lv_istore (lv' := [(15, .int x2), (0, .ref (gB Γ + 0)), (1, .int l1), (2, .int l2), (3, .int l3), (4, .long l4), (6, .long l6), (8, .long l8), (10, .int l10), (11, .int l11), (12, .long l12), (14, .int l14)]) hx hb dL_kept_188 hl (by decide) rfl (fun ls hl => ?_)
  refine lv_ldc2 (v := 200) hx hb hown (hts _ wkl_L_180) dL_kept_190 ?_
  refine lv_aload_n hx hb dL_kept_193 rfl (lv_at hl 1 rfl) ?_
  refine lv_iload hx hb dL_kept_194 (lv_at hl 9 rfl) ?_
  refine lv_iconst (v := 2) hx hb dL_kept_196 (by decide) ?_
  refine gCHl (n2 := 3) (rest := [.long (200 : Int64)]) C0 wcw_L_team wn_L (by decide +kernel) wl_L_114 wt_L_team ⟨Nat.le_of_ble_eq_true rfl, Nat.le_of_ble_eq_true rfl⟩ ⟨gRcl (by omega), gRsl (by omega)⟩ [.ref (gB Γ + 0), .int l11, .int (2 : Int32)] rfl (Nat.le_of_ble_eq_true rfl) hP hS hl.1 dL_kept_197 h (fun u hu => m_L_team l hst Γ l11 (2 : Int32) u1.2 u hu) (fun u3 H locs h hP hS => ?_) rfl
  refine lv_lsub hx hb dL_kept_200 ?_
  refine lv_ldc2 (v := 10) hx hb hown (hts _ wkl_L_170) dL_kept_201 ?_
  refine lv_aload_n hx hb dL_kept_204 rfl (lv_at hl 1 rfl) ?_
  refine lv_iload hx hb dL_kept_205 (lv_at hl 9 rfl) ?_
  refine lv_iconst (v := 3) hx hb dL_kept_207 (by decide) ?_
  refine gCHl (n2 := 3) (rest := [.long (10 : Int64), .long ((200 : Int64) - u3.1)]) C0 wcw_L_team wn_L (by decide +kernel) wl_L_114 wt_L_team ⟨Nat.le_of_ble_eq_true rfl, Nat.le_of_ble_eq_true rfl⟩ ⟨gRcl (by omega), gRsl (by omega)⟩ [.ref (gB Γ + 0), .int l11, .int (3 : Int32)] rfl (Nat.le_of_ble_eq_true rfl) hP hS hl.1 dL_kept_208 h (fun u hu => m_L_team l hst Γ l11 (3 : Int32) u3.2 u hu) (fun u4 H locs h hP hS => ?_) rfl
  refine lv_lmul hx hb dL_kept_211 ?_
  refine lv_lsub hx hb dL_kept_212 ?_
  refine lv_topl (fun x5 ex5 => ?_)
  replace h := gLetI ex5 h
  refine lv_lstore (lv' := [(16, .long x5), (15, .int x2), (0, .ref (gB Γ + 0)), (1, .int l1), (2, .int l2), (3, .int l3), (4, .long l4), (6, .long l6), (8, .long l8), (10, .int l10), (11, .int l11), (12, .long l12), (14, .int l14)]) hx hb dL_kept_213 hl (by decide) rfl (fun ls hl => ?_)
  refine lv_iload hx hb dL_kept_215 (lv_at hl 1 rfl) ?_
  refine lv_if_eq (tgt := 232) hx hb dL_kept_217 (by decide) (fun c6 => ?_) (fun c6 => ?_)
  · replace h := gpos c6 h
    exact bs_L_kept_232 C0 hst hF61 (N := (N - 4)) (by omega) (by omega) (by omega) h hP hS (lv_sub hl [2, 3, 4, 5, 6, 7, 8, 9, 10, 11, 12, 1] rfl)
  · replace h := gneg c6 h
    refine lv_lload hx hb dL_kept_220 (lv_at hl 0 rfl) ?_
    refine lv_lconst (v := 0) hx hb dL_kept_222 (by decide) ?_
    refine W.lcmp hx hb dL_kept_223 ?_
    refine lv_if_le (tgt := 232) hx hb dL_kept_224 (by decide) (fun c7 => ?_) (fun c7 => ?_)
    · replace h := gpos c7 h
      exact bs_L_kept_232 C0 hst hF61 (N := (N - 4)) (by omega) (by omega) (by omega) h hP hS (lv_sub hl [2, 3, 4, 5, 6, 7, 8, 9, 10, 11, 12, 1] rfl)
    · replace h := gneg c7 h
      refine lv_lload hx hb dL_kept_227 (lv_at hl 0 rfl) ?_
      refine lv_goto (tgt := 233) hx hb dL_kept_229 (by decide) ?_
      exact bs_L_kept_233 C0 hst hF61 (N := (N - 4)) (by omega) (by omega) (by omega) h hP hS (lv_sub hl [2, 3, 4, 5, 6, 7, 8, 9, 10, 11, 12, 1] rfl)
set_option maxHeartbeats 2000000 in
set_option maxRecDepth 20000 in
theorem bs_L_kept_157 {p : Program} {l : Launch} {e : Env} {s : State} {m : MethodId} {args : Array Value} {below : List Frame} {meth : Method} {c : Code} {Γ : gE} (C0 : gCx p s m args meth c Γ RL cL_kept 27 (some .boolean)) (hst : l.stackTraces = false)   {z : Int32 × gG} {F61 : Int32 → Int32 → Int32 → Int64 → Int64 → Int64 → Int32 → Int32 → gG → Option (Int32 × gG)} {F77 : Int32 → Int32 → Int32 → Int64 → Int64 → Int64 → Int32 → Int32 → Int64 → Int32 → gG → Option (Int32 × gG)} {l1 : Int32} {l2 : Int32} {l4 : Int64} {l6 : Int64} {l8 : Int64} {l10 : Int32} {l11 : Int32} {l12 : Int64} {l14 : Int32} {s0 : Int32} {g : gG} {H : Heap} {locs : List Loc} {ls : Array Slot} {N61 : Nat} (hF61 : ∀ (cells slots : Nat) (l1 : Int32) (l2 : Int32) (l3 : Int32) (l4 : Int64) (l6 : Int64) (l8 : Int64) (l10 : Int32) (l11 : Int32) (g : gG) (H : Heap) (locs : List Loc) (ls : Array Slot), F61 l1 l2 l3 l4 l6 l8 l10 l11 g = some z → va_P (gD Γ) gcls (lay Γ g) H → va_S (gA Γ) s.heap H locs → lv_has ls 27 [(0, .ref (gB Γ + 0)), (1, .int l1), (2, .int l2), (3, .int l3), (4, .long l4), (6, .long l6), (8, .long l8), (10, .int l10), (11, .int l11)] → cells + N61 ≤ 938 → slots + 6 * N61 ≤ 5628 → W p l e (gRx 9 169 938 5628) s m args below meth c H locs cells slots (MQ below (gQi Γ z) args s 938 5628 (gA Γ)) (F0 m 61 ls [])) {N77 : Nat} (hF77 : ∀ (cells slots : Nat) (l1 : Int32) (l2 : Int32) (l3 : Int32) (l4 : Int64) (l6 : Int64) (l8 : Int64) (l10 : Int32) (l11 : Int32) (l12 : Int64) (l14 : Int32) (g : gG) (H : Heap) (locs : List Loc) (ls : Array Slot), F77 l1 l2 l3 l4 l6 l8 l10 l11 l12 l14 g = some z → va_P (gD Γ) gcls (lay Γ g) H → va_S (gA Γ) s.heap H locs → lv_has ls 27 [(0, .ref (gB Γ + 0)), (1, .int l1), (2, .int l2), (3, .int l3), (4, .long l4), (6, .long l6), (8, .long l8), (10, .int l10), (11, .int l11), (12, .long l12), (14, .int l14)] → cells + N77 ≤ 938 → slots + 6 * N77 ≤ 5628 → W p l e (gRx 9 169 938 5628) s m args below meth c H locs cells slots (MQ below (gQi Γ z) args s 938 5628 (gA Γ)) (F0 m 77 ls [])) {cells slots N : Nat} (hr1 : cells + N ≤ 938) (hr2 : slots + 6 * N ≤ 5628) (hn_77 : 2 + N77 ≤ N) (h : fs_L_kept_157 F61 F77 l1 l2 l4 l6 l8 l10 l11 l12 l14 s0 g = some z) (hP : va_P (gD Γ) gcls (lay Γ g) H) (hS : va_S (gA Γ) s.heap H locs) (hl : lv_has ls 27 [(0, .ref (gB Γ + 0)), (1, .int l1), (2, .int l2), (4, .long l4), (6, .long l6), (8, .long l8), (10, .int l10), (11, .int l11), (12, .long l12), (14, .int l14)]) : W p l e (gRx 9 169 938 5628) s m args below meth c H locs cells slots (MQ below (gQi Γ z) args s 938 5628 (gA Γ)) (F0 m 157 ls [.int s0]) := by
  unfold fs_L_kept_157 at h
  obtain ⟨hx, hb, hml, hr, hown, hts, hK, hlk, hX⟩ := id C0
  refine lv_istore_n (lv' := [(3, .int s0), (0, .ref (gB Γ + 0)), (1, .int l1), (2, .int l2), (4, .long l4), (6, .long l6), (8, .long l8), (10, .int l10), (11, .int l11), (12, .long l12), (14, .int l14)]) hx hb dL_kept_157 rfl hl (by decide) rfl (fun ls hl => ?_)
  refine lv_lload hx hb dL_kept_158 (lv_at hl 9 rfl) ?_
  refine lv_lconst (v := 1) hx hb dL_kept_160 (by decide) ?_
  refine lv_aload_n hx hb dL_kept_161 rfl (lv_at hl 1 rfl) ?_
  refine lv_iload hx hb dL_kept_162 (lv_at hl 8 rfl) ?_
  refine lv_iload hx hb dL_kept_164 (lv_at hl 10 rfl) ?_
  refine gCHl (n2 := 3) (rest := [.long (1 : Int64), .long l12]) C0 wcw_L_trail wn_L (by decide +kernel) wl_L_126 wt_L_trail ⟨Nat.le_of_ble_eq_true rfl, Nat.le_of_ble_eq_true rfl⟩ ⟨gRcl (by omega), gRsl (by omega)⟩ [.ref (gB Γ + 0), .int l11, .int l14] rfl (Nat.le_of_ble_eq_true rfl) hP hS hl.1 dL_kept_166 h (fun u hu => m_L_trail l hst Γ l11 l14 g u hu) (fun u1 H locs h hP hS => ?_) rfl
  refine lv_l2i hx hb dL_kept_169 rfl ?_
  refine lv_lshl hx hb dL_kept_170 rfl ?_
  refine lv_lor hx hb dL_kept_171 ?_
  refine lv_topl (fun x2 ex2 => ?_)
  replace h := gLetI ex2 h
  refine lv_lstore (lv' := [(12, .long x2), (3, .int s0), (0, .ref (gB Γ + 0)), (1, .int l1), (2, .int l2), (4, .long l4), (6, .long l6), (8, .long l8), (10, .int l10), (11, .int l11), (14, .int l14)]) hx hb dL_kept_172 hl (by decide) rfl (fun ls hl => ?_)
  obtain ⟨x3, ex3⟩ : ∃ y : Int32, y = l14 + (1 : Int32) := ⟨_, rfl⟩
  replace h := gLetI ex3 h
  refine lv_iinc (v := x3) (lv' := [(14, .int x3), (12, .long x2), (3, .int s0), (0, .ref (gB Γ + 0)), (1, .int l1), (2, .int l2), (4, .long l4), (6, .long l6), (8, .long l8), (10, .int l10), (11, .int l11)]) hx hb dL_kept_174 hl (k := 10) rfl (by rw [ex3]; rfl) (by decide) rfl (fun ls hl => ?_)
  refine lv_goto (tgt := 77) hx hb dL_kept_177 (by decide) ?_
  exact hF77 _ _ _ _ _ _ _ _ _ _ _ _ _ _ _ _ h hP hS (lv_sub hl [3, 4, 5, 2, 6, 7, 8, 9, 10, 1, 0] rfl) (by omega) (by omega)
set_option maxHeartbeats 2000000 in
set_option maxRecDepth 20000 in
theorem bs_L_kept_156 {p : Program} {l : Launch} {e : Env} {s : State} {m : MethodId} {args : Array Value} {below : List Frame} {meth : Method} {c : Code} {Γ : gE} (C0 : gCx p s m args meth c Γ RL cL_kept 27 (some .boolean)) (hst : l.stackTraces = false)   {z : Int32 × gG} {F61 : Int32 → Int32 → Int32 → Int64 → Int64 → Int64 → Int32 → Int32 → gG → Option (Int32 × gG)} {F77 : Int32 → Int32 → Int32 → Int64 → Int64 → Int64 → Int32 → Int32 → Int64 → Int32 → gG → Option (Int32 × gG)} {l1 : Int32} {l2 : Int32} {l4 : Int64} {l6 : Int64} {l8 : Int64} {l10 : Int32} {l11 : Int32} {l12 : Int64} {l14 : Int32} {g : gG} {H : Heap} {locs : List Loc} {ls : Array Slot} {N61 : Nat} (hF61 : ∀ (cells slots : Nat) (l1 : Int32) (l2 : Int32) (l3 : Int32) (l4 : Int64) (l6 : Int64) (l8 : Int64) (l10 : Int32) (l11 : Int32) (g : gG) (H : Heap) (locs : List Loc) (ls : Array Slot), F61 l1 l2 l3 l4 l6 l8 l10 l11 g = some z → va_P (gD Γ) gcls (lay Γ g) H → va_S (gA Γ) s.heap H locs → lv_has ls 27 [(0, .ref (gB Γ + 0)), (1, .int l1), (2, .int l2), (3, .int l3), (4, .long l4), (6, .long l6), (8, .long l8), (10, .int l10), (11, .int l11)] → cells + N61 ≤ 938 → slots + 6 * N61 ≤ 5628 → W p l e (gRx 9 169 938 5628) s m args below meth c H locs cells slots (MQ below (gQi Γ z) args s 938 5628 (gA Γ)) (F0 m 61 ls [])) {N77 : Nat} (hF77 : ∀ (cells slots : Nat) (l1 : Int32) (l2 : Int32) (l3 : Int32) (l4 : Int64) (l6 : Int64) (l8 : Int64) (l10 : Int32) (l11 : Int32) (l12 : Int64) (l14 : Int32) (g : gG) (H : Heap) (locs : List Loc) (ls : Array Slot), F77 l1 l2 l3 l4 l6 l8 l10 l11 l12 l14 g = some z → va_P (gD Γ) gcls (lay Γ g) H → va_S (gA Γ) s.heap H locs → lv_has ls 27 [(0, .ref (gB Γ + 0)), (1, .int l1), (2, .int l2), (3, .int l3), (4, .long l4), (6, .long l6), (8, .long l8), (10, .int l10), (11, .int l11), (12, .long l12), (14, .int l14)] → cells + N77 ≤ 938 → slots + 6 * N77 ≤ 5628 → W p l e (gRx 9 169 938 5628) s m args below meth c H locs cells slots (MQ below (gQi Γ z) args s 938 5628 (gA Γ)) (F0 m 77 ls [])) {cells slots N : Nat} (hr1 : cells + N ≤ 938) (hr2 : slots + 6 * N ≤ 5628) (hn_77 : 2 + N77 ≤ N) (h : fs_L_kept_156 F61 F77 l1 l2 l4 l6 l8 l10 l11 l12 l14 g = some z) (hP : va_P (gD Γ) gcls (lay Γ g) H) (hS : va_S (gA Γ) s.heap H locs) (hl : lv_has ls 27 [(0, .ref (gB Γ + 0)), (1, .int l1), (2, .int l2), (4, .long l4), (6, .long l6), (8, .long l8), (10, .int l10), (11, .int l11), (12, .long l12), (14, .int l14)]) : W p l e (gRx 9 169 938 5628) s m args below meth c H locs cells slots (MQ below (gQi Γ z) args s 938 5628 (gA Γ)) (F0 m 156 ls []) := by
  unfold fs_L_kept_156 at h
  obtain ⟨hx, hb, hml, hr, hown, hts, hK, hlk, hX⟩ := id C0
  refine lv_iconst (v := 0) hx hb dL_kept_156 (by decide) ?_
  exact bs_L_kept_157 C0 hst hF61 hF77 (N := (N - 0)) (by omega) (by omega) (by omega) h hP hS (lv_sub hl [0, 1, 2, 3, 4, 5, 6, 7, 8, 9] rfl)
set_option maxHeartbeats 2000000 in
set_option maxRecDepth 20000 in
theorem bs_L_kept_77 {p : Program} {l : Launch} {e : Env} {s : State} {m : MethodId} {args : Array Value} {below : List Frame} {meth : Method} {c : Code} {Γ : gE} (C0 : gCx p s m args meth c Γ RL cL_kept 27 (some .boolean)) (hst : l.stackTraces = false)   {z : Int32 × gG} {F61 : Int32 → Int32 → Int32 → Int64 → Int64 → Int64 → Int32 → Int32 → gG → Option (Int32 × gG)} {F77 : Int32 → Int32 → Int32 → Int64 → Int64 → Int64 → Int32 → Int32 → Int64 → Int32 → gG → Option (Int32 × gG)} {l1 : Int32} {l2 : Int32} {l3 : Int32} {l4 : Int64} {l6 : Int64} {l8 : Int64} {l10 : Int32} {l11 : Int32} {l12 : Int64} {l14 : Int32} {g : gG} {H : Heap} {locs : List Loc} {ls : Array Slot} {N61 : Nat} (hF61 : ∀ (cells slots : Nat) (l1 : Int32) (l2 : Int32) (l3 : Int32) (l4 : Int64) (l6 : Int64) (l8 : Int64) (l10 : Int32) (l11 : Int32) (g : gG) (H : Heap) (locs : List Loc) (ls : Array Slot), F61 l1 l2 l3 l4 l6 l8 l10 l11 g = some z → va_P (gD Γ) gcls (lay Γ g) H → va_S (gA Γ) s.heap H locs → lv_has ls 27 [(0, .ref (gB Γ + 0)), (1, .int l1), (2, .int l2), (3, .int l3), (4, .long l4), (6, .long l6), (8, .long l8), (10, .int l10), (11, .int l11)] → cells + N61 ≤ 938 → slots + 6 * N61 ≤ 5628 → W p l e (gRx 9 169 938 5628) s m args below meth c H locs cells slots (MQ below (gQi Γ z) args s 938 5628 (gA Γ)) (F0 m 61 ls [])) {N77 : Nat} (hF77 : ∀ (cells slots : Nat) (l1 : Int32) (l2 : Int32) (l3 : Int32) (l4 : Int64) (l6 : Int64) (l8 : Int64) (l10 : Int32) (l11 : Int32) (l12 : Int64) (l14 : Int32) (g : gG) (H : Heap) (locs : List Loc) (ls : Array Slot), F77 l1 l2 l3 l4 l6 l8 l10 l11 l12 l14 g = some z → va_P (gD Γ) gcls (lay Γ g) H → va_S (gA Γ) s.heap H locs → lv_has ls 27 [(0, .ref (gB Γ + 0)), (1, .int l1), (2, .int l2), (3, .int l3), (4, .long l4), (6, .long l6), (8, .long l8), (10, .int l10), (11, .int l11), (12, .long l12), (14, .int l14)] → cells + N77 ≤ 938 → slots + 6 * N77 ≤ 5628 → W p l e (gRx 9 169 938 5628) s m args below meth c H locs cells slots (MQ below (gQi Γ z) args s 938 5628 (gA Γ)) (F0 m 77 ls [])) {cells slots N : Nat} (hr1 : cells + N ≤ 938) (hr2 : slots + 6 * N ≤ 5628) (hn_61 : 66 + N61 ≤ N) (hn_77 : 10 + N77 ≤ N) (h : fs_L_kept_77 F61 F77 l1 l2 l3 l4 l6 l8 l10 l11 l12 l14 g = some z) (hP : va_P (gD Γ) gcls (lay Γ g) H) (hS : va_S (gA Γ) s.heap H locs) (hl : lv_has ls 27 [(0, .ref (gB Γ + 0)), (1, .int l1), (2, .int l2), (3, .int l3), (4, .long l4), (6, .long l6), (8, .long l8), (10, .int l10), (11, .int l11), (12, .long l12), (14, .int l14)]) : W p l e (gRx 9 169 938 5628) s m args below meth c H locs cells slots (MQ below (gQi Γ z) args s 938 5628 (gA Γ)) (F0 m 77 ls []) := by
  unfold fs_L_kept_77 at h
  obtain ⟨hx, hb, hml, hr, hown, hts, hK, hlk, hX⟩ := id C0
  refine lv_iload hx hb dL_kept_77 (lv_at hl 10 rfl) ?_
  refine lv_bipush (v := 10) hx hb dL_kept_79 (by decide) ?_
  refine lv_icmp_ge (tgt := 180) hx hb dL_kept_81 (by decide) (fun c1 => ?_) (fun c1 => ?_)
  · replace h := gpos c1 h
    exact bs_L_kept_180 C0 hst hF61 (N := (N - 0)) (by omega) (by omega) (by omega) h hP hS (lv_sub hl [0, 1, 2, 3, 4, 5, 6, 7, 8, 9, 10] rfl)
  · replace h := gneg c1 h
    refine lv_aload_n hx hb dL_kept_84 rfl (lv_at hl 0 rfl) ?_
    refine lv_iload hx hb dL_kept_85 (lv_at hl 8 rfl) ?_
    refine lv_iload hx hb dL_kept_87 (lv_at hl 10 rfl) ?_
    refine gCHl (n2 := 3) (rest := []) C0 wcw_L_trail wn_L (by decide +kernel) wl_L_126 wt_L_trail ⟨Nat.le_of_ble_eq_true rfl, Nat.le_of_ble_eq_true rfl⟩ ⟨gRcl (by omega), gRsl (by omega)⟩ [.ref (gB Γ + 0), .int l11, .int l14] rfl (Nat.le_of_ble_eq_true rfl) hP hS hl.1 dL_kept_89 h (fun u hu => m_L_trail l hst Γ l11 l14 g u hu) (fun u2 H locs h hP hS => ?_) rfl
    refine lv_ldc2 (v := -9) hx hb hown (hts _ wkl_L_178) dL_kept_92 ?_
    refine W.lcmp hx hb dL_kept_95 ?_
    refine lv_if_eq (tgt := 180) hx hb dL_kept_96 (by decide) (fun c3 => ?_) (fun c3 => ?_)
    · replace h := gpos c3 h
      exact bs_L_kept_180 C0 hst hF61 (N := (N - 2)) (by omega) (by omega) (by omega) h hP hS (lv_sub hl [0, 1, 2, 3, 4, 5, 6, 7, 8, 9, 10] rfl)
    · replace h := gneg c3 h
      refine lv_iload_n hx hb dL_kept_99 rfl (lv_at hl 3 rfl) ?_
      refine lv_if_eq (tgt := 180) hx hb dL_kept_100 (by decide) (fun c4 => ?_) (fun c4 => ?_)
      · replace h := gpos c4 h
        exact bs_L_kept_180 C0 hst hF61 (N := (N - 2)) (by omega) (by omega) (by omega) h hP hS (lv_sub hl [0, 1, 2, 3, 4, 5, 6, 7, 8, 9, 10] rfl)
      · replace h := gneg c4 h
        refine lv_lload hx hb dL_kept_103 (lv_at hl 9 rfl) ?_
        refine lv_aload_n hx hb dL_kept_105 rfl (lv_at hl 0 rfl) ?_
        refine lv_iload hx hb dL_kept_106 (lv_at hl 8 rfl) ?_
        refine lv_iload hx hb dL_kept_108 (lv_at hl 10 rfl) ?_
        refine gCHl (n2 := 3) (rest := [.long l12]) C0 wcw_L_trail wn_L (by decide +kernel) wl_L_126 wt_L_trail ⟨Nat.le_of_ble_eq_true rfl, Nat.le_of_ble_eq_true rfl⟩ ⟨gRcl (by omega), gRsl (by omega)⟩ [.ref (gB Γ + 0), .int l11, .int l14] rfl (Nat.le_of_ble_eq_true rfl) hP hS hl.1 dL_kept_110 h (fun u hu => m_L_trail l hst Γ l11 l14 u2.2 u hu) (fun u5 H locs h hP hS => ?_) rfl
        refine lv_l2i hx hb dL_kept_113 rfl ?_
        refine gCSi (rest := []) C0 cal_L_has wl_L_147 wt_L_has ⟨Nat.le_of_ble_eq_true rfl, Nat.le_of_ble_eq_true rfl⟩ ⟨gRcl (by omega), gRsl (by omega)⟩ [.long l12, .int u5.1.toInt32] rfl (Nat.le_of_ble_eq_true rfl) hP hS hl.1 dL_kept_114 h (fun u hu => m_L_has l Γ l12 u5.1.toInt32 u5.2 u hu) (fun u6 H locs h hP hS => ?_) rfl
        refine lv_if_ne (tgt := 156) hx hb dL_kept_117 (by decide) (fun c7 => ?_) (fun c7 => ?_)
        · replace h := gneg c7 h
          exact bs_L_kept_156 C0 hst hF61 hF77 (N := (N - 4)) (by omega) (by omega) (by omega) h hP hS (lv_sub hl [0, 1, 2, 4, 5, 6, 7, 8, 9, 10] rfl)
        · replace h := gpos c7 h
          refine lv_aload_n hx hb dL_kept_120 rfl (lv_at hl 0 rfl) ?_
          refine lv_aload_n hx hb dL_kept_121 rfl (lv_at hl 0 rfl) ?_
          refine lv_iload hx hb dL_kept_122 (lv_at hl 8 rfl) ?_
          refine lv_iload hx hb dL_kept_124 (lv_at hl 10 rfl) ?_
          refine gCHl (n2 := 3) (rest := [.ref (gB Γ + 0)]) C0 wcw_L_trail wn_L (by decide +kernel) wl_L_126 wt_L_trail ⟨Nat.le_of_ble_eq_true rfl, Nat.le_of_ble_eq_true rfl⟩ ⟨gRcl (by omega), gRsl (by omega)⟩ [.ref (gB Γ + 0), .int l11, .int l14] rfl (Nat.le_of_ble_eq_true rfl) hP hS hl.1 dL_kept_126 h (fun u hu => m_L_trail l hst Γ l11 l14 u6.2 u hu) (fun u8 H locs h hP hS => ?_) rfl
          refine lv_l2i hx hb dL_kept_129 rfl ?_
          refine lv_lload hx hb dL_kept_130 (lv_at hl 9 rfl) ?_
          refine lv_l2i hx hb dL_kept_132 rfl ?_
          refine gCHl (n2 := 3) (rest := []) C0 wcw_L_holds wn_L (by decide +kernel) wl_L_124 wt_L_holds ⟨Nat.le_of_ble_eq_true rfl, Nat.le_of_ble_eq_true rfl⟩ ⟨gRcl (by omega), gRsl (by omega)⟩ [.ref (gB Γ + 0), .int u8.1.toInt32, .int l12.toInt32] rfl (Nat.le_of_ble_eq_true rfl) hP hS hl.1 dL_kept_133 h (fun u hu => m_L_holds l hst Γ u8.1.toInt32 l12.toInt32 u8.2 u hu) (fun u9 H locs h hP hS => ?_) rfl
          refine lv_lconst (v := 1) hx hb dL_kept_136 (by decide) ?_
          refine W.lcmp hx hb dL_kept_137 ?_
          refine lv_if_ne (tgt := 156) hx hb dL_kept_138 (by decide) (fun c10 => ?_) (fun c10 => ?_)
          · replace h := gneg c10 h
            exact bs_L_kept_156 C0 hst hF61 hF77 (N := (N - 8)) (by omega) (by omega) (by omega) h hP hS (lv_sub hl [0, 1, 2, 4, 5, 6, 7, 8, 9, 10] rfl)
          · replace h := gpos c10 h
            refine lv_lload hx hb dL_kept_141 (lv_at hl 9 rfl) ?_
            refine lv_iload_n hx hb dL_kept_143 rfl (lv_at hl 1 rfl) ?_
            refine lv_iconst (v := 1) hx hb dL_kept_144 (by decide) ?_
            refine lv_isub hx hb dL_kept_145 ?_
            refine gCSi (rest := []) C0 cal_L_has wl_L_147 wt_L_has ⟨Nat.le_of_ble_eq_true rfl, Nat.le_of_ble_eq_true rfl⟩ ⟨gRcl (by omega), gRsl (by omega)⟩ [.long l12, .int (l1 - (1 : Int32))] rfl (Nat.le_of_ble_eq_true rfl) hP hS hl.1 dL_kept_146 h (fun u hu => m_L_has l Γ l12 (l1 - (1 : Int32)) u9.2 u hu) (fun u11 H locs h hP hS => ?_) rfl
            refine lv_if_ne (tgt := 156) hx hb dL_kept_149 (by decide) (fun c12 => ?_) (fun c12 => ?_)
            · replace h := gneg c12 h
              exact bs_L_kept_156 C0 hst hF61 hF77 (N := (N - 8)) (by omega) (by omega) (by omega) h hP hS (lv_sub hl [0, 1, 2, 4, 5, 6, 7, 8, 9, 10] rfl)
            · replace h := gpos c12 h
              refine lv_iconst (v := 1) hx hb dL_kept_152 (by decide) ?_
              refine lv_goto (tgt := 157) hx hb dL_kept_153 (by decide) ?_
              exact bs_L_kept_157 C0 hst hF61 hF77 (N := (N - 8)) (by omega) (by omega) (by omega) h hP hS (lv_sub hl [0, 1, 2, 4, 5, 6, 7, 8, 9, 10] rfl)
set_option maxHeartbeats 2000000 in
set_option maxRecDepth 20000 in
theorem bk_L_kept_77 {p : Program} {l : Launch} {e : Env} {s : State} {m : MethodId} {args : Array Value} {below : List Frame} {meth : Method} {c : Code} {Γ : gE} (C0 : gCx p s m args meth c Γ RL cL_kept 27 (some .boolean)) (hst : l.stackTraces = false)   {z : Int32 × gG} {F61 : Int32 → Int32 → Int32 → Int64 → Int64 → Int64 → Int32 → Int32 → gG → Option (Int32 × gG)} {N61 : Nat} (hF61 : ∀ (cells slots : Nat) (l1 : Int32) (l2 : Int32) (l3 : Int32) (l4 : Int64) (l6 : Int64) (l8 : Int64) (l10 : Int32) (l11 : Int32) (g : gG) (H : Heap) (locs : List Loc) (ls : Array Slot), F61 l1 l2 l3 l4 l6 l8 l10 l11 g = some z → va_P (gD Γ) gcls (lay Γ g) H → va_S (gA Γ) s.heap H locs → lv_has ls 27 [(0, .ref (gB Γ + 0)), (1, .int l1), (2, .int l2), (3, .int l3), (4, .long l4), (6, .long l6), (8, .long l8), (10, .int l10), (11, .int l11)] → cells + N61 ≤ 938 → slots + 6 * N61 ≤ 5628 → W p l e (gRx 9 169 938 5628) s m args below meth c H locs cells slots (MQ below (gQi Γ z) args s 938 5628 (gA Γ)) (F0 m 61 ls [])) {T : Nat} (hT_61 : 66 + N61 ≤ T) : ∀ (n cells slots : Nat) (l1 : Int32) (l2 : Int32) (l3 : Int32) (l4 : Int64) (l6 : Int64) (l8 : Int64) (l10 : Int32) (l11 : Int32) (l12 : Int64) (l14 : Int32) (g : gG) (H : Heap) (locs : List Loc) (ls : Array Slot), fb_L_kept_77 F61 n l1 l2 l3 l4 l6 l8 l10 l11 l12 l14 g = some z → va_P (gD Γ) gcls (lay Γ g) H → va_S (gA Γ) s.heap H locs → lv_has ls 27 [(0, .ref (gB Γ + 0)), (1, .int l1), (2, .int l2), (3, .int l3), (4, .long l4), (6, .long l6), (8, .long l8), (10, .int l10), (11, .int l11), (12, .long l12), (14, .int l14)] → cells + (n * 10 + T) ≤ 938 → slots + 6 * (n * 10 + T) ≤ 5628 → W p l e (gRx 9 169 938 5628) s m args below meth c H locs cells slots (MQ below (gQi Γ z) args s 938 5628 (gA Γ)) (F0 m 77 ls []) := by
  intro n
  induction n with
  | zero => intro cells slots l1 l2 l3 l4 l6 l8 l10 l11 l12 l14 g H locs ls h hP hS hl hr1 hr2; cases h
  | succ n ih => intro cells slots l1 l2 l3 l4 l6 l8 l10 l11 l12 l14 g H locs ls h hP hS hl hr1 hr2; exact bs_L_kept_77 C0 hst hF61 (N := (n + 1) * 10 + T) ih hr1 hr2 (by omega) (by omega) h hP hS hl
set_option maxHeartbeats 2000000 in
set_option maxRecDepth 20000 in
theorem bs_L_kept_61 {p : Program} {l : Launch} {e : Env} {s : State} {m : MethodId} {args : Array Value} {below : List Frame} {meth : Method} {c : Code} {Γ : gE} (C0 : gCx p s m args meth c Γ RL cL_kept 27 (some .boolean)) (hst : l.stackTraces = false)   {z : Int32 × gG} {F61 : Int32 → Int32 → Int32 → Int64 → Int64 → Int64 → Int32 → Int32 → gG → Option (Int32 × gG)} {l1 : Int32} {l2 : Int32} {l3 : Int32} {l4 : Int64} {l6 : Int64} {l8 : Int64} {l10 : Int32} {l11 : Int32} {g : gG} {H : Heap} {locs : List Loc} {ls : Array Slot} {N61 : Nat} (hF61 : ∀ (cells slots : Nat) (l1 : Int32) (l2 : Int32) (l3 : Int32) (l4 : Int64) (l6 : Int64) (l8 : Int64) (l10 : Int32) (l11 : Int32) (g : gG) (H : Heap) (locs : List Loc) (ls : Array Slot), F61 l1 l2 l3 l4 l6 l8 l10 l11 g = some z → va_P (gD Γ) gcls (lay Γ g) H → va_S (gA Γ) s.heap H locs → lv_has ls 27 [(0, .ref (gB Γ + 0)), (1, .int l1), (2, .int l2), (3, .int l3), (4, .long l4), (6, .long l6), (8, .long l8), (10, .int l10), (11, .int l11)] → cells + N61 ≤ 938 → slots + 6 * N61 ≤ 5628 → W p l e (gRx 9 169 938 5628) s m args below meth c H locs cells slots (MQ below (gQi Γ z) args s 938 5628 (gA Γ)) (F0 m 61 ls [])) {cells slots N : Nat} (hr1 : cells + N ≤ 938) (hr2 : slots + 6 * N ≤ 5628) (hn_ret : 6 ≤ N) (hn_61 : 186 + N61 ≤ N) (h : fs_L_kept_61 F61 l1 l2 l3 l4 l6 l8 l10 l11 g = some z) (hP : va_P (gD Γ) gcls (lay Γ g) H) (hS : va_S (gA Γ) s.heap H locs) (hl : lv_has ls 27 [(0, .ref (gB Γ + 0)), (1, .int l1), (2, .int l2), (3, .int l3), (4, .long l4), (6, .long l6), (8, .long l8), (10, .int l10), (11, .int l11)]) : W p l e (gRx 9 169 938 5628) s m args below meth c H locs cells slots (MQ below (gQi Γ z) args s 938 5628 (gA Γ)) (F0 m 61 ls []) := by
  unfold fs_L_kept_61 at h
  obtain ⟨hx, hb, hml, hr, hown, hts, hK, hlk, hX⟩ := id C0
  refine lv_iload hx hb dL_kept_61 (lv_at hl 8 rfl) ?_
  refine lv_iload_n hx hb dL_kept_63 rfl (lv_at hl 2 rfl) ?_
  refine lv_icmp_ge (tgt := 812) hx hb dL_kept_64 (by decide) (fun c1 => ?_) (fun c1 => ?_)
  · replace h := gpos c1 h
    exact bs_L_kept_812 C0 hst  (N := (N - 0)) (by omega) (by omega) (by omega) h hP hS (lv_sub hl [0, 1, 3, 4, 5, 6, 7] rfl)
  · replace h := gneg c1 h
    refine lv_iload_n hx hb dL_kept_67 rfl (lv_at hl 3 rfl) ?_
    refine lv_if_eq (tgt := 812) hx hb dL_kept_68 (by decide) (fun c2 => ?_) (fun c2 => ?_)
    · replace h := gpos c2 h
      exact bs_L_kept_812 C0 hst  (N := (N - 0)) (by omega) (by omega) (by omega) h hP hS (lv_sub hl [0, 1, 3, 4, 5, 6, 7] rfl)
    · replace h := gneg c2 h
      refine lv_lconst (v := 0) hx hb dL_kept_71 (by decide) ?_
      refine lv_lstore (lv' := [(12, .long (0 : Int64)), (0, .ref (gB Γ + 0)), (1, .int l1), (2, .int l2), (3, .int l3), (4, .long l4), (6, .long l6), (8, .long l8), (10, .int l10), (11, .int l11)]) hx hb dL_kept_72 hl (by decide) rfl (fun ls hl => ?_)
      refine lv_iconst (v := 0) hx hb dL_kept_74 (by decide) ?_
      refine lv_istore (lv' := [(14, .int (0 : Int32)), (12, .long (0 : Int64)), (0, .ref (gB Γ + 0)), (1, .int l1), (2, .int l2), (3, .int l3), (4, .long l4), (6, .long l6), (8, .long l8), (10, .int l10), (11, .int l11)]) hx hb dL_kept_75 hl (by decide) rfl (fun ls hl => ?_)
      exact bk_L_kept_77 C0 hst hF61 (T := (N - 0) - 120) (by omega) gFuelL _ _ _ _ _ _ _ _ _ _ _ _ _ _ _ _ h hP hS (lv_sub hl [2, 3, 4, 5, 6, 7, 8, 9, 10, 1, 0] rfl) (by unfold gFuelL; omega) (by unfold gFuelL; omega)
set_option maxHeartbeats 2000000 in
set_option maxRecDepth 20000 in
theorem bk_L_kept_61 {p : Program} {l : Launch} {e : Env} {s : State} {m : MethodId} {args : Array Value} {below : List Frame} {meth : Method} {c : Code} {Γ : gE} (C0 : gCx p s m args meth c Γ RL cL_kept 27 (some .boolean)) (hst : l.stackTraces = false)   {z : Int32 × gG}   {T : Nat} (hT_ret : 6 ≤ T) : ∀ (n cells slots : Nat) (l1 : Int32) (l2 : Int32) (l3 : Int32) (l4 : Int64) (l6 : Int64) (l8 : Int64) (l10 : Int32) (l11 : Int32) (g : gG) (H : Heap) (locs : List Loc) (ls : Array Slot), fb_L_kept_61 n l1 l2 l3 l4 l6 l8 l10 l11 g = some z → va_P (gD Γ) gcls (lay Γ g) H → va_S (gA Γ) s.heap H locs → lv_has ls 27 [(0, .ref (gB Γ + 0)), (1, .int l1), (2, .int l2), (3, .int l3), (4, .long l4), (6, .long l6), (8, .long l8), (10, .int l10), (11, .int l11)] → cells + (n * 186 + T) ≤ 938 → slots + 6 * (n * 186 + T) ≤ 5628 → W p l e (gRx 9 169 938 5628) s m args below meth c H locs cells slots (MQ below (gQi Γ z) args s 938 5628 (gA Γ)) (F0 m 61 ls []) := by
  intro n
  induction n with
  | zero => intro cells slots l1 l2 l3 l4 l6 l8 l10 l11 g H locs ls h hP hS hl hr1 hr2; cases h
  | succ n ih => intro cells slots l1 l2 l3 l4 l6 l8 l10 l11 g H locs ls h hP hS hl hr1 hr2; exact bs_L_kept_61 C0 hst  (N := (n + 1) * 186 + T) ih hr1 hr2 (by omega) (by omega) h hP hS hl
set_option maxHeartbeats 2000000 in
set_option maxRecDepth 20000 in
theorem bs_L_kept_45 {p : Program} {l : Launch} {e : Env} {s : State} {m : MethodId} {args : Array Value} {below : List Frame} {meth : Method} {c : Code} {Γ : gE} (C0 : gCx p s m args meth c Γ RL cL_kept 27 (some .boolean)) (hst : l.stackTraces = false)   {z : Int32 × gG}  {l1 : Int32} {l2 : Int32} {s0 : Int32} {g : gG} {H : Heap} {locs : List Loc} {ls : Array Slot} {cells slots N : Nat} (hr1 : cells + N ≤ 938) (hr2 : slots + 6 * N ≤ 5628) (hn_ret : 936 ≤ N)  (h : fs_L_kept_45 l1 l2 s0 g = some z) (hP : va_P (gD Γ) gcls (lay Γ g) H) (hS : va_S (gA Γ) s.heap H locs) (hl : lv_has ls 27 [(0, .ref (gB Γ + 0)), (1, .int l1), (2, .int l2)]) : W p l e (gRx 9 169 938 5628) s m args below meth c H locs cells slots (MQ below (gQi Γ z) args s 938 5628 (gA Γ)) (F0 m 45 ls [.int s0]) := by
  unfold fs_L_kept_45 at h
  obtain ⟨hx, hb, hml, hr, hown, hts, hK, hlk, hX⟩ := id C0
  refine lv_istore_n (lv' := [(3, .int s0), (0, .ref (gB Γ + 0)), (1, .int l1), (2, .int l2)]) hx hb dL_kept_45 rfl hl (by decide) rfl (fun ls hl => ?_)
  refine lv_lconst (v := 0) hx hb dL_kept_46 (by decide) ?_
  refine lv_lstore (lv' := [(4, .long (0 : Int64)), (3, .int s0), (0, .ref (gB Γ + 0)), (1, .int l1), (2, .int l2)]) hx hb dL_kept_47 hl (by decide) rfl (fun ls hl => ?_)
  refine lv_lconst (v := 0) hx hb dL_kept_49 (by decide) ?_
  refine lv_lstore (lv' := [(6, .long (0 : Int64)), (4, .long (0 : Int64)), (3, .int s0), (0, .ref (gB Γ + 0)), (1, .int l1), (2, .int l2)]) hx hb dL_kept_50 hl (by decide) rfl (fun ls hl => ?_)
  refine lv_lconst (v := 0) hx hb dL_kept_52 (by decide) ?_
  refine lv_lstore (lv' := [(8, .long (0 : Int64)), (6, .long (0 : Int64)), (4, .long (0 : Int64)), (3, .int s0), (0, .ref (gB Γ + 0)), (1, .int l1), (2, .int l2)]) hx hb dL_kept_53 hl (by decide) rfl (fun ls hl => ?_)
  refine lv_iconst (v := 0) hx hb dL_kept_55 (by decide) ?_
  refine lv_istore (lv' := [(10, .int (0 : Int32)), (8, .long (0 : Int64)), (6, .long (0 : Int64)), (4, .long (0 : Int64)), (3, .int s0), (0, .ref (gB Γ + 0)), (1, .int l1), (2, .int l2)]) hx hb dL_kept_56 hl (by decide) rfl (fun ls hl => ?_)
  refine lv_iconst (v := 0) hx hb dL_kept_58 (by decide) ?_
  refine lv_istore (lv' := [(11, .int (0 : Int32)), (10, .int (0 : Int32)), (8, .long (0 : Int64)), (6, .long (0 : Int64)), (4, .long (0 : Int64)), (3, .int s0), (0, .ref (gB Γ + 0)), (1, .int l1), (2, .int l2)]) hx hb dL_kept_59 hl (by decide) rfl (fun ls hl => ?_)
  exact bk_L_kept_61 C0 hst  (T := (N - 0) - 930) (by omega) gFuel5 _ _ _ _ _ _ _ _ _ _ _ _ _ _ h hP hS (lv_sub hl [6, 7, 8, 5, 4, 3, 2, 1, 0] rfl) (by unfold gFuel5; omega) (by unfold gFuel5; omega)
set_option maxHeartbeats 2000000 in
set_option maxRecDepth 20000 in
theorem bs_L_kept_44 {p : Program} {l : Launch} {e : Env} {s : State} {m : MethodId} {args : Array Value} {below : List Frame} {meth : Method} {c : Code} {Γ : gE} (C0 : gCx p s m args meth c Γ RL cL_kept 27 (some .boolean)) (hst : l.stackTraces = false)   {z : Int32 × gG}  {l1 : Int32} {l2 : Int32} {g : gG} {H : Heap} {locs : List Loc} {ls : Array Slot} {cells slots N : Nat} (hr1 : cells + N ≤ 938) (hr2 : slots + 6 * N ≤ 5628) (hn_ret : 936 ≤ N)  (h : fs_L_kept_44 l1 l2 g = some z) (hP : va_P (gD Γ) gcls (lay Γ g) H) (hS : va_S (gA Γ) s.heap H locs) (hl : lv_has ls 27 [(0, .ref (gB Γ + 0)), (1, .int l1), (2, .int l2)]) : W p l e (gRx 9 169 938 5628) s m args below meth c H locs cells slots (MQ below (gQi Γ z) args s 938 5628 (gA Γ)) (F0 m 44 ls []) := by
  unfold fs_L_kept_44 at h
  obtain ⟨hx, hb, hml, hr, hown, hts, hK, hlk, hX⟩ := id C0
  refine lv_iconst (v := 0) hx hb dL_kept_44 (by decide) ?_
  exact bs_L_kept_45 C0 hst  (N := (N - 0)) (by omega) (by omega) (by omega) h hP hS (lv_sub hl [0, 1, 2] rfl)
set_option maxHeartbeats 2000000 in
set_option maxRecDepth 20000 in
theorem m_L_kept (l : Launch) (hst : l.stackTraces = false) (Γ : gE)    (g : gG) (z : Int32 × gG) (h : f_L_kept g = some z) : gCi l yL_kept cL_kept 27 (some .boolean) 9 169 938 5628 Γ [.ref (gB Γ + 0)] g z := by
  unfold f_L_kept at h
  refine gStartC (own := RL) (by decide +kernel) rfl (Nat.le_of_ble_eq_true rfl) ?_
  intro p e s m below meth c C0 ls hl hP
  have hS : va_S (gA Γ) s.heap s.heap [] := va_S.rf
  have hl : lv_has ls 27 [(0, .ref (gB Γ + 0))] := hl
  obtain ⟨hx, hb, hml, hr, hown, hts, hK, hlk, hX⟩ := id C0
  refine lv_aload_n hx hb dL_kept_0 rfl (lv_at hl 0 rfl) ?_
  refine lv_iconst (v := 0) hx hb dL_kept_1 (by decide) ?_
  refine gCHl (n2 := 2) (rest := []) C0 wcw_L_about wn_L (by decide +kernel) wl_L_106 wt_L_about ⟨Nat.le_of_ble_eq_true rfl, Nat.le_of_ble_eq_true rfl⟩ ⟨gRcl (by omega), gRsl (by omega)⟩ [.ref (gB Γ + 0), .int (0 : Int32)] rfl (Nat.le_of_ble_eq_true rfl) hP hS hl.1 dL_kept_2 h (fun u hu => m_L_about l hst Γ (0 : Int32) g u hu) (fun u1 H locs h hP hS => ?_) rfl
  refine lv_l2i hx hb dL_kept_5 rfl ?_
  refine lv_topi (fun x2 ex2 => ?_)
  replace h := gLetI ex2 h
  refine lv_istore_n (lv' := [(1, .int x2), (0, .ref (gB Γ + 0))]) hx hb dL_kept_6 rfl hl (by decide) rfl (fun ls hl => ?_)
  refine lv_aload_n hx hb dL_kept_7 rfl (lv_at hl 1 rfl) ?_
  refine lv_iconst (v := 1) hx hb dL_kept_8 (by decide) ?_
  refine gCHl (n2 := 2) (rest := []) C0 wcw_L_about wn_L (by decide +kernel) wl_L_106 wt_L_about ⟨Nat.le_of_ble_eq_true rfl, Nat.le_of_ble_eq_true rfl⟩ ⟨gRcl (by omega), gRsl (by omega)⟩ [.ref (gB Γ + 0), .int (1 : Int32)] rfl (Nat.le_of_ble_eq_true rfl) hP hS hl.1 dL_kept_9 h (fun u hu => m_L_about l hst Γ (1 : Int32) u1.2 u hu) (fun u3 H locs h hP hS => ?_) rfl
  refine lv_l2i hx hb dL_kept_12 rfl ?_
  refine lv_topi (fun x4 ex4 => ?_)
  replace h := gLetI ex4 h
  refine lv_istore_n (lv' := [(2, .int x4), (1, .int x2), (0, .ref (gB Γ + 0))]) hx hb dL_kept_13 rfl hl (by decide) rfl (fun ls hl => ?_)
  refine lv_iload_n hx hb dL_kept_14 rfl (lv_at hl 1 rfl) ?_
  refine lv_i2l hx hb dL_kept_15 rfl ?_
  refine lv_ldc2 (v := 2) hx hb hown (hts _ wkl_L_168) dL_kept_16 ?_
  refine lv_ldc2 (v := 10) hx hb hown (hts _ wkl_L_170) dL_kept_19 ?_
  refine gCSi (rest := []) C0 cal_L_in wl_L_172 wt_L_in ⟨Nat.le_of_ble_eq_true rfl, Nat.le_of_ble_eq_true rfl⟩ ⟨gRcl (by omega), gRsl (by omega)⟩ [.long x2.toInt64, .long (2 : Int64), .long (10 : Int64)] rfl (Nat.le_of_ble_eq_true rfl) hP hS hl.1 dL_kept_22 h (fun u hu => m_L_in l Γ x2.toInt64 (2 : Int64) (10 : Int64) u3.2 u hu) (fun u5 H locs h hP hS => ?_) rfl
  refine lv_if_eq (tgt := 44) hx hb dL_kept_25 (by decide) (fun c6 => ?_) (fun c6 => ?_)
  · replace h := gpos c6 h
    exact bs_L_kept_44 C0 hst  (N := (938 - 2)) (by omega) (by omega) (by omega) h hP hS (lv_sub hl [2, 1, 0] rfl)
  · replace h := gneg c6 h
    refine lv_iload_n hx hb dL_kept_28 rfl (lv_at hl 0 rfl) ?_
    refine lv_i2l hx hb dL_kept_29 rfl ?_
    refine lv_lconst (v := 0) hx hb dL_kept_30 (by decide) ?_
    refine lv_ldc2 (v := 4) hx hb hown (hts _ wkl_L_176) dL_kept_31 ?_
    refine gCSi (rest := []) C0 cal_L_in wl_L_172 wt_L_in ⟨Nat.le_of_ble_eq_true rfl, Nat.le_of_ble_eq_true rfl⟩ ⟨gRcl (by omega), gRsl (by omega)⟩ [.long x4.toInt64, .long (0 : Int64), .long (4 : Int64)] rfl (Nat.le_of_ble_eq_true rfl) hP hS hl.1 dL_kept_34 h (fun u hu => m_L_in l Γ x4.toInt64 (0 : Int64) (4 : Int64) u5.2 u hu) (fun u7 H locs h hP hS => ?_) rfl
    refine lv_if_eq (tgt := 44) hx hb dL_kept_37 (by decide) (fun c8 => ?_) (fun c8 => ?_)
    · replace h := gpos c8 h
      exact bs_L_kept_44 C0 hst  (N := (938 - 2)) (by omega) (by omega) (by omega) h hP hS (lv_sub hl [2, 1, 0] rfl)
    · replace h := gneg c8 h
      refine lv_iconst (v := 1) hx hb dL_kept_40 (by decide) ?_
      refine lv_goto (tgt := 45) hx hb dL_kept_41 (by decide) ?_
      exact bs_L_kept_45 C0 hst  (N := (938 - 2)) (by omega) (by omega) (by omega) h hP hS (lv_sub hl [2, 1, 0] rfl)
