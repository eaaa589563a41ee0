set_option maxHeartbeats 2000000 in
set_option maxRecDepth 20000 in
theorem bs_L_follows_813 {p : Program} {l : Launch} {e : Env} {s : State} {m : MethodId} {args : Array Value} {below : List Frame} {meth : Method} {c : Code} {Γ : gE} (C0 : gCx p s m args meth c Γ RL cL_follows 32 (some .boolean)) (hst : l.stackTraces = false)   {z : Int32 × gG}  {l2 : Int64} {l5 : Int32} {l6 : Int32} {g : gG} {H : Heap} {locs : List Loc} {ls : Array Slot} {cells slots N : Nat} (hr1 : cells + N ≤ 2114) (hr2 : slots + 6 * N ≤ 12684) (hn_ret : 229 ≤ N)  (h : fs_L_follows_813 l2 l5 l6 g = some z) (hP : va_P (gD Γ) gcls (lay Γ g) H) (hS : va_S (gA Γ) s.heap H locs) (hl : lv_has ls 32 [(0, .ref (gB Γ + 0)), (2, .long l2), (5, .int l5), (6, .int l6)]) : W p l e (gRx 10 190 2114 12684) s m args below meth c H locs cells slots (MQ below (gQi Γ z) args s 2114 12684 (gA Γ)) (F0 m 813 ls []) := by
  unfold fs_L_follows_813 at h
  obtain ⟨hx, hb, hml, hr, hown, hts, hK, hlk, hX⟩ := id C0
  refine lv_iload hx hb dL_follows_813 (lv_at hl 3 rfl) ?_
  refine lv_if_eq (tgt := 854) hx hb dL_follows_815 (by decide) (fun c1 => ?_) (fun c1 => ?_)
  · replace h := gpos c1 h
    refine lv_iconst (v := 0) hx hb dL_follows_854 (by decide) ?_
    refine W.widen (k := 2114) (n := 12684) (by omega) (by omega) ?_
    exact gzret0 hx hb hr hlk hP hS rfl dL_follows_855 h
  · replace h := gneg c1 h
    refine lv_aload_n hx hb dL_follows_818 rfl (lv_at hl 0 rfl) ?_
    refine lv_iconst (v := 1) hx hb dL_follows_819 (by decide) ?_
    refine gCHl (n2 := 2) (rest := []) C0 wcw_L_restore wn_L (by decide +kernel) wl_L_164 wt_L_restore ⟨Nat.le_of_ble_eq_true rfl, Nat.le_of_ble_eq_true rfl⟩ ⟨gRcl (by omega), gRsl (by omega)⟩ [.ref (gB Γ + 0), .int (1 : Int32)] rfl (Nat.le_of_ble_eq_true rfl) hP hS hl.1 dL_follows_820 h (fun u hu => m_L_restore l hst Γ (1 : Int32) g u hu) (fun u2 H locs h hP hS => ?_) rfl
    refine lv_iload hx hb dL_follows_823 (lv_at hl 2 rfl) ?_
    refine lv_i2l hx hb dL_follows_825 rfl ?_
    refine W.lcmp hx hb dL_follows_826 ?_
    refine lv_if_ne (tgt := 854) hx hb dL_follows_827 (by decide) (fun c3 => ?_) (fun c3 => ?_)
    · replace h := gneg c3 h
      refine lv_iconst (v := 0) hx hb dL_follows_854 (by decide) ?_
      refine W.widen (k := 2114) (n := 12684) (by omega) (by omega) ?_
      exact gzret0 hx hb hr hlk hP hS rfl dL_follows_855 h
    · replace h := gpos c3 h
      refine lv_aload_n hx hb dL_follows_830 rfl (lv_at hl 0 rfl) ?_
      refine gCKl (rest := []) C0 cal_L_now wl_L_120 wt_L_now ⟨Nat.le_of_ble_eq_true rfl, Nat.le_of_ble_eq_true rfl⟩ ⟨gRcl (by omega), gRsl (by omega)⟩ [.ref (gB Γ + 0)] rfl (Nat.le_of_ble_eq_true rfl) hP hS hl.1 dL_follows_831 h (fun u hu => m_L_now l hst Γ u2.2 u hu) (fun u4 H locs h hP hS => ?_) rfl
      refine lv_lload_n hx hb dL_follows_834 rfl (lv_at hl 1 rfl) ?_
      refine W.lcmp hx hb dL_follows_835 ?_
      refine lv_if_ne (tgt := 854) hx hb dL_follows_836 (by decide) (fun c5 => ?_) (fun c5 => ?_)
      · replace h := gneg c5 h
        refine lv_iconst (v := 0) hx hb dL_follows_854 (by decide) ?_
        refine W.widen (k := 2114) (n := 12684) (by omega) (by omega) ?_
        exact gzret0 hx hb hr hlk hP hS rfl dL_follows_855 h
      · replace h := gpos c5 h
        refine lv_aload_n hx hb dL_follows_839 rfl (lv_at hl 0 rfl) ?_
        refine gCHl (n2 := 1) (rest := []) C0 wcw_L_undo wn_L (by decide +kernel) wl_L_194 wt_L_undo ⟨Nat.le_of_ble_eq_true rfl, Nat.le_of_ble_eq_true rfl⟩ ⟨gRcl (by omega), gRsl (by omega)⟩ [.ref (gB Γ + 0)] rfl (Nat.le_of_ble_eq_true rfl) hP hS hl.1 dL_follows_840 h (fun u hu => m_L_undo l hst Γ u4.2 u hu) (fun u6 H locs h hP hS => ?_) rfl
        refine lv_ldc2 (v := -9000000000000000003) hx hb hown (hts _ wkl_L_21) dL_follows_843 ?_
        refine W.lcmp hx hb dL_follows_846 ?_
        refine lv_if_ne (tgt := 854) hx hb dL_follows_847 (by decide) (fun c7 => ?_) (fun c7 => ?_)
        · replace h := gneg c7 h
          refine lv_iconst (v := 0) hx hb dL_follows_854 (by decide) ?_
          refine W.widen (k := 2114) (n := 12684) (by omega) (by omega) ?_
          exact gzret0 hx hb hr hlk hP hS rfl dL_follows_855 h
        · replace h := gpos c7 h
          refine lv_iconst (v := 1) hx hb dL_follows_850 (by decide) ?_
          refine lv_goto (tgt := 855) hx hb dL_follows_851 (by decide) ?_
          refine W.widen (k := 2114) (n := 12684) (by omega) (by omega) ?_
          exact gzret0 hx hb hr hlk hP hS rfl dL_follows_855 h
set_option maxHeartbeats 2000000 in
set_option maxRecDepth 20000 in
theorem bs_L_follows_811 {p : Program} {l : Launch} {e : Env} {s : State} {m : MethodId} {args : Array Value} {below : List Frame} {meth : Method} {c : Code} {Γ : gE} (C0 : gCx p s m args meth c Γ RL cL_follows 32 (some .boolean)) (hst : l.stackTraces = false)   {z : Int32 × gG}  {l2 : Int64} {l5 : Int32} {s0 : Int32} {g : gG} {H : Heap} {locs : List Loc} {ls : Array Slot} {cells slots N : Nat} (hr1 : cells + N ≤ 2114) (hr2 : slots + 6 * N ≤ 12684) (hn_ret : 229 ≤ N)  (h : fs_L_follows_811 l2 l5 s0 g = some z) (hP : va_P (gD Γ) gcls (lay Γ g) H) (hS : va_S (gA Γ) s.heap H locs) (hl : lv_has ls 32 [(0, .ref (gB Γ + 0)), (2, .long l2), (5, .int l5)]) : W p l e (gRx 10 190 2114 12684) s m args below meth c H locs cells slots (MQ below (gQi Γ z) args s 2114 12684 (gA Γ)) (F0 m 811 ls [.int s0]) := by
  unfold fs_L_follows_811 at h
  obtain ⟨hx, hb, hml, hr, hown, hts, hK, hlk, hX⟩ := id C0
  refine lv_istore (lv' := [(6, .int s0), (0, .ref (gB Γ + 0)), (2, .long l2), (5, .int l5)]) hx hb dL_follows_811 hl (by decide) rfl (fun ls hl => ?_)
  exact bs_L_follows_813 C0 hst  (N := (N - 0)) (by omega) (by omega) (by omega) h hP hS (lv_sub hl [1, 2, 3, 0] rfl)
set_option maxHeartbeats 2000000 in
set_option maxRecDepth 20000 in
theorem bs_L_follows_810 {p : Program} {l : Launch} {e : Env} {s : State} {m : MethodId} {args : Array Value} {below : List Frame} {meth : Method} {c : Code} {Γ : gE} (C0 : gCx p s m args meth c Γ RL cL_follows 32 (some .boolean)) (hst : l.stackTraces = false)   {z : Int32 × gG}  {l2 : Int64} {l5 : Int32} {g : gG} {H : Heap} {locs : List Loc} {ls : Array Slot} {cells slots N : Nat} (hr1 : cells + N ≤ 2114) (hr2 : slots + 6 * N ≤ 12684) (hn_ret : 229 ≤ N)  (h : fs_L_follows_810 l2 l5 g = some z) (hP : va_P (gD Γ) gcls (lay Γ g) H) (hS : va_S (gA Γ) s.heap H locs) (hl : lv_has ls 32 [(0, .ref (gB Γ + 0)), (2, .long l2), (5, .int l5)]) : W p l e (gRx 10 190 2114 12684) s m args below meth c H locs cells slots (MQ below (gQi Γ z) args s 2114 12684 (gA Γ)) (F0 m 810 ls []) := by
  unfold fs_L_follows_810 at h
  obtain ⟨hx, hb, hml, hr, hown, hts, hK, hlk, hX⟩ := id C0
  refine lv_iconst (v := 0) hx hb dL_follows_810 (by decide) ?_
  exact bs_L_follows_811 C0 hst  (N := (N - 0)) (by omega) (by omega) (by omega) h hP hS (lv_sub hl [0, 1, 2] rfl)
set_option maxHeartbeats 2000000 in
set_option maxRecDepth 20000 in
theorem bs_L_follows_716 {p : Program} {l : Launch} {e : Env} {s : State} {m : MethodId} {args : Array Value} {below : List Frame} {meth : Method} {c : Code} {Γ : gE} (C0 : gCx p s m args meth c Γ RL cL_follows 32 (some .boolean)) (hst : l.stackTraces = false)   {z : Int32 × gG}  {l2 : Int64} {l5 : Int32} {l8 : Int32} {s0 : Int32} {g : gG} {H : Heap} {locs : List Loc} {ls : Array Slot} {cells slots N : Nat} (hr1 : cells + N ≤ 2114) (hr2 : slots + 6 * N ≤ 12684) (hn_ret : 462 ≤ N)  (h : fs_L_follows_716 l2 l5 l8 s0 g = some z) (hP : va_P (gD Γ) gcls (lay Γ g) H) (hS : va_S (gA Γ) s.heap H locs) (hl : lv_has ls 32 [(0, .ref (gB Γ + 0)), (2, .long l2), (5, .int l5), (8, .int l8)]) : W p l e (gRx 10 190 2114 12684) s m args below meth c H locs cells slots (MQ below (gQi Γ z) args s 2114 12684 (gA Γ)) (F0 m 716 ls [.int s0]) := by
  unfold fs_L_follows_716 at h
  obtain ⟨hx, hb, hml, hr, hown, hts, hK, hlk, hX⟩ := id C0
  refine lv_istore (lv' := [(6, .int s0), (0, .ref (gB Γ + 0)), (2, .long l2), (5, .int l5), (8, .int l8)]) hx hb dL_follows_716 hl (by decide) rfl (fun ls hl => ?_)
  refine lv_iload hx hb dL_follows_718 (lv_at hl 0 rfl) ?_
  refine lv_if_eq (tgt := 810) hx hb dL_follows_720 (by decide) (fun c1 => ?_) (fun c1 => ?_)
  · replace h := gpos c1 h
    exact bs_L_follows_810 C0 hst  (N := (N - 0)) (by omega) (by omega) (by omega) h hP hS (lv_sub hl [1, 2, 3] rfl)
  · replace h := gneg c1 h
    refine lv_aload_n hx hb dL_follows_723 rfl (lv_at hl 1 rfl) ?_
    refine lv_iload hx hb dL_follows_724 (lv_at hl 4 rfl) ?_
    refine gCHl (n2 := 2) (rest := []) C0 wcw_L_giveUp wn_L (by decide +kernel) wl_L_132 wt_L_giveUp ⟨Nat.le_of_ble_eq_true rfl, Nat.le_of_ble_eq_true rfl⟩ ⟨gRcl (by omega), gRsl (by omega)⟩ [.ref (gB Γ + 0), .int l8] rfl (Nat.le_of_ble_eq_true rfl) hP hS hl.1 dL_follows_726 h (fun u hu => m_L_giveUp l hst Γ l8 g u hu) (fun u2 H locs h hP hS => ?_) rfl
    refine lv_iload hx hb dL_follows_729 (lv_at hl 3 rfl) ?_
    refine lv_i2l hx hb dL_follows_731 rfl ?_
    refine lv_lconst (v := 1) hx hb dL_follows_732 (by decide) ?_
    refine lv_lsub hx hb dL_follows_733 ?_
    refine W.lcmp hx hb dL_follows_734 ?_
    refine lv_if_ne (tgt := 810) hx hb dL_follows_735 (by decide) (fun c3 => ?_) (fun c3 => ?_)
    · replace h := gneg c3 h
      exact bs_L_follows_810 C0 hst  (N := (N - 1)) (by omega) (by omega) (by omega) h hP hS (lv_sub hl [1, 2, 3] rfl)
    · replace h := gpos c3 h
      refine lv_aload_n hx hb dL_follows_738 rfl (lv_at hl 1 rfl) ?_
      refine lv_iconst (v := 1) hx hb dL_follows_739 (by decide) ?_
      refine gCHl (n2 := 2) (rest := []) C0 wcw_L_about wn_L (by decide +kernel) wl_L_106 wt_L_about ⟨Nat.le_of_ble_eq_true rfl, Nat.le_of_ble_eq_true rfl⟩ ⟨gRcl (by omega), gRsl (by omega)⟩ [.ref (gB Γ + 0), .int (1 : Int32)] rfl (Nat.le_of_ble_eq_true rfl) hP hS hl.1 dL_follows_740 h (fun u hu => m_L_about l hst Γ (1 : Int32) u2.2 u hu) (fun u4 H locs h hP hS => ?_) rfl
      refine lv_iload hx hb dL_follows_743 (lv_at hl 3 rfl) ?_
      refine lv_i2l hx hb dL_follows_745 rfl ?_
      refine lv_lconst (v := 1) hx hb dL_follows_746 (by decide) ?_
      refine lv_lsub hx hb dL_follows_747 ?_
      refine W.lcmp hx hb dL_follows_748 ?_
      refine lv_if_ne (tgt := 810) hx hb dL_follows_749 (by decide) (fun c5 => ?_) (fun c5 => ?_)
      · replace h := gneg c5 h
        exact bs_L_follows_810 C0 hst  (N := (N - 2)) (by omega) (by omega) (by omega) h hP hS (lv_sub hl [1, 2, 3] rfl)
      · replace h := gpos c5 h
        refine lv_aload_n hx hb dL_follows_752 rfl (lv_at hl 1 rfl) ?_
        refine gCHl (n2 := 1) (rest := []) C0 wcw_L_addTeam wn_L (by decide +kernel) wl_L_139 wt_L_addTeam ⟨Nat.le_of_ble_eq_true rfl, Nat.le_of_ble_eq_true rfl⟩ ⟨gRcl (by omega), gRsl (by omega)⟩ [.ref (gB Γ + 0)] rfl (Nat.le_of_ble_eq_true rfl) hP hS hl.1 dL_follows_753 h (fun u hu => m_L_addTeam l hst Γ u4.2 u hu) (fun u6 H locs h hP hS => ?_) rfl
        refine lv_iload hx hb dL_follows_756 (lv_at hl 3 rfl) ?_
        refine lv_i2l hx hb dL_follows_758 rfl ?_
        refine lv_lconst (v := 1) hx hb dL_follows_759 (by decide) ?_
        refine lv_lsub hx hb dL_follows_760 ?_
        refine W.lcmp hx hb dL_follows_761 ?_
        refine lv_if_ne (tgt := 810) hx hb dL_follows_762 (by decide) (fun c7 => ?_) (fun c7 => ?_)
        · replace h := gneg c7 h
          exact bs_L_follows_810 C0 hst  (N := (N - 3)) (by omega) (by omega) (by omega) h hP hS (lv_sub hl [1, 2, 3] rfl)
        · replace h := gpos c7 h
          refine lv_aload_n hx hb dL_follows_765 rfl (lv_at hl 1 rfl) ?_
          refine lv_iload hx hb dL_follows_766 (lv_at hl 3 rfl) ?_
          refine lv_iconst (v := 1) hx hb dL_follows_768 (by decide) ?_
          refine lv_isub hx hb dL_follows_769 ?_
          refine lv_iconst (v := 1) hx hb dL_follows_770 (by decide) ?_
          refine gCHl (n2 := 3) (rest := []) C0 wcw_L_team wn_L (by decide +kernel) wl_L_114 wt_L_team ⟨Nat.le_of_ble_eq_true rfl, Nat.le_of_ble_eq_true rfl⟩ ⟨gRcl (by omega), gRsl (by omega)⟩ [.ref (gB Γ + 0), .int (l5 - (1 : Int32)), .int (1 : Int32)] rfl (Nat.le_of_ble_eq_true rfl) hP hS hl.1 dL_follows_771 h (fun u hu => m_L_team l hst Γ (l5 - (1 : Int32)) (1 : Int32) u6.2 u hu) (fun u8 H locs h hP hS => ?_) rfl
          refine lv_lconst (v := 0) hx hb dL_follows_774 (by decide) ?_
          refine W.lcmp hx hb dL_follows_775 ?_
          refine lv_if_ne (tgt := 810) hx hb dL_follows_776 (by decide) (fun c9 => ?_) (fun c9 => ?_)
          · replace h := gneg c9 h
            exact bs_L_follows_810 C0 hst  (N := (N - 5)) (by omega) (by omega) (by omega) h hP hS (lv_sub hl [1, 2, 3] rfl)
          · replace h := gpos c9 h
            refine lv_aload_n hx hb dL_follows_779 rfl (lv_at hl 1 rfl) ?_
            refine gCHl (n2 := 1) (rest := []) C0 wcw_L_undo wn_L (by decide +kernel) wl_L_194 wt_L_undo ⟨Nat.le_of_ble_eq_true rfl, Nat.le_of_ble_eq_true rfl⟩ ⟨gRcl (by omega), gRsl (by omega)⟩ [.ref (gB Γ + 0)] rfl (Nat.le_of_ble_eq_true rfl) hP hS hl.1 dL_follows_780 h (fun u hu => m_L_undo l hst Γ u8.2 u hu) (fun u10 H locs h hP hS => ?_) rfl
            refine lv_lconst (v := 0) hx hb dL_follows_783 (by decide) ?_
            refine W.lcmp hx hb dL_follows_784 ?_
            refine lv_if_lt (tgt := 810) hx hb dL_follows_785 (by decide) (fun c11 => ?_) (fun c11 => ?_)
            · replace h := gpos c11 h
              exact bs_L_follows_810 C0 hst  (N := (N - 6)) (by omega) (by omega) (by omega) h hP hS (lv_sub hl [1, 2, 3] rfl)
            · replace h := gneg c11 h
              refine lv_aload_n hx hb dL_follows_788 rfl (lv_at hl 1 rfl) ?_
              refine gCHl (n2 := 1) (rest := []) C0 wcw_L_undo wn_L (by decide +kernel) wl_L_194 wt_L_undo ⟨Nat.le_of_ble_eq_true rfl, Nat.le_of_ble_eq_true rfl⟩ ⟨gRcl (by omega), gRsl (by omega)⟩ [.ref (gB Γ + 0)] rfl (Nat.le_of_ble_eq_true rfl) hP hS hl.1 dL_follows_789 h (fun u hu => m_L_undo l hst Γ u10.2 u hu) (fun u12 H locs h hP hS => ?_) rfl
              refine lv_lconst (v := 0) hx hb dL_follows_792 (by decide) ?_
              refine W.lcmp hx hb dL_follows_793 ?_
              refine lv_if_lt (tgt := 810) hx hb dL_follows_794 (by decide) (fun c13 => ?_) (fun c13 => ?_)
              · replace h := gpos c13 h
                exact bs_L_follows_810 C0 hst  (N := (N - 7)) (by omega) (by omega) (by omega) h hP hS (lv_sub hl [1, 2, 3] rfl)
              · replace h := gneg c13 h
                refine lv_aload_n hx hb dL_follows_797 rfl (lv_at hl 1 rfl) ?_
                refine gCKl (rest := []) C0 cal_L_now wl_L_120 wt_L_now ⟨Nat.le_of_ble_eq_true rfl, Nat.le_of_ble_eq_true rfl⟩ ⟨gRcl (by omega), gRsl (by omega)⟩ [.ref (gB Γ + 0)] rfl (Nat.le_of_ble_eq_true rfl) hP hS hl.1 dL_follows_798 h (fun u hu => m_L_now l hst Γ u12.2 u hu) (fun u14 H locs h hP hS => ?_) rfl
                refine lv_lload_n hx hb dL_follows_801 rfl (lv_at hl 2 rfl) ?_
                refine W.lcmp hx hb dL_follows_802 ?_
                refine lv_if_ne (tgt := 810) hx hb dL_follows_803 (by decide) (fun c15 => ?_) (fun c15 => ?_)
                · replace h := gneg c15 h
                  exact bs_L_follows_810 C0 hst  (N := (N - 233)) (by omega) (by omega) (by omega) h hP hS (lv_sub hl [1, 2, 3] rfl)
                · replace h := gpos c15 h
                  refine lv_iconst (v := 1) hx hb dL_follows_806 (by decide) ?_
                  refine lv_goto (tgt := 811) hx hb dL_follows_807 (by decide) ?_
                  exact bs_L_follows_811 C0 hst  (N := (N - 233)) (by omega) (by omega) (by omega) h hP hS (lv_sub hl [1, 2, 3] rfl)
set_option maxHeartbeats 2000000 in
set_option maxRecDepth 20000 in
theorem bs_L_follows_715 {p : Program} {l : Launch} {e : Env} {s : State} {m : MethodId} {args : Array Value} {below : List Frame} {meth : Method} {c : Code} {Γ : gE} (C0 : gCx p s m args meth c Γ RL cL_follows 32 (some .boolean)) (hst : l.stackTraces = false)   {z : Int32 × gG}  {l2 : Int64} {l5 : Int32} {l8 : Int32} {g : gG} {H : Heap} {locs : List Loc} {ls : Array Slot} {cells slots N : Nat} (hr1 : cells + N ≤ 2114) (hr2 : slots + 6 * N ≤ 12684) (hn_ret : 462 ≤ N)  (h : fs_L_follows_715 l2 l5 l8 g = some z) (hP : va_P (gD Γ) gcls (lay Γ g) H) (hS : va_S (gA Γ) s.heap H locs) (hl : lv_has ls 32 [(0, .ref (gB Γ + 0)), (2, .long l2), (5, .int l5), (8, .int l8)]) : W p l e (gRx 10 190 2114 12684) s m args below meth c H locs cells slots (MQ below (gQi Γ z) args s 2114 12684 (gA Γ)) (F0 m 715 ls []) := by
  unfold fs_L_follows_715 at h
  obtain ⟨hx, hb, hml, hr, hown, hts, hK, hlk, hX⟩ := id C0
  refine lv_iconst (v := 0) hx hb dL_follows_715 (by decide) ?_
  exact bs_L_follows_716 C0 hst  (N := (N - 0)) (by omega) (by omega) (by omega) h hP hS (lv_sub hl [0, 1, 2, 3] rfl)
set_option maxHeartbeats 2000000 in
set_option maxRecDepth 20000 in
theorem bs_L_follows_629 {p : Program} {l : Launch} {e : Env} {s : State} {m : MethodId} {args : Array Value} {below : List Frame} {meth : Method} {c : Code} {Γ : gE} (C0 : gCx p s m args meth c Γ RL cL_follows 32 (some .boolean)) (hst : l.stackTraces = false)   {z : Int32 × gG}  {l1 : Int32} {l2 : Int64} {l4 : Int32} {l5 : Int32} {l6 : Int32} {l8 : Int32} {g : gG} {H : Heap} {locs : List Loc} {ls : Array Slot} {cells slots N : Nat} (hr1 : cells + N ≤ 2114) (hr2 : slots + 6 * N ≤ 12684) (hn_ret : 696 ≤ N)  (h : fs_L_follows_629 l1 l2 l4 l5 l6 l8 g = some z) (hP : va_P (gD Γ) gcls (lay Γ g) H) (hS : va_S (gA Γ) s.heap H locs) (hl : lv_has ls 32 [(0, .ref (gB Γ + 0)), (1, .int l1), (2, .long l2), (4, .int l4), (5, .int l5), (6, .int l6), (8, .int l8)]) : W p l e (gRx 10 190 2114 12684) s m args below meth c H locs cells slots (MQ below (gQi Γ z) args s 2114 12684 (gA Γ)) (F0 m 629 ls []) := by
  unfold fs_L_follows_629 at h
  obtain ⟨hx, hb, hml, hr, hown, hts, hK, hlk, hX⟩ := id C0
  refine lv_iload_n hx hb dL_follows_629 rfl (lv_at hl 1 rfl) ?_
  refine lv_bipush (v := 7) hx hb dL_follows_630 (by decide) ?_
  refine lv_idiv hx hb dL_follows_632 (by decide) ?_
  refine lv_iload hx hb dL_follows_633 (lv_at hl 3 rfl) ?_
  obtain ⟨c1, h⟩ := gnz h
  refine lv_irem hx hb dL_follows_635 c1 ?_
  refine lv_topi (fun x2 ex2 => ?_)
  replace h := gLetI ex2 h
  refine lv_istore (lv' := [(27, .int x2), (0, .ref (gB Γ + 0)), (1, .int l1), (2, .long l2), (4, .int l4), (5, .int l5), (6, .int l6), (8, .int l8)]) hx hb dL_follows_636 hl (by decide) rfl (fun ls hl => ?_)
  refine lv_aload_n hx hb dL_follows_638 rfl (lv_at hl 1 rfl) ?_
  refine lv_iload hx hb dL_follows_639 (lv_at hl 0 rfl) ?_
  refine lv_iconst (v := 3) hx hb dL_follows_641 (by decide) ?_
  refine gCHl (n2 := 3) (rest := []) C0 wcw_L_place wn_L (by decide +kernel) wl_L_111 wt_L_place ⟨Nat.le_of_ble_eq_true rfl, Nat.le_of_ble_eq_true rfl⟩ ⟨gRcl (by omega), gRsl (by omega)⟩ [.ref (gB Γ + 0), .int x2, .int (3 : Int32)] rfl (Nat.le_of_ble_eq_true rfl) hP hS hl.1 dL_follows_642 h (fun u hu => m_L_place l hst Γ x2 (3 : Int32) g u hu) (fun u3 H locs h hP hS => ?_) rfl
  refine lv_topl (fun x4 ex4 => ?_)
  replace h := gLetI ex4 h
  refine lv_lstore (lv' := [(28, .long x4), (27, .int x2), (0, .ref (gB Γ + 0)), (1, .int l1), (2, .long l2), (4, .int l4), (5, .int l5), (6, .int l6), (8, .int l8)]) hx hb dL_follows_645 hl (by decide) rfl (fun ls hl => ?_)
  refine lv_iload hx hb dL_follows_647 (lv_at hl 7 rfl) ?_
  refine lv_if_eq (tgt := 715) hx hb dL_follows_649 (by decide) (fun c5 => ?_) (fun c5 => ?_)
  · replace h := gpos c5 h
    exact bs_L_follows_715 C0 hst  (N := (N - 2)) (by omega) (by omega) (by omega) h hP hS (lv_sub hl [2, 4, 6, 8] rfl)
  · replace h := gneg c5 h
    refine lv_aload_n hx hb dL_follows_652 rfl (lv_at hl 2 rfl) ?_
    refine lv_iload hx hb dL_follows_653 (lv_at hl 1 rfl) ?_
    refine gCHl (n2 := 2) (rest := []) C0 wcw_L_ease wn_L (by decide +kernel) wl_L_137 wt_L_ease ⟨Nat.le_of_ble_eq_true rfl, Nat.le_of_ble_eq_true rfl⟩ ⟨gRcl (by omega), gRsl (by omega)⟩ [.ref (gB Γ + 0), .int x2] rfl (Nat.le_of_ble_eq_true rfl) hP hS hl.1 dL_follows_655 h (fun u hu => m_L_ease l hst Γ x2 u3.2 u hu) (fun u6 H locs h hP hS => ?_) rfl
    refine lv_lload hx hb dL_follows_658 (lv_at hl 0 rfl) ?_
    refine W.lcmp hx hb dL_follows_660 ?_
    refine lv_if_ne (tgt := 715) hx hb dL_follows_661 (by decide) (fun c7 => ?_) (fun c7 => ?_)
    · replace h := gneg c7 h
      exact bs_L_follows_715 C0 hst  (N := (N - 3)) (by omega) (by omega) (by omega) h hP hS (lv_sub hl [2, 4, 6, 8] rfl)
    · replace h := gpos c7 h
      refine lv_aload_n hx hb dL_follows_664 rfl (lv_at hl 2 rfl) ?_
      refine lv_iload hx hb dL_follows_665 (lv_at hl 1 rfl) ?_
      refine lv_iconst (v := 3) hx hb dL_follows_667 (by decide) ?_
      refine gCHl (n2 := 3) (rest := []) C0 wcw_L_place wn_L (by decide +kernel) wl_L_111 wt_L_place ⟨Nat.le_of_ble_eq_true rfl, Nat.le_of_ble_eq_true rfl⟩ ⟨gRcl (by omega), gRsl (by omega)⟩ [.ref (gB Γ + 0), .int x2, .int (3 : Int32)] rfl (Nat.le_of_ble_eq_true rfl) hP hS hl.1 dL_follows_668 h (fun u hu => m_L_place l hst Γ x2 (3 : Int32) u6.2 u hu) (fun u8 H locs h hP hS => ?_) rfl
      refine lv_lconst (v := 1) hx hb dL_follows_671 (by decide) ?_
      refine lv_iload hx hb dL_follows_672 (lv_at hl 5 rfl) ?_
      refine lv_iconst (v := 1) hx hb dL_follows_674 (by decide) ?_
      refine lv_isub hx hb dL_follows_675 ?_
      refine lv_lshl hx hb dL_follows_676 rfl ?_
      refine W.lcmp hx hb dL_follows_677 ?_
      refine lv_if_ne (tgt := 715) hx hb dL_follows_678 (by decide) (fun c9 => ?_) (fun c9 => ?_)
      · replace h := gneg c9 h
        exact bs_L_follows_715 C0 hst  (N := (N - 5)) (by omega) (by omega) (by omega) h hP hS (lv_sub hl [2, 4, 6, 8] rfl)
      · replace h := gpos c9 h
        refine lv_aload_n hx hb dL_follows_681 rfl (lv_at hl 2 rfl) ?_
        refine lv_iload hx hb dL_follows_682 (lv_at hl 1 rfl) ?_
        refine lv_iconst (v := 0) hx hb dL_follows_684 (by decide) ?_
        refine gCHl (n2 := 3) (rest := []) C0 wcw_L_holds wn_L (by decide +kernel) wl_L_124 wt_L_holds ⟨Nat.le_of_ble_eq_true rfl, Nat.le_of_ble_eq_true rfl⟩ ⟨gRcl (by omega), gRsl (by omega)⟩ [.ref (gB Γ + 0), .int x2, .int (0 : Int32)] rfl (Nat.le_of_ble_eq_true rfl) hP hS hl.1 dL_follows_685 h (fun u hu => m_L_holds l hst Γ x2 (0 : Int32) u8.2 u hu) (fun u10 H locs h hP hS => ?_) rfl
        refine lv_lconst (v := 1) hx hb dL_follows_688 (by decide) ?_
        refine W.lcmp hx hb dL_follows_689 ?_
        refine lv_if_ne (tgt := 715) hx hb dL_follows_690 (by decide) (fun c11 => ?_) (fun c11 => ?_)
        · replace h := gneg c11 h
          exact bs_L_follows_715 C0 hst  (N := (N - 7)) (by omega) (by omega) (by omega) h hP hS (lv_sub hl [2, 4, 6, 8] rfl)
        · replace h := gpos c11 h
          refine lv_aload_n hx hb dL_follows_693 rfl (lv_at hl 2 rfl) ?_
          refine gCHl (n2 := 1) (rest := []) C0 wcw_L_undo wn_L (by decide +kernel) wl_L_194 wt_L_undo ⟨Nat.le_of_ble_eq_true rfl, Nat.le_of_ble_eq_true rfl⟩ ⟨gRcl (by omega), gRsl (by omega)⟩ [.ref (gB Γ + 0)] rfl (Nat.le_of_ble_eq_true rfl) hP hS hl.1 dL_follows_694 h (fun u hu => m_L_undo l hst Γ u10.2 u hu) (fun u12 H locs h hP hS => ?_) rfl
          refine lv_lconst (v := 0) hx hb dL_follows_697 (by decide) ?_
          refine W.lcmp hx hb dL_follows_698 ?_
          refine lv_if_lt (tgt := 715) hx hb dL_follows_699 (by decide) (fun c13 => ?_) (fun c13 => ?_)
          · replace h := gpos c13 h
            exact bs_L_follows_715 C0 hst  (N := (N - 8)) (by omega) (by omega) (by omega) h hP hS (lv_sub hl [2, 4, 6, 8] rfl)
          · replace h := gneg c13 h
            refine lv_aload_n hx hb dL_follows_702 rfl (lv_at hl 2 rfl) ?_
            refine gCKl (rest := []) C0 cal_L_now wl_L_120 wt_L_now ⟨Nat.le_of_ble_eq_true rfl, Nat.le_of_ble_eq_true rfl⟩ ⟨gRcl (by omega), gRsl (by omega)⟩ [.ref (gB Γ + 0)] rfl (Nat.le_of_ble_eq_true rfl) hP hS hl.1 dL_follows_703 h (fun u hu => m_L_now l hst Γ u12.2 u hu) (fun u14 H locs h hP hS => ?_) rfl
            refine lv_lload_n hx hb dL_follows_706 rfl (lv_at hl 4 rfl) ?_
            refine W.lcmp hx hb dL_follows_707 ?_
            refine lv_if_ne (tgt := 715) hx hb dL_follows_708 (by decide) (fun c15 => ?_) (fun c15 => ?_)
            · replace h := gneg c15 h
              exact bs_L_follows_715 C0 hst  (N := (N - 234)) (by omega) (by omega) (by omega) h hP hS (lv_sub hl [2, 4, 6, 8] rfl)
            · replace h := gpos c15 h
              refine lv_iconst (v := 1) hx hb dL_follows_711 (by decide) ?_
              refine lv_goto (tgt := 716) hx hb dL_follows_712 (by decide) ?_
              exact bs_L_follows_716 C0 hst  (N := (N - 234)) (by omega) (by omega) (by omega) h hP hS (lv_sub hl [2, 4, 6, 8] rfl)
set_option maxHeartbeats 2000000 in
set_option maxRecDepth 20000 in
theorem bs_L_follows_627 {p : Program} {l : Launch} {e : Env} {s : State} {m : MethodId} {args : Array Value} {below : List Frame} {meth : Method} {c : Code} {Γ : gE} (C0 : gCx p s m args meth c Γ RL cL_follows 32 (some .boolean)) (hst : l.stackTraces = false)   {z : Int32 × gG}  {l1 : Int32} {l2 : Int64} {l4 : Int32} {l5 : Int32} {l8 : Int32} {s0 : Int32} {g : gG} {H : Heap} {locs : List Loc} {ls : Array Slot} {cells slots N : Nat} (hr1 : cells + N ≤ 2114) (hr2 : slots + 6 * N ≤ 12684) (hn_ret : 696 ≤ N)  (h : fs_L_follows_627 l1 l2 l4 l5 l8 s0 g = some z) (hP : va_P (gD Γ) gcls (lay Γ g) H) (hS : va_S (gA Γ) s.heap H locs) (hl : lv_has ls 32 [(0, .ref (gB Γ + 0)), (1, .int l1), (2, .long l2), (4, .int l4), (5, .int l5), (8, .int l8)]) : W p l e (gRx 10 190 2114 12684) s m args below meth c H locs cells slots (MQ below (gQi Γ z) args s 2114 12684 (gA Γ)) (F0 m 627 ls [.int s0]) := by
  unfold fs_L_follows_627 at h
  obtain ⟨hx, hb, hml, hr, hown, hts, hK, hlk, hX⟩ := id C0
  refine lv_istore (lv' := [(6, .int s0), (0, .ref (gB Γ + 0)), (1, .int l1), (2, .long l2), (4, .int l4), (5, .int l5), (8, .int l8)]) hx hb dL_follows_627 hl (by decide) rfl (fun ls hl => ?_)
  exact bs_L_follows_629 C0 hst  (N := (N - 0)) (by omega) (by omega) (by omega) h hP hS (lv_sub hl [1, 2, 3, 4, 5, 0, 6] rfl)
set_option maxHeartbeats 2000000 in
set_option maxRecDepth 20000 in
theorem bs_L_follows_626 {p : Program} {l : Launch} {e : Env} {s : State} {m : MethodId} {args : Array Value} {below : List Frame} {meth : Method} {c : Code} {Γ : gE} (C0 : gCx p s m args meth c Γ RL cL_follows 32 (some .boolean)) (hst : l.stackTraces = false)   {z : Int32 × gG}  {l1 : Int32} {l2 : Int64} {l4 : Int32} {l5 : Int32} {l8 : Int32} {g : gG} {H : Heap} {locs : List Loc} {ls : Array Slot} {cells slots N : Nat} (hr1 : cells + N ≤ 2114) (hr2 : slots + 6 * N ≤ 12684) (hn_ret : 696 ≤ N)  (h : fs_L_follows_626 l1 l2 l4 l5 l8 g = some z) (hP : va_P (gD Γ) gcls (lay Γ g) H) (hS : va_S (gA Γ) s.heap H locs) (hl : lv_has ls 32 [(0, .ref (gB Γ + 0)), (1, .int l1), (2, .long l2), (4, .int l4), (5, .int l5), (8, .int l8)]) : W p l e (gRx 10 190 2114 12684) s m args below meth c H locs cells slots (MQ below (gQi Γ z) args s 2114 12684 (gA Γ)) (F0 m 626 ls []) := by
  unfold fs_L_follows_626 at h
  obtain ⟨hx, hb, hml, hr, hown, hts, hK, hlk, hX⟩ := id C0
  refine lv_iconst (v := 0) hx hb dL_follows_626 (by decide) ?_
  exact bs_L_follows_627 C0 hst  (N := (N - 0)) (by omega) (by omega) (by omega) h hP hS (lv_sub hl [0, 1, 2, 3, 4, 5] rfl)
set_option maxHeartbeats 2000000 in
set_option maxRecDepth 20000 in
theorem bs_L_follows_526 {p : Program} {l : Launch} {e : Env} {s : State} {m : MethodId} {args : Array Value} {below : List Frame} {meth : Method} {c : Code} {Γ : gE} (C0 : gCx p s m args meth c Γ RL cL_follows 32 (some .boolean)) (hst : l.stackTraces = false)   {z : Int32 × gG}  {l1 : Int32} {l2 : Int64} {l4 : Int32} {l5 : Int32} {l8 : Int32} {l11 : Int64} {s0 : Int32} {g : gG} {H : Heap} {locs : List Loc} {ls : Array Slot} {cells slots N : Nat} (hr1 : cells + N ≤ 2114) (hr2 : slots + 6 * N ≤ 12684) (hn_ret : 926 ≤ N)  (h : fs_L_follows_526 l1 l2 l4 l5 l8 l11 s0 g = some z) (hP : va_P (gD Γ) gcls (lay Γ g) H) (hS : va_S (gA Γ) s.heap H locs) (hl : lv_has ls 32 [(0, .ref (gB Γ + 0)), (1, .int l1), (2, .long l2), (4, .int l4), (5, .int l5), (8, .int l8), (11, .long l11)]) : W p l e (gRx 10 190 2114 12684) s m args below meth c H locs cells slots (MQ below (gQi Γ z) args s 2114 12684 (gA Γ)) (F0 m 526 ls [.int s0]) := by
  unfold fs_L_follows_526 at h
  obtain ⟨hx, hb, hml, hr, hown, hts, hK, hlk, hX⟩ := id C0
  refine lv_istore (lv' := [(6, .int s0), (0, .ref (gB Γ + 0)), (1, .int l1), (2, .long l2), (4, .int l4), (5, .int l5), (8, .int l8), (11, .long l11)]) hx hb dL_follows_526 hl (by decide) rfl (fun ls hl => ?_)
  refine lv_lload hx hb dL_follows_528 (lv_at hl 7 rfl) ?_
  refine lv_lconst (v := 0) hx hb dL_follows_530 (by decide) ?_
  refine W.lcmp hx hb dL_follows_531 ?_
  refine lv_if_eq (tgt := 629) hx hb dL_follows_532 (by decide) (fun c1 => ?_) (fun c1 => ?_)
  · replace h := gpos c1 h
    exact bs_L_follows_629 C0 hst  (N := (N - 0)) (by omega) (by omega) (by omega) h hP hS (lv_sub hl [1, 2, 3, 4, 5, 0, 6] rfl)
  · replace h := gneg c1 h
    refine lv_iload hx hb dL_follows_535 (lv_at hl 0 rfl) ?_
    refine lv_if_eq (tgt := 629) hx hb dL_follows_537 (by decide) (fun c2 => ?_) (fun c2 => ?_)
    · replace h := gpos c2 h
      exact bs_L_follows_629 C0 hst  (N := (N - 0)) (by omega) (by omega) (by omega) h hP hS (lv_sub hl [1, 2, 3, 4, 5, 0, 6] rfl)
    · replace h := gneg c2 h
      refine lv_aload_n hx hb dL_follows_540 rfl (lv_at hl 1 rfl) ?_
      refine lv_iload hx hb dL_follows_541 (lv_at hl 6 rfl) ?_
      refine gCHl (n2 := 2) (rest := []) C0 wcw_L_hint wn_L (by decide +kernel) wl_L_130 wt_L_hint ⟨Nat.le_of_ble_eq_true rfl, Nat.le_of_ble_eq_true rfl⟩ ⟨gRcl (by omega), gRsl (by omega)⟩ [.ref (gB Γ + 0), .int l8] rfl (Nat.le_of_ble_eq_true rfl) hP hS hl.1 dL_follows_543 h (fun u hu => m_L_hint l hst Γ l8 g u hu) (fun u3 H locs h hP hS => ?_) rfl
      refine lv_topl (fun x4 ex4 => ?_)
      replace h := gLetI ex4 h
      refine lv_lstore (lv' := [(27, .long x4), (6, .int s0), (0, .ref (gB Γ + 0)), (1, .int l1), (2, .long l2), (4, .int l4), (5, .int l5), (8, .int l8), (11, .long l11)]) hx hb dL_follows_546 hl (by decide) rfl (fun ls hl => ?_)
      refine lv_lload hx hb dL_follows_548 (lv_at hl 8 rfl) ?_
      refine lv_lload hx hb dL_follows_550 (lv_at hl 0 rfl) ?_
      refine lv_l2i hx hb dL_follows_552 rfl ?_
      refine gCSi (rest := []) C0 cal_L_has wl_L_147 wt_L_has ⟨Nat.le_of_ble_eq_true rfl, Nat.le_of_ble_eq_true rfl⟩ ⟨gRcl (by omega), gRsl (by omega)⟩ [.long l11, .int x4.toInt32] rfl (Nat.le_of_ble_eq_true rfl) hP hS hl.1 dL_follows_553 h (fun u hu => m_L_has l Γ l11 x4.toInt32 u3.2 u hu) (fun u5 H locs h hP hS => ?_) rfl
      refine lv_if_eq (tgt := 626) hx hb dL_follows_556 (by decide) (fun c6 => ?_) (fun c6 => ?_)
      · replace h := gpos c6 h
        exact bs_L_follows_626 C0 hst  (N := (N - 2)) (by omega) (by omega) (by omega) h hP hS (lv_sub hl [2, 3, 4, 5, 6, 7] rfl)
      · replace h := gneg c6 h
        refine lv_lload hx hb dL_follows_559 (lv_at hl 8 rfl) ?_
        refine lv_lconst (v := 1) hx hb dL_follows_561 (by decide) ?_
        refine lv_lload hx hb dL_follows_562 (lv_at hl 0 rfl) ?_
        refine lv_l2i hx hb dL_follows_564 rfl ?_
        refine lv_lshl hx hb dL_follows_565 rfl ?_
        refine lv_lconst (v := 1) hx hb dL_follows_566 (by decide) ?_
        refine lv_lsub hx hb dL_follows_567 ?_
        refine lv_land hx hb dL_follows_568 ?_
        refine lv_lconst (v := 0) hx hb dL_follows_569 (by decide) ?_
        refine W.lcmp hx hb dL_follows_570 ?_
        refine lv_if_ne (tgt := 626) hx hb dL_follows_571 (by decide) (fun c7 => ?_) (fun c7 => ?_)
        · replace h := gneg c7 h
          exact bs_L_follows_626 C0 hst  (N := (N - 2)) (by omega) (by omega) (by omega) h hP hS (lv_sub hl [2, 3, 4, 5, 6, 7] rfl)
        · replace h := gpos c7 h
          refine lv_aload_n hx hb dL_follows_574 rfl (lv_at hl 2 rfl) ?_
          refine lv_iconst (v := 1) hx hb dL_follows_575 (by decide) ?_
          refine lv_ldc2 (v := 5000) hx hb hown (hts _ wkl_L_196) dL_follows_576 ?_
          refine lv_ldc2 (v := 100) hx hb hown (hts _ wkl_L_198) dL_follows_579 ?_
          refine lv_iload hx hb dL_follows_582 (lv_at hl 7 rfl) ?_
          refine lv_i2l hx hb dL_follows_584 rfl ?_
          refine lv_lmul hx hb dL_follows_585 ?_
          refine lv_ladd hx hb dL_follows_586 ?_
          refine lv_ldc2 (v := 10) hx hb hown (hts _ wkl_L_170) dL_follows_587 ?_
          refine lv_lload hx hb dL_follows_590 (lv_at hl 0 rfl) ?_
          refine lv_lmul hx hb dL_follows_592 ?_
          refine lv_ladd hx hb dL_follows_593 ?_
          refine gCHl (n2 := 3) (rest := []) C0 wcw_L_script wn_L (by decide +kernel) wl_L_153 wt_L_script ⟨Nat.le_of_ble_eq_true rfl, Nat.le_of_ble_eq_true rfl⟩ ⟨gRcl (by omega), gRsl (by omega)⟩ [.ref (gB Γ + 0), .int (1 : Int32), .long (((5000 : Int64) + ((100 : Int64) * l8.toInt64)) + ((10 : Int64) * x4))] rfl (Nat.le_of_ble_eq_true rfl) hP hS hl.1 dL_follows_594 h (fun u hu => m_L_script l hst Γ (1 : Int32) (((5000 : Int64) + ((100 : Int64) * l8.toInt64)) + ((10 : Int64) * x4)) u5.2 u hu) (fun u8 H locs h hP hS => ?_) rfl
          refine lv_ldc2 (v := -9) hx hb hown (hts _ wkl_L_178) dL_follows_597 ?_
          refine W.lcmp hx hb dL_follows_600 ?_
          refine lv_if_ne (tgt := 626) hx hb dL_follows_601 (by decide) (fun c9 => ?_) (fun c9 => ?_)
          · replace h := gneg c9 h
            exact bs_L_follows_626 C0 hst  (N := (N - 3)) (by omega) (by omega) (by omega) h hP hS (lv_sub hl [2, 3, 4, 5, 6, 7] rfl)
          · replace h := gpos c9 h
            refine lv_aload_n hx hb dL_follows_604 rfl (lv_at hl 2 rfl) ?_
            refine gCHl (n2 := 1) (rest := []) C0 wcw_L_undo wn_L (by decide +kernel) wl_L_194 wt_L_undo ⟨Nat.le_of_ble_eq_true rfl, Nat.le_of_ble_eq_true rfl⟩ ⟨gRcl (by omega), gRsl (by omega)⟩ [.ref (gB Γ + 0)] rfl (Nat.le_of_ble_eq_true rfl) hP hS hl.1 dL_follows_605 h (fun u hu => m_L_undo l hst Γ u8.2 u hu) (fun u10 H locs h hP hS => ?_) rfl
            refine lv_lconst (v := 0) hx hb dL_follows_608 (by decide) ?_
            refine W.lcmp hx hb dL_follows_609 ?_
            refine lv_if_lt (tgt := 626) hx hb dL_follows_610 (by decide) (fun c11 => ?_) (fun c11 => ?_)
            · replace h := gpos c11 h
              exact bs_L_follows_626 C0 hst  (N := (N - 4)) (by omega) (by omega) (by omega) h hP hS (lv_sub hl [2, 3, 4, 5, 6, 7] rfl)
            · replace h := gneg c11 h
              refine lv_aload_n hx hb dL_follows_613 rfl (lv_at hl 2 rfl) ?_
              refine gCKl (rest := []) C0 cal_L_now wl_L_120 wt_L_now ⟨Nat.le_of_ble_eq_true rfl, Nat.le_of_ble_eq_true rfl⟩ ⟨gRcl (by omega), gRsl (by omega)⟩ [.ref (gB Γ + 0)] rfl (Nat.le_of_ble_eq_true rfl) hP hS hl.1 dL_follows_614 h (fun u hu => m_L_now l hst Γ u10.2 u hu) (fun u12 H locs h hP hS => ?_) rfl
              refine lv_lload_n hx hb dL_follows_617 rfl (lv_at hl 4 rfl) ?_
              refine W.lcmp hx hb dL_follows_618 ?_
              refine lv_if_ne (tgt := 626) hx hb dL_follows_619 (by decide) (fun c13 => ?_) (fun c13 => ?_)
              · replace h := gneg c13 h
                exact bs_L_follows_626 C0 hst  (N := (N - 230)) (by omega) (by omega) (by omega) h hP hS (lv_sub hl [2, 3, 4, 5, 6, 7] rfl)
              · replace h := gpos c13 h
                refine lv_iconst (v := 1) hx hb dL_follows_622 (by decide) ?_
                refine lv_goto (tgt := 627) hx hb dL_follows_623 (by decide) ?_
                exact bs_L_follows_627 C0 hst  (N := (N - 230)) (by omega) (by omega) (by omega) h hP hS (lv_sub hl [2, 3, 4, 5, 6, 7] rfl)
set_option maxHeartbeats 2000000 in
set_option maxRecDepth 20000 in
theorem bs_L_follows_525 {p : Program} {l : Launch} {e : Env} {s : State} {m : MethodId} {args : Array Value} {below : List Frame} {meth : Method} {c : Code} {Γ : gE} (C0 : gCx p s m args meth c Γ RL cL_follows 32 (some .boolean)) (hst : l.stackTraces = false)   {z : Int32 × gG}  {l1 : Int32} {l2 : Int64} {l4 : Int32} {l5 : Int32} {l8 : Int32} {l11 : Int64} {g : gG} {H : Heap} {locs : List Loc} {ls : Array Slot} {cells slots N : Nat} (hr1 : cells + N ≤ 2114) (hr2 : slots + 6 * N ≤ 12684) (hn_ret : 926 ≤ N)  (h : fs_L_follows_525 l1 l2 l4 l5 l8 l11 g = some z) (hP : va_P (gD Γ) gcls (lay Γ g) H) (hS : va_S (gA Γ) s.heap H locs) (hl : lv_has ls 32 [(0, .ref (gB Γ + 0)), (1, .int l1), (2, .long l2), (4, .int l4), (5, .int l5), (8, .int l8), (11, .long l11)]) : W p l e (gRx 10 190 2114 12684) s m args below meth c H locs cells slots (MQ below (gQi Γ z) args s 2114 12684 (gA Γ)) (F0 m 525 ls []) := by
  unfold fs_L_follows_525 at h
  obtain ⟨hx, hb, hml, hr, hown, hts, hK, hlk, hX⟩ := id C0
  refine lv_iconst (v := 0) hx hb dL_follows_525 (by decide) ?_
  exact bs_L_follows_526 C0 hst  (N := (N - 0)) (by omega) (by omega) (by omega) h hP hS (lv_sub hl [0, 1, 2, 3, 4, 5, 6] rfl)
set_option maxHeartbeats 2000000 in
set_option maxRecDepth 20000 in
theorem bs_L_follows_521 {p : Program} {l : Launch} {e : Env} {s : State} {m : MethodId} {args : Array Value} {below : List Frame} {meth : Method} {c : Code} {Γ : gE} (C0 : gCx p s m args meth c Γ RL cL_follows 32 (some .boolean)) (hst : l.stackTraces = false)   {z : Int32 × gG}  {l1 : Int32} {l2 : Int64} {l4 : Int32} {l5 : Int32} {l8 : Int32} {l11 : Int64} {g : gG} {H : Heap} {locs : List Loc} {ls : Array Slot} {cells slots N : Nat} (hr1 : cells + N ≤ 2114) (hr2 : slots + 6 * N ≤ 12684) (hn_ret : 926 ≤ N)  (h : fs_L_follows_521 l1 l2 l4 l5 l8 l11 g = some z) (hP : va_P (gD Γ) gcls (lay Γ g) H) (hS : va_S (gA Γ) s.heap H locs) (hl : lv_has ls 32 [(0, .ref (gB Γ + 0)), (1, .int l1), (2, .long l2), (4, .int l4), (5, .int l5), (8, .int l8), (11, .long l11)]) : W p l e (gRx 10 190 2114 12684) s m args below meth c H locs cells slots (MQ below (gQi Γ z) args s 2114 12684 (gA Γ)) (F0 m 521 ls []) := by
  unfold fs_L_follows_521 at h
  obtain ⟨hx, hb, hml, hr, hown, hts, hK, hlk, hX⟩ := id C0
  refine lv_iconst (v := 1) hx hb dL_follows_521 (by decide) ?_
  refine lv_goto (tgt := 526) hx hb dL_follows_522 (by decide) ?_
  exact bs_L_follows_526 C0 hst  (N := (N - 0)) (by omega) (by omega) (by omega) h hP hS (lv_sub hl [0, 1, 2, 3, 4, 5, 6] rfl)
set_option maxHeartbeats 2000000 in
set_option maxRecDepth 20000 in
theorem bs_L_follows_492 {p : Program} {l : Launch} {e : Env} {s : State} {m : MethodId} {args : Array Value} {below : List Frame} {meth : Method} {c : Code} {Γ : gE} (C0 : gCx p s m args meth c Γ RL cL_follows 32 (some .boolean)) (hst : l.stackTraces = false)   {z : Int32 × gG}  {l1 : Int32} {l2 : Int64} {l4 : Int32} {l5 : Int32} {l6 : Int32} {l8 : Int32} {l9 : Int64} {l11 : Int64} {l13 : Int64} {l25 : Int64} {g : gG} {H : Heap} {locs : List Loc} {ls : Array Slot} {cells slots N : Nat} (hr1 : cells + N ≤ 2114) (hr2 : slots + 6 * N ≤ 12684) (hn_ret : 1152 ≤ N)  (h : fs_L_follows_492 l1 l2 l4 l5 l6 l8 l9 l11 l13 l25 g = some z) (hP : va_P (gD Γ) gcls (lay Γ g) H) (hS : va_S (gA Γ) s.heap H locs) (hl : lv_has ls 32 [(0, .ref (gB Γ + 0)), (1, .int l1), (2, .long l2), (4, .int l4), (5, .int l5), (6, .int l6), (8, .int l8), (9, .long l9), (11, .long l11), (13, .long l13), (25, .long l25)]) : W p l e (gRx 10 190 2114 12684) s m args below meth c H locs cells slots (MQ below (gQi Γ z) args s 2114 12684 (gA Γ)) (F0 m 492 ls []) := by
  unfold fs_L_follows_492 at h
  obtain ⟨hx, hb, hml, hr, hown, hts, hK, hlk, hX⟩ := id C0
  refine lv_iload hx hb dL_follows_492 (lv_at hl 5 rfl) ?_
  refine lv_if_eq (tgt := 525) hx hb dL_follows_494 (by decide) (fun c1 => ?_) (fun c1 => ?_)
  · replace h := gpos c1 h
    exact bs_L_follows_525 C0 hst  (N := (N - 0)) (by omega) (by omega) (by omega) h hP hS (lv_sub hl [0, 1, 2, 3, 4, 6, 8] rfl)
  · replace h := gneg c1 h
    refine lv_aload_n hx hb dL_follows_497 rfl (lv_at hl 0 rfl) ?_
    refine gCKl (rest := []) C0 cal_L_now wl_L_120 wt_L_now ⟨Nat.le_of_ble_eq_true rfl, Nat.le_of_ble_eq_true rfl⟩ ⟨gRcl (by omega), gRsl (by omega)⟩ [.ref (gB Γ + 0)] rfl (Nat.le_of_ble_eq_true rfl) hP hS hl.1 dL_follows_498 h (fun u hu => m_L_now l hst Γ g u hu) (fun u2 H locs h hP hS => ?_) rfl
    refine lv_lload_n hx hb dL_follows_501 rfl (lv_at hl 2 rfl) ?_
    refine W.lcmp hx hb dL_follows_502 ?_
    refine lv_if_ne (tgt := 525) hx hb dL_follows_503 (by decide) (fun c3 => ?_) (fun c3 => ?_)
    · replace h := gneg c3 h
      exact bs_L_follows_525 C0 hst  (N := (N - 226)) (by omega) (by omega) (by omega) h hP hS (lv_sub hl [0, 1, 2, 3, 4, 6, 8] rfl)
    · replace h := gpos c3 h
      refine lv_lload hx hb dL_follows_506 (lv_at hl 7 rfl) ?_
      refine lv_lconst (v := 0) hx hb dL_follows_508 (by decide) ?_
      refine W.lcmp hx hb dL_follows_509 ?_
      refine lv_if_eq (tgt := 521) hx hb dL_follows_510 (by decide) (fun c4 => ?_) (fun c4 => ?_)
      · replace h := gpos c4 h
        exact bs_L_follows_521 C0 hst  (N := (N - 226)) (by omega) (by omega) (by omega) h hP hS (lv_sub hl [0, 1, 2, 3, 4, 6, 8] rfl)
      · replace h := gneg c4 h
        refine lv_lload hx hb dL_follows_513 (lv_at hl 10 rfl) ?_
        refine lv_lload hx hb dL_follows_515 (lv_at hl 9 rfl) ?_
        refine W.lcmp hx hb dL_follows_517 ?_
        refine lv_if_ne (tgt := 525) hx hb dL_follows_518 (by decide) (fun c5 => ?_) (fun c5 => ?_)
        · replace h := gneg c5 h
          exact bs_L_follows_525 C0 hst  (N := (N - 226)) (by omega) (by omega) (by omega) h hP hS (lv_sub hl [0, 1, 2, 3, 4, 6, 8] rfl)
        · replace h := gpos c5 h
          exact bs_L_follows_521 C0 hst  (N := (N - 226)) (by omega) (by omega) (by omega) h hP hS (lv_sub hl [0, 1, 2, 3, 4, 6, 8] rfl)
set_option maxHeartbeats 2000000 in
set_option maxRecDepth 20000 in
theorem bs_L_follows_484 {p : Program} {l : Launch} {e : Env} {s : State} {m : MethodId} {args : Array Value} {below : List Frame} {meth : Method} {c : Code} {Γ : gE} (C0 : gCx p s m args meth c Γ RL cL_follows 32 (some .boolean)) (hst : l.stackTraces = false)   {z : Int32 × gG} {F221 : Int32 → Int64 → Int32 → Int32 → Int32 → Int32 → Int64 → Int64 → Int64 → Int64 → Int64 → Int64 → Int64 → Int64 → Int64 → Int32 → gG → Option (Int32 × gG)} {l1 : Int32} {l2 : Int64} {l4 : Int32} {l5 : Int32} {l8 : Int32} {l9 : Int64} {l11 : Int64} {l13 : Int64} {l15 : Int64} {l17 : Int64} {l19 : Int64} {l21 : Int64} {l23 : Int64} {l25 : Int64} {l27 : Int32} {s0 : Int32} {g : gG} {H : Heap} {locs : List Loc} {ls : Array Slot} {N221 : Nat} (hF221 : ∀ (cells slots : Nat) (l1 : Int32) (l2 : Int64) (l4 : Int32) (l5 : Int32) (l6 : Int32) (l8 : Int32) (l9 : Int64) (l11 : Int64) (l13 : Int64) (l15 : Int64) (l17 : Int64) (l19 : Int64) (l21 : Int64) (l23 : Int64) (l25 : Int64) (l27 : Int32) (g : gG) (H : Heap) (locs : List Loc) (ls : Array Slot), F221 l1 l2 l4 l5 l6 l8 l9 l11 l13 l15 l17 l19 l21 l23 l25 l27 g = some z → va_P (gD Γ) gcls (lay Γ g) H → va_S (gA Γ) s.heap H locs → lv_has ls 32 [(0, .ref (gB Γ + 0)), (1, .int l1), (2, .long l2), (4, .int l4), (5, .int l5), (6, .int l6), (8, .int l8), (9, .long l9), (11, .long l11), (13, .long l13), (15, .long l15), (17, .long l17), (19, .long l19), (21, .long l21), (23, .long l23), (25, .long l25), (27, .int l27)] → cells + N221 ≤ 2114 → slots + 6 * N221 ≤ 12684 → W p l e (gRx 10 190 2114 12684) s m args below meth c H locs cells slots (MQ below (gQi Γ z) args s 2114 12684 (gA Γ)) (F0 m 221 ls [])) {cells slots N : Nat} (hr1 : cells + N ≤ 2114) (hr2 : slots + 6 * N ≤ 12684) (hn_221 : 0 + N221 ≤ N) (h : fs_L_follows_484 F221 l1 l2 l4 l5 l8 l9 l11 l13 l15 l17 l19 l21 l23 l25 l27 s0 g = some z) (hP : va_P (gD Γ) gcls (lay Γ g) H) (hS : va_S (gA Γ) s.heap H locs) (hl : lv_has ls 32 [(0, .ref (gB Γ + 0)), (1, .int l1), (2, .long l2), (4, .int l4), (5, .int l5), (8, .int l8), (9, .long l9), (11, .long l11), (13, .long l13), (15, .long l15), (17, .long l17), (19, .long l19), (21, .long l21), (23, .long l23), (25, .long l25), (27, .int l27)]) : W p l e (gRx 10 190 2114 12684) s m args below meth c H locs cells slots (MQ below (gQi Γ z) args s 2114 12684 (gA Γ)) (F0 m 484 ls [.int s0]) := by
  unfold fs_L_follows_484 at h
  obtain ⟨hx, hb, hml, hr, hown, hts, hK, hlk, hX⟩ := id C0
  refine lv_istore (lv' := [(6, .int s0), (0, .ref (gB Γ + 0)), (1, .int l1), (2, .long l2), (4, .int l4), (5, .int l5), (8, .int l8), (9, .long l9), (11, .long l11), (13, .long l13), (15, .long l15), (17, .long l17), (19, .long l19), (21, .long l21), (23, .long l23), (25, .long l25), (27, .int l27)]) hx hb dL_follows_484 hl (by decide) rfl (fun ls hl => ?_)
  obtain ⟨x1, ex1⟩ : ∃ y : Int32, y = l27 + (1 : Int32) := ⟨_, rfl⟩
  replace h := gLetI ex1 h
  refine lv_iinc (v := x1) (lv' := [(27, .int x1), (6, .int s0), (0, .ref (gB Γ + 0)), (1, .int l1), (2, .long l2), (4, .int l4), (5, .int l5), (8, .int l8), (9, .long l9), (11, .long l11), (13, .long l13), (15, .long l15), (17, .long l17), (19, .long l19), (21, .long l21), (23, .long l23), (25, .long l25)]) hx hb dL_follows_486 hl (k := 16) rfl (by rw [ex1]; rfl) (by decide) rfl (fun ls hl => ?_)
  refine lv_goto (tgt := 221) hx hb dL_follows_489 (by decide) ?_
  exact hF221 _ _ _ _ _ _ _ _ _ _ _ _ _ _ _ _ _ _ _ _ _ _ h hP hS (lv_sub hl [2, 3, 4, 5, 6, 1, 7, 8, 9, 10, 11, 12, 13, 14, 15, 16, 0] rfl) (by omega) (by omega)
set_option maxHeartbeats 2000000 in
set_option maxRecDepth 20000 in
theorem bs_L_follows_483 {p : Program} {l : Launch} {e : Env} {s : State} {m : MethodId} {args : Array Value} {below : List Frame} {meth : Method} {c : Code} {Γ : gE} (C0 : gCx p s m args meth c Γ RL cL_follows 32 (some .boolean)) (hst : l.stackTraces = false)   {z : Int32 × gG} {F221 : Int32 → Int64 → Int32 → Int32 → Int32 → Int32 → Int64 → Int64 → Int64 → Int64 → Int64 → Int64 → Int64 → Int64 → Int64 → Int32 → gG → Option (Int32 × gG)} {l1 : Int32} {l2 : Int64} {l4 : Int32} {l5 : Int32} {l8 : Int32} {l9 : Int64} {l11 : Int64} {l13 : Int64} {l15 : Int64} {l17 : Int64} {l19 : Int64} {l21 : Int64} {l23 : Int64} {l25 : Int64} {l27 : Int32} {g : gG} {H : Heap} {locs : List Loc} {ls : Array Slot} {N221 : Nat} (hF221 : ∀ (cells slots : Nat) (l1 : Int32) (l2 : Int64) (l4 : Int32) (l5 : Int32) (l6 : Int32) (l8 : Int32) (l9 : Int64) (l11 : Int64) (l13 : Int64) (l15 : Int64) (l17 : Int64) (l19 : Int64) (l21 : Int64) (l23 : Int64) (l25 : Int64) (l27 : Int32) (g : gG) (H : Heap) (locs : List Loc) (ls : Array Slot), F221 l1 l2 l4 l5 l6 l8 l9 l11 l13 l15 l17 l19 l21 l23 l25 l27 g = some z → va_P (gD Γ) gcls (lay Γ g) H → va_S (gA Γ) s.heap H locs → lv_has ls 32 [(0, .ref (gB Γ + 0)), (1, .int l1), (2, .long l2), (4, .int l4), (5, .int l5), (6, .int l6), (8, .int l8), (9, .long l9), (11, .long l11), (13, .long l13), (15, .long l15), (17, .long l17), (19, .long l19), (21, .long l21), (23, .long l23), (25, .long l25), (27, .int l27)] → cells + N221 ≤ 2114 → slots + 6 * N221 ≤ 12684 → W p l e (gRx 10 190 2114 12684) s m args below meth c H locs cells slots (MQ below (gQi Γ z) args s 2114 12684 (gA Γ)) (F0 m 221 ls [])) {cells slots N : Nat} (hr1 : cells + N ≤ 2114) (hr2 : slots + 6 * N ≤ 12684) (hn_221 : 0 + N221 ≤ N) (h : fs_L_follows_483 F221 l1 l2 l4 l5 l8 l9 l11 l13 l15 l17 l19 l21 l23 l25 l27 g = some z) (hP : va_P (gD Γ) gcls (lay Γ g) H) (hS : va_S (gA Γ) s.heap H locs) (hl : lv_has ls 32 [(0, .ref (gB Γ + 0)), (1, .int l1), (2, .long l2), (4, .int l4), (5, .int l5), (8, .int l8), (9, .long l9), (11, .long l11), (13, .long l13), (15, .long l15), (17, .long l17), (19, .long l19), (21, .long l21), (23, .long l23), (25, .long l25), (27, .int l27)]) : W p l e (gRx 10 190 2114 12684) s m args below meth c H locs cells slots (MQ below (gQi Γ z) args s 2114 12684 (gA Γ)) (F0 m 483 ls []) := by
  unfold fs_L_follows_483 at h
  obtain ⟨hx, hb, hml, hr, hown, hts, hK, hlk, hX⟩ := id C0
  refine lv_iconst (v := 0) hx hb dL_follows_483 (by decide) ?_
  exact bs_L_follows_484 C0 hst hF221 (N := (N - 0)) (by omega) (by omega) (by omega) h hP hS (lv_sub hl [0, 1, 2, 3, 4, 5, 6, 7, 8, 9, 10, 11, 12, 13, 14, 15] rfl)
set_option maxHeartbeats 2000000 in
set_option maxRecDepth 20000 in
theorem bs_L_follows_470 {p : Program} {l : Launch} {e : Env} {s : State} {m : MethodId} {args : Array Value} {below : List Frame} {meth : Method} {c : Code} {Γ : gE} (C0 : gCx p s m args meth c Γ RL cL_follows 32 (some .boolean)) (hst : l.stackTraces = false)   {z : Int32 × gG} {F221 : Int32 → Int64 → Int32 → Int32 → Int32 → Int32 → Int64 → Int64 → Int64 → Int64 → Int64 → Int64 → Int64 → Int64 → Int64 → Int32 → gG → Option (Int32 × gG)} {l1 : Int32} {l2 : Int64} {l4 : Int32} {l5 : Int32} {l8 : Int32} {l9 : Int64} {l11 : Int64} {l13 : Int64} {l15 : Int64} {l17 : Int64} {l19 : Int64} {l21 : Int64} {l23 : Int64} {l25 : Int64} {l27 : Int32} {g : gG} {H : Heap} {locs : List Loc} {ls : Array Slot} {N221 : Nat} (hF221 : ∀ (cells slots : Nat) (l1 : Int32) (l2 : Int64) (l4 : Int32) (l5 : Int32) (l6 : Int32) (l8 : Int32) (l9 : Int64) (l11 : Int64) (l13 : Int64) (l15 : Int64) (l17 : Int64) (l19 : Int64) (l21 : Int64) (l23 : Int64) (l25 : Int64) (l27 : Int32) (g : gG) (H : Heap) (locs : List Loc) (ls : Array Slot), F221 l1 l2 l4 l5 l6 l8 l9 l11 l13 l15 l17 l19 l21 l23 l25 l27 g = some z → va_P (gD Γ) gcls (lay Γ g) H → va_S (gA Γ) s.heap H locs → lv_has ls 32 [(0, .ref (gB Γ + 0)), (1, .int l1), (2, .long l2), (4, .int l4), (5, .int l5), (6, .int l6), (8, .int l8), (9, .long l9), (11, .long l11), (13, .long l13), (15, .long l15), (17, .long l17), (19, .long l19), (21, .long l21), (23, .long l23), (25, .long l25), (27, .int l27)] → cells + N221 ≤ 2114 → slots + 6 * N221 ≤ 12684 → W p l e (gRx 10 190 2114 12684) s m args below meth c H locs cells slots (MQ below (gQi Γ z) args s 2114 12684 (gA Γ)) (F0 m 221 ls [])) {cells slots N : Nat} (hr1 : cells + N ≤ 2114) (hr2 : slots + 6 * N ≤ 12684) (hn_221 : 1 + N221 ≤ N) (h : fs_L_follows_470 F221 l1 l2 l4 l5 l8 l9 l11 l13 l15 l17 l19 l21 l23 l25 l27 g = some z) (hP : va_P (gD Γ) gcls (lay Γ g) H) (hS : va_S (gA Γ) s.heap H locs) (hl : lv_has ls 32 [(0, .ref (gB Γ + 0)), (1, .int l1), (2, .long l2), (4, .int l4), (5, .int l5), (8, .int l8), (9, .long l9), (11, .long l11), (13, .long l13), (15, .long l15), (17, .long l17), (19, .long l19), (21, .long l21), (23, .long l23), (25, .long l25), (27, .int l27)]) : W p l e (gRx 10 190 2114 12684) s m args below meth c H locs cells slots (MQ below (gQi Γ z) args s 2114 12684 (gA Γ)) (F0 m 470 ls []) := by
  unfold fs_L_follows_470 at h
  obtain ⟨hx, hb, hml, hr, hown, hts, hK, hlk, hX⟩ := id C0
  refine lv_aload_n hx hb dL_follows_470 rfl (lv_at hl 0 rfl) ?_
  refine gCHl (n2 := 1) (rest := []) C0 wcw_L_undo wn_L (by decide +kernel) wl_L_194 wt_L_undo ⟨Nat.le_of_ble_eq_true rfl, Nat.le_of_ble_eq_true rfl⟩ ⟨gRcl (by omega), gRsl (by omega)⟩ [.ref (gB Γ + 0)] rfl (Nat.le_of_ble_eq_true rfl) hP hS hl.1 dL_follows_471 h (fun u hu => m_L_undo l hst Γ g u hu) (fun u1 H locs h hP hS => ?_) rfl
  refine lv_lconst (v := 0) hx hb dL_follows_474 (by decide) ?_
  refine W.lcmp hx hb dL_follows_475 ?_
  refine lv_if_lt (tgt := 483) hx hb dL_follows_476 (by decide) (fun c2 => ?_) (fun c2 => ?_)
  · replace h := gpos c2 h
    exact bs_L_follows_483 C0 hst hF221 (N := (N - 1)) (by omega) (by omega) (by omega) h hP hS (lv_sub hl [0, 1, 2, 3, 4, 5, 6, 7, 8, 9, 10, 11, 12, 13, 14, 15] rfl)
  · replace h := gneg c2 h
    refine lv_iconst (v := 1) hx hb dL_follows_479 (by decide) ?_
    refine lv_goto (tgt := 484) hx hb dL_follows_480 (by decide) ?_
    exact bs_L_follows_484 C0 hst hF221 (N := (N - 1)) (by omega) (by omega) (by omega) h hP hS (lv_sub hl [0, 1, 2, 3, 4, 5, 6, 7, 8, 9, 10, 11, 12, 13, 14, 15] rfl)
set_option maxHeartbeats 2000000 in
set_option maxRecDepth 20000 in
theorem bs_L_follows_445 {p : Program} {l : Launch} {e : Env} {s : State} {m : MethodId} {args : Array Value} {below : List Frame} {meth : Method} {c : Code} {Γ : gE} (C0 : gCx p s m args meth c Γ RL cL_follows 32 (some .boolean)) (hst : l.stackTraces = false)   {z : Int32 × gG} {F221 : Int32 → Int64 → Int32 → Int32 → Int32 → Int32 → Int64 → Int64 → Int64 → Int64 → Int64 → Int64 → Int64 → Int64 → Int64 → Int32 → gG → Option (Int32 × gG)} {l1 : Int32} {l2 : Int64} {l4 : Int32} {l5 : Int32} {l8 : Int32} {l9 : Int64} {l11 : Int64} {l13 : Int64} {l15 : Int64} {l17 : Int64} {l19 : Int64} {l21 : Int64} {l23 : Int64} {l25 : Int64} {l27 : Int32} {l30 : Int64} {g : gG} {H : Heap} {locs : List Loc} {ls : Array Slot} {N221 : Nat} (hF221 : ∀ (cells slots : Nat) (l1 : Int32) (l2 : Int64) (l4 : Int32) (l5 : Int32) (l6 : Int32) (l8 : Int32) (l9 : Int64) (l11 : Int64) (l13 : Int64) (l15 : Int64) (l17 : Int64) (l19 : Int64) (l21 : Int64) (l23 : Int64) (l25 : Int64) (l27 : Int32) (g : gG) (H : Heap) (locs : List Loc) (ls : Array Slot), F221 l1 l2 l4 l5 l6 l8 l9 l11 l13 l15 l17 l19 l21 l23 l25 l27 g = some z → va_P (gD Γ) gcls (lay Γ g) H → va_S (gA Γ) s.heap H locs → lv_has ls 32 [(0, .ref (gB Γ + 0)), (1, .int l1), (2, .long l2), (4, .int l4), (5, .int l5), (6, .int l6), (8, .int l8), (9, .long l9), (11, .long l11), (13, .long l13), (15, .long l15), (17, .long l17), (19, .long l19), (21, .long l21), (23, .long l23), (25, .long l25), (27, .int l27)] → cells + N221 ≤ 2114 → slots + 6 * N221 ≤ 12684 → W p l e (gRx 10 190 2114 12684) s m args below meth c H locs cells slots (MQ below (gQi Γ z) args s 2114 12684 (gA Γ)) (F0 m 221 ls [])) {cells slots N : Nat} (hr1 : cells + N ≤ 2114) (hr2 : slots + 6 * N ≤ 12684) (hn_221 : 3 + N221 ≤ N) (h : fs_L_follows_445 F221 l1 l2 l4 l5 l8 l9 l11 l13 l15 l17 l19 l21 l23 l25 l27 l30 g = some z) (hP : va_P (gD Γ) gcls (lay Γ g) H) (hS : va_S (gA Γ) s.heap H locs) (hl : lv_has ls 32 [(0, .ref (gB Γ + 0)), (1, .int l1), (2, .long l2), (4, .int l4), (5, .int l5), (8, .int l8), (9, .long l9), (11, .long l11), (13, .long l13), (15, .long l15), (17, .long l17), (19, .long l19), (21, .long l21), (23, .long l23), (25, .long l25), (27, .int l27), (30, .long l30)]) : W p l e (gRx 10 190 2114 12684) s m args below meth c H locs cells slots (MQ below (gQi Γ z) args s 2114 12684 (gA Γ)) (F0 m 445 ls []) := by
  unfold fs_L_follows_445 at h
  obtain ⟨hx, hb, hml, hr, hown, hts, hK, hlk, hX⟩ := id C0
  refine lv_iload hx hb dL_follows_445 (lv_at hl 15 rfl) ?_
  refine lv_i2l hx hb dL_follows_447 rfl ?_
  refine lv_lload hx hb dL_follows_448 (lv_at hl 12 rfl) ?_
  refine W.lcmp hx hb dL_follows_450 ?_
  refine lv_if_ge (tgt := 470) hx hb dL_follows_451 (by decide) (fun c1 => ?_) (fun c1 => ?_)
  · replace h := gpos c1 h
    exact bs_L_follows_470 C0 hst hF221 (N := (N - 0)) (by omega) (by omega) (by omega) h hP hS (lv_sub hl [0, 1, 2, 3, 4, 5, 6, 7, 8, 9, 10, 11, 12, 13, 14, 15] rfl)
  · replace h := gneg c1 h
    refine lv_aload_n hx hb dL_follows_454 rfl (lv_at hl 0 rfl) ?_
    refine lv_iload hx hb dL_follows_455 (lv_at hl 5 rfl) ?_
    refine lv_iconst (v := 0) hx hb dL_follows_457 (by decide) ?_
    refine gCHl (n2 := 3) (rest := []) C0 wcw_L_quickest wn_L (by decide +kernel) wl_L_143 wt_L_quickest ⟨Nat.le_of_ble_eq_true rfl, Nat.le_of_ble_eq_true rfl⟩ ⟨gRcl (by omega), gRsl (by omega)⟩ [.ref (gB Γ + 0), .int l8, .int (0 : Int32)] rfl (Nat.le_of_ble_eq_true rfl) hP hS hl.1 dL_follows_458 h (fun u hu => m_L_quickest l hst Γ l8 (0 : Int32) g u hu) (fun u2 H locs h hP hS => ?_) rfl
    refine lv_lload hx hb dL_follows_461 (lv_at hl 10 rfl) ?_
    refine lv_lload hx hb dL_follows_463 (lv_at hl 16 rfl) ?_
    refine lv_lsub hx hb dL_follows_465 ?_
    refine W.lcmp hx hb dL_follows_466 ?_
    refine lv_if_le (tgt := 483) hx hb dL_follows_467 (by decide) (fun c3 => ?_) (fun c3 => ?_)
    · replace h := gpos c3 h
      exact bs_L_follows_483 C0 hst hF221 (N := (N - 2)) (by omega) (by omega) (by omega) h hP hS (lv_sub hl [0, 1, 2, 3, 4, 5, 6, 7, 8, 9, 10, 11, 12, 13, 14, 15] rfl)
    · replace h := gneg c3 h
      exact bs_L_follows_470 C0 hst hF221 (N := (N - 2)) (by omega) (by omega) (by omega) h hP hS (lv_sub hl [0, 1, 2, 3, 4, 5, 6, 7, 8, 9, 10, 11, 12, 13, 14, 15] rfl)
set_option maxHeartbeats 2000000 in
set_option maxRecDepth 20000 in
theorem bs_L_follows_380 {p : Program} {l : Launch} {e : Env} {s : State} {m : MethodId} {args : Array Value} {below : List Frame} {meth : Method} {c : Code} {Γ : gE} (C0 : gCx p s m args meth c Γ RL cL_follows 32 (some .boolean)) (hst : l.stackTraces = false)   {z : Int32 × gG} {F221 : Int32 → Int64 → Int32 → Int32 → Int32 → Int32 → Int64 → Int64 → Int64 → Int64 → Int64 → Int64 → Int64 → Int64 → Int64 → Int32 → gG → Option (Int32 × gG)} {l1 : Int32} {l2 : Int64} {l4 : Int32} {l5 : Int32} {l8 : Int32} {l9 : Int64} {l11 : Int64} {l13 : Int64} {l15 : Int64} {l17 : Int64} {l19 : Int64} {l21 : Int64} {l23 : Int64} {l25 : Int64} {l27 : Int32} {l30 : Int64} {g : gG} {H : Heap} {locs : List Loc} {ls : Array Slot} {N221 : Nat} (hF221 : ∀ (cells slots : Nat) (l1 : Int32) (l2 : Int64) (l4 : Int32) (l5 : Int32) (l6 : Int32) (l8 : Int32) (l9 : Int64) (l11 : Int64) (l13 : Int64) (l15 : Int64) (l17 : Int64) (l19 : Int64) (l21 : Int64) (l23 : Int64) (l25 : Int64) (l27 : Int32) (g : gG) (H : Heap) (locs : List Loc) (ls : Array Slot), F221 l1 l2 l4 l5 l6 l8 l9 l11 l13 l15 l17 l19 l21 l23 l25 l27 g = some z → va_P (gD Γ) gcls (lay Γ g) H → va_S (gA Γ) s.heap H locs → lv_has ls 32 [(0, .ref (gB Γ + 0)), (1, .int l1), (2, .long l2), (4, .int l4), (5, .int l5), (6, .int l6), (8, .int l8), (9, .long l9), (11, .long l11), (13, .long l13), (15, .long l15), (17, .long l17), (19, .long l19), (21, .long l21), (23, .long l23), (25, .long l25), (27, .int l27)] → cells + N221 ≤ 2114 → slots + 6 * N221 ≤ 12684 → W p l e (gRx 10 190 2114 12684) s m args below meth c H locs cells slots (MQ below (gQi Γ z) args s 2114 12684 (gA Γ)) (F0 m 221 ls [])) {cells slots N : Nat} (hr1 : cells + N ≤ 2114) (hr2 : slots + 6 * N ≤ 12684) (hn_221 : 9 + N221 ≤ N) (h : fs_L_follows_380 F221 l1 l2 l4 l5 l8 l9 l11 l13 l15 l17 l19 l21 l23 l25 l27 l30 g = some z) (hP : va_P (gD Γ) gcls (lay Γ g) H) (hS : va_S (gA Γ) s.heap H locs) (hl : lv_has ls 32 [(0, .ref (gB Γ + 0)), (1, .int l1), (2, .long l2), (4, .int l4), (5, .int l5), (8, .int l8), (9, .long l9), (11, .long l11), (13, .long l13), (15, .long l15), (17, .long l17), (19, .long l19), (21, .long l21), (23, .long l23), (25, .long l25), (27, .int l27), (30, .long l30)]) : W p l e (gRx 10 190 2114 12684) s m args below meth c H locs cells slots (MQ below (gQi Γ z) args s 2114 12684 (gA Γ)) (F0 m 380 ls []) := by
  unfold fs_L_follows_380 at h
  obtain ⟨hx, hb, hml, hr, hown, hts, hK, hlk, hX⟩ := id C0
  refine lv_lload hx hb dL_follows_380 (lv_at hl 7 rfl) ?_
  refine lv_iload hx hb dL_follows_382 (lv_at hl 15 rfl) ?_
  refine gCSi (rest := []) C0 cal_L_has wl_L_147 wt_L_has ⟨Nat.le_of_ble_eq_true rfl, Nat.le_of_ble_eq_true rfl⟩ ⟨gRcl (by omega), gRsl (by omega)⟩ [.long l11, .int l27] rfl (Nat.le_of_ble_eq_true rfl) hP hS hl.1 dL_follows_384 h (fun u hu => m_L_has l Γ l11 l27 g u hu) (fun u1 H locs h hP hS => ?_) rfl
  refine lv_if_eq (tgt := 470) hx hb dL_follows_387 (by decide) (fun c2 => ?_) (fun c2 => ?_)
  · replace h := gpos c2 h
    exact bs_L_follows_470 C0 hst hF221 (N := (N - 0)) (by omega) (by omega) (by omega) h hP hS (lv_sub hl [0, 1, 2, 3, 4, 5, 6, 7, 8, 9, 10, 11, 12, 13, 14, 15] rfl)
  · replace h := gneg c2 h
    refine lv_aload_n hx hb dL_follows_390 rfl (lv_at hl 0 rfl) ?_
    refine lv_iload hx hb dL_follows_391 (lv_at hl 5 rfl) ?_
    refine lv_iconst (v := 0) hx hb dL_follows_393 (by decide) ?_
    refine gCHl (n2 := 3) (rest := []) C0 wcw_L_shortest wn_L (by decide +kernel) wl_L_141 wt_L_shortest ⟨Nat.le_of_ble_eq_true rfl, Nat.le_of_ble_eq_true rfl⟩ ⟨gRcl (by omega), gRsl (by omega)⟩ [.ref (gB Γ + 0), .int l8, .int (0 : Int32)] rfl (Nat.le_of_ble_eq_true rfl) hP hS hl.1 dL_follows_394 h (fun u hu => m_L_shortest l hst Γ l8 (0 : Int32) u1.2 u hu) (fun u3 H locs h hP hS => ?_) rfl
    refine lv_lload hx hb dL_follows_397 (lv_at hl 9 rfl) ?_
    refine lv_lconst (v := 1) hx hb dL_follows_399 (by decide) ?_
    refine lv_lsub hx hb dL_follows_400 ?_
    refine W.lcmp hx hb dL_follows_401 ?_
    refine lv_if_lt (tgt := 483) hx hb dL_follows_402 (by decide) (fun c4 => ?_) (fun c4 => ?_)
    · replace h := gpos c4 h
      exact bs_L_follows_483 C0 hst hF221 (N := (N - 2)) (by omega) (by omega) (by omega) h hP hS (lv_sub hl [0, 1, 2, 3, 4, 5, 6, 7, 8, 9, 10, 11, 12, 13, 14, 15] rfl)
    · replace h := gneg c4 h
      refine lv_aload_n hx hb dL_follows_405 rfl (lv_at hl 0 rfl) ?_
      refine lv_iload hx hb dL_follows_406 (lv_at hl 5 rfl) ?_
      refine lv_iconst (v := 0) hx hb dL_follows_408 (by decide) ?_
      refine gCHl (n2 := 3) (rest := []) C0 wcw_L_quickest wn_L (by decide +kernel) wl_L_143 wt_L_quickest ⟨Nat.le_of_ble_eq_true rfl, Nat.le_of_ble_eq_true rfl⟩ ⟨gRcl (by omega), gRsl (by omega)⟩ [.ref (gB Γ + 0), .int l8, .int (0 : Int32)] rfl (Nat.le_of_ble_eq_true rfl) hP hS hl.1 dL_follows_409 h (fun u hu => m_L_quickest l hst Γ l8 (0 : Int32) u3.2 u hu) (fun u5 H locs h hP hS => ?_) rfl
      refine lv_lload hx hb dL_follows_412 (lv_at hl 10 rfl) ?_
      refine lv_lload hx hb dL_follows_414 (lv_at hl 16 rfl) ?_
      refine lv_lsub hx hb dL_follows_416 ?_
      refine W.lcmp hx hb dL_follows_417 ?_
      refine lv_if_lt (tgt := 483) hx hb dL_follows_418 (by decide) (fun c6 => ?_) (fun c6 => ?_)
      · replace h := gpos c6 h
        exact bs_L_follows_483 C0 hst hF221 (N := (N - 4)) (by omega) (by omega) (by omega) h hP hS (lv_sub hl [0, 1, 2, 3, 4, 5, 6, 7, 8, 9, 10, 11, 12, 13, 14, 15] rfl)
      · replace h := gneg c6 h
        refine lv_iload hx hb dL_follows_421 (lv_at hl 15 rfl) ?_
        refine lv_i2l hx hb dL_follows_423 rfl ?_
        refine lv_lload hx hb dL_follows_424 (lv_at hl 11 rfl) ?_
        refine W.lcmp hx hb dL_follows_426 ?_
        refine lv_if_ge (tgt := 445) hx hb dL_follows_427 (by decide) (fun c7 => ?_) (fun c7 => ?_)
        · replace h := gpos c7 h
          exact bs_L_follows_445 C0 hst hF221 (N := (N - 4)) (by omega) (by omega) (by omega) h hP hS (lv_sub hl [0, 1, 2, 3, 4, 5, 6, 7, 8, 9, 10, 11, 12, 13, 14, 15, 16] rfl)
        · replace h := gneg c7 h
          refine lv_aload_n hx hb dL_follows_430 rfl (lv_at hl 0 rfl) ?_
          refine lv_iload hx hb dL_follows_431 (lv_at hl 5 rfl) ?_
          refine lv_iconst (v := 0) hx hb dL_follows_433 (by decide) ?_
          refine gCHl (n2 := 3) (rest := []) C0 wcw_L_shortest wn_L (by decide +kernel) wl_L_141 wt_L_shortest ⟨Nat.le_of_ble_eq_true rfl, Nat.le_of_ble_eq_true rfl⟩ ⟨gRcl (by omega), gRsl (by omega)⟩ [.ref (gB Γ + 0), .int l8, .int (0 : Int32)] rfl (Nat.le_of_ble_eq_true rfl) hP hS hl.1 dL_follows_434 h (fun u hu => m_L_shortest l hst Γ l8 (0 : Int32) u5.2 u hu) (fun u8 H locs h hP hS => ?_) rfl
          refine lv_lload hx hb dL_follows_437 (lv_at hl 9 rfl) ?_
          refine lv_lconst (v := 1) hx hb dL_follows_439 (by decide) ?_
          refine lv_lsub hx hb dL_follows_440 ?_
          refine W.lcmp hx hb dL_follows_441 ?_
          refine lv_if_le (tgt := 483) hx hb dL_follows_442 (by decide) (fun c9 => ?_) (fun c9 => ?_)
          · replace h := gpos c9 h
            exact bs_L_follows_483 C0 hst hF221 (N := (N - 6)) (by omega) (by omega) (by omega) h hP hS (lv_sub hl [0, 1, 2, 3, 4, 5, 6, 7, 8, 9, 10, 11, 12, 13, 14, 15] rfl)
          · replace h := gneg c9 h
            exact bs_L_follows_445 C0 hst hF221 (N := (N - 6)) (by omega) (by omega) (by omega) h hP hS (lv_sub hl [0, 1, 2, 3, 4, 5, 6, 7, 8, 9, 10, 11, 12, 13, 14, 15, 16] rfl)
set_option maxHeartbeats 2000000 in
set_option maxRecDepth 20000 in
theorem bs_L_follows_355 {p : Program} {l : Launch} {e : Env} {s : State} {m : MethodId} {args : Array Value} {below : List Frame} {meth : Method} {c : Code} {Γ : gE} (C0 : gCx p s m args meth c Γ RL cL_follows 32 (some .boolean)) (hst : l.stackTraces = false)   {z : Int32 × gG} {F221 : Int32 → Int64 → Int32 → Int32 → Int32 → Int32 → Int64 → Int64 → Int64 → Int64 → Int64 → Int64 → Int64 → Int64 → Int64 → Int32 → gG → Option (Int32 × gG)} {l1 : Int32} {l2 : Int64} {l4 : Int32} {l5 : Int32} {l8 : Int32} {l9 : Int64} {l11 : Int64} {l13 : Int64} {l15 : Int64} {l17 : Int64} {l19 : Int64} {l21 : Int64} {l23 : Int64} {l25 : Int64} {l27 : Int32} {l30 : Int64} {g : gG} {H : Heap} {locs : List Loc} {ls : Array Slot} {N221 : Nat} (hF221 : ∀ (cells slots : Nat) (l1 : Int32) (l2 : Int64) (l4 : Int32) (l5 : Int32) (l6 : Int32) (l8 : Int32) (l9 : Int64) (l11 : Int64) (l13 : Int64) (l15 : Int64) (l17 : Int64) (l19 : Int64) (l21 : Int64) (l23 : Int64) (l25 : Int64) (l27 : Int32) (g : gG) (H : Heap) (locs : List Loc) (ls : Array Slot), F221 l1 l2 l4 l5 l6 l8 l9 l11 l13 l15 l17 l19 l21 l23 l25 l27 g = some z → va_P (gD Γ) gcls (lay Γ g) H → va_S (gA Γ) s.heap H locs → lv_has ls 32 [(0, .ref (gB Γ + 0)), (1, .int l1), (2, .long l2), (4, .int l4), (5, .int l5), (6, .int l6), (8, .int l8), (9, .long l9), (11, .long l11), (13, .long l13), (15, .long l15), (17, .long l17), (19, .long l19), (21, .long l21), (23, .long l23), (25, .long l25), (27, .int l27)] → cells + N221 ≤ 2114 → slots + 6 * N221 ≤ 12684 → W p l e (gRx 10 190 2114 12684) s m args below meth c H locs cells slots (MQ below (gQi Γ z) args s 2114 12684 (gA Γ)) (F0 m 221 ls [])) {cells slots N : Nat} (hr1 : cells + N ≤ 2114) (hr2 : slots + 6 * N ≤ 12684) (hn_221 : 11 + N221 ≤ N) (h : fs_L_follows_355 F221 l1 l2 l4 l5 l8 l9 l11 l13 l15 l17 l19 l21 l23 l25 l27 l30 g = some z) (hP : va_P (gD Γ) gcls (lay Γ g) H) (hS : va_S (gA Γ) s.heap H locs) (hl : lv_has ls 32 [(0, .ref (gB Γ + 0)), (1, .int l1), (2, .long l2), (4, .int l4), (5, .int l5), (8, .int l8), (9, .long l9), (11, .long l11), (13, .long l13), (15, .long l15), (17, .long l17), (19, .long l19), (21, .long l21), (23, .long l23), (25, .long l25), (27, .int l27), (30, .long l30)]) : W p l e (gRx 10 190 2114 12684) s m args below meth c H locs cells slots (MQ below (gQi Γ z) args s 2114 12684 (gA Γ)) (F0 m 355 ls []) := by
  unfold fs_L_follows_355 at h
  obtain ⟨hx, hb, hml, hr, hown, hts, hK, hlk, hX⟩ := id C0
  refine lv_iload hx hb dL_follows_355 (lv_at hl 15 rfl) ?_
  refine lv_i2l hx hb dL_follows_357 rfl ?_
  refine lv_lload hx hb dL_follows_358 (lv_at hl 12 rfl) ?_
  refine W.lcmp hx hb dL_follows_360 ?_
  refine lv_if_ne (tgt := 380) hx hb dL_follows_361 (by decide) (fun c1 => ?_) (fun c1 => ?_)
  · replace h := gneg c1 h
    exact bs_L_follows_380 C0 hst hF221 (N := (N - 0)) (by omega) (by omega) (by omega) h hP hS (lv_sub hl [0, 1, 2, 3, 4, 5, 6, 7, 8, 9, 10, 11, 12, 13, 14, 15, 16] rfl)
  · replace h := gpos c1 h
    refine lv_aload_n hx hb dL_follows_364 rfl (lv_at hl 0 rfl) ?_
    refine lv_iload hx hb dL_follows_365 (lv_at hl 5 rfl) ?_
    refine lv_iconst (v := 0) hx hb dL_follows_367 (by decide) ?_
    refine gCHl (n2 := 3) (rest := []) C0 wcw_L_quickest wn_L (by decide +kernel) wl_L_143 wt_L_quickest ⟨Nat.le_of_ble_eq_true rfl, Nat.le_of_ble_eq_true rfl⟩ ⟨gRcl (by omega), gRsl (by omega)⟩ [.ref (gB Γ + 0), .int l8, .int (0 : Int32)] rfl (Nat.le_of_ble_eq_true rfl) hP hS hl.1 dL_follows_368 h (fun u hu => m_L_quickest l hst Γ l8 (0 : Int32) g u hu) (fun u2 H locs h hP hS => ?_) rfl
    refine lv_lload hx hb dL_follows_371 (lv_at hl 10 rfl) ?_
    refine lv_lload hx hb dL_follows_373 (lv_at hl 16 rfl) ?_
    refine lv_lsub hx hb dL_follows_375 ?_
    refine W.lcmp hx hb dL_follows_376 ?_
    refine lv_if_ne (tgt := 483) hx hb dL_follows_377 (by decide) (fun c3 => ?_) (fun c3 => ?_)
    · replace h := gneg c3 h
      exact bs_L_follows_483 C0 hst hF221 (N := (N - 2)) (by omega) (by omega) (by omega) h hP hS (lv_sub hl [0, 1, 2, 3, 4, 5, 6, 7, 8, 9, 10, 11, 12, 13, 14, 15] rfl)
    · replace h := gpos c3 h
      exact bs_L_follows_380 C0 hst hF221 (N := (N - 2)) (by omega) (by omega) (by omega) h hP hS (lv_sub hl [0, 1, 2, 3, 4, 5, 6, 7, 8, 9, 10, 11, 12, 13, 14, 15, 16] rfl)
set_option maxHeartbeats 2000000 in
set_option maxRecDepth 20000 in
theorem bs_L_follows_321 {p : Program} {l : Launch} {e : Env} {s : State} {m : MethodId} {args : Array Value} {below : List Frame} {meth : Method} {c : Code} {Γ : gE} (C0 : gCx p s m args meth c Γ RL cL_follows 32 (some .boolean)) (hst : l.stackTraces = false)   {z : Int32 × gG} {F221 : Int32 → Int64 → Int32 → Int32 → Int32 → Int32 → Int64 → Int64 → Int64 → Int64 → Int64 → Int64 → Int64 → Int64 → Int64 → Int32 → gG → Option (Int32 × gG)} {l1 : Int32} {l2 : Int64} {l4 : Int32} {l5 : Int32} {l8 : Int32} {l9 : Int64} {l11 : Int64} {l13 : Int64} {l15 : Int64} {l17 : Int64} {l19 : Int64} {l21 : Int64} {l23 : Int64} {l25 : Int64} {l27 : Int32} {l30 : Int64} {s0 : Int32} {g : gG} {H : Heap} {locs : List Loc} {ls : Array Slot} {N221 : Nat} (hF221 : ∀ (cells slots : Nat) (l1 : Int32) (l2 : Int64) (l4 : Int32) (l5 : Int32) (l6 : Int32) (l8 : Int32) (l9 : Int64) (l11 : Int64) (l13 : Int64) (l15 : Int64) (l17 : Int64) (l19 : Int64) (l21 : Int64) (l23 : Int64) (l25 : Int64) (l27 : Int32) (g : gG) (H : Heap) (locs : List Loc) (ls : Array Slot), F221 l1 l2 l4 l5 l6 l8 l9 l11 l13 l15 l17 l19 l21 l23 l25 l27 g = some z → va_P (gD Γ) gcls (lay Γ g) H → va_S (gA Γ) s.heap H locs → lv_has ls 32 [(0, .ref (gB Γ + 0)), (1, .int l1), (2, .long l2), (4, .int l4), (5, .int l5), (6, .int l6), (8, .int l8), (9, .long l9), (11, .long l11), (13, .long l13), (15, .long l15), (17, .long l17), (19, .long l19), (21, .long l21), (23, .long l23), (25, .long l25), (27, .int l27)] → cells + N221 ≤ 2114 → slots + 6 * N221 ≤ 12684 → W p l e (gRx 10 190 2114 12684) s m args below meth c H locs cells slots (MQ below (gQi Γ z) args s 2114 12684 (gA Γ)) (F0 m 221 ls [])) {cells slots N : Nat} (hr1 : cells + N ≤ 2114) (hr2 : slots + 6 * N ≤ 12684) (hn_221 : 13 + N221 ≤ N) (h : fs_L_follows_321 F221 l1 l2 l4 l5 l8 l9 l11 l13 l15 l17 l19 l21 l23 l25 l27 l30 s0 g = some z) (hP : va_P (gD Γ) gcls (lay Γ g) H) (hS : va_S (gA Γ) s.heap H locs) (hl : lv_has ls 32 [(0, .ref (gB Γ + 0)), (1, .int l1), (2, .long l2), (4, .int l4), (5, .int l5), (8, .int l8), (9, .long l9), (11, .long l11), (13, .long l13), (15, .long l15), (17, .long l17), (19, .long l19), (21, .long l21), (23, .long l23), (25, .long l25), (27, .int l27), (30, .long l30)]) : W p l e (gRx 10 190 2114 12684) s m args below meth c H locs cells slots (MQ below (gQi Γ z) args s 2114 12684 (gA Γ)) (F0 m 321 ls [.int s0]) := by
  unfold fs_L_follows_321 at h
  obtain ⟨hx, hb, hml, hr, hown, hts, hK, hlk, hX⟩ := id C0
  refine lv_lload hx hb dL_follows_321 (lv_at hl 7 rfl) ?_
  refine lv_iload hx hb dL_follows_323 (lv_at hl 15 rfl) ?_
  refine gCSi (rest := [.int s0]) C0 cal_L_has wl_L_147 wt_L_has ⟨Nat.le_of_ble_eq_true rfl, Nat.le_of_ble_eq_true rfl⟩ ⟨gRcl (by omega), gRsl (by omega)⟩ [.long l11, .int l27] rfl (Nat.le_of_ble_eq_true rfl) hP hS hl.1 dL_follows_325 h (fun u hu => m_L_has l Γ l11 l27 g u hu) (fun u1 H locs h hP hS => ?_) rfl
  refine lv_icmp_ne (tgt := 483) hx hb dL_follows_328 (by decide) (fun c2 => ?_) (fun c2 => ?_)
  · replace h := gneg c2 h
    exact bs_L_follows_483 C0 hst hF221 (N := (N - 0)) (by omega) (by omega) (by omega) h hP hS (lv_sub hl [0, 1, 2, 3, 4, 5, 6, 7, 8, 9, 10, 11, 12, 13, 14, 15] rfl)
  · replace h := gpos c2 h
    refine lv_iload hx hb dL_follows_331 (lv_at hl 15 rfl) ?_
    refine lv_i2l hx hb dL_follows_333 rfl ?_
    refine lv_lload hx hb dL_follows_334 (lv_at hl 11 rfl) ?_
    refine W.lcmp hx hb dL_follows_336 ?_
    refine lv_if_ne (tgt := 355) hx hb dL_follows_337 (by decide) (fun c3 => ?_) (fun c3 => ?_)
    · replace h := gneg c3 h
      exact bs_L_follows_355 C0 hst hF221 (N := (N - 0)) (by omega) (by omega) (by omega) h hP hS (lv_sub hl [0, 1, 2, 3, 4, 5, 6, 7, 8, 9, 10, 11, 12, 13, 14, 15, 16] rfl)
    · replace h := gpos c3 h
      refine lv_aload_n hx hb dL_follows_340 rfl (lv_at hl 0 rfl) ?_
      refine lv_iload hx hb dL_follows_341 (lv_at hl 5 rfl) ?_
      refine lv_iconst (v := 0) hx hb dL_follows_343 (by decide) ?_
      refine gCHl (n2 := 3) (rest := []) C0 wcw_L_shortest wn_L (by decide +kernel) wl_L_141 wt_L_shortest ⟨Nat.le_of_ble_eq_true rfl, Nat.le_of_ble_eq_true rfl⟩ ⟨gRcl (by omega), gRsl (by omega)⟩ [.ref (gB Γ + 0), .int l8, .int (0 : Int32)] rfl (Nat.le_of_ble_eq_true rfl) hP hS hl.1 dL_follows_344 h (fun u hu => m_L_shortest l hst Γ l8 (0 : Int32) u1.2 u hu) (fun u4 H locs h hP hS => ?_) rfl
      refine lv_lload hx hb dL_follows_347 (lv_at hl 9 rfl) ?_
      refine lv_lconst (v := 1) hx hb dL_follows_349 (by decide) ?_
      refine lv_lsub hx hb dL_follows_350 ?_
      refine W.lcmp hx hb dL_follows_351 ?_
      refine lv_if_ne (tgt := 483) hx hb dL_follows_352 (by decide) (fun c5 => ?_) (fun c5 => ?_)
      · replace h := gneg c5 h
        exact bs_L_follows_483 C0 hst hF221 (N := (N - 2)) (by omega) (by omega) (by omega) h hP hS (lv_sub hl [0, 1, 2, 3, 4, 5, 6, 7, 8, 9, 10, 11, 12, 13, 14, 15] rfl)
      · replace h := gpos c5 h
        exact bs_L_follows_355 C0 hst hF221 (N := (N - 2)) (by omega) (by omega) (by omega) h hP hS (lv_sub hl [0, 1, 2, 3, 4, 5, 6, 7, 8, 9, 10, 11, 12, 13, 14, 15, 16] rfl)
set_option maxHeartbeats 2000000 in
set_option maxRecDepth 20000 in
theorem bs_L_follows_221 {p : Program} {l : Launch} {e : Env} {s : State} {m : MethodId} {args : Array Value} {below : List Frame} {meth : Method} {c : Code} {Γ : gE} (C0 : gCx p s m args meth c Γ RL cL_follows 32 (some .boolean)) (hst : l.stackTraces = false)   {z : Int32 × gG} {F221 : Int32 → Int64 → Int32 → Int32 → Int32 → Int32 → Int64 → Int64 → Int64 → Int64 → Int64 → Int64 → Int64 → Int64 → Int64 → Int32 → gG → Option (Int32 × gG)} {l1 : Int32} {l2 : Int64} {l4 : Int32} {l5 : Int32} {l6 : Int32} {l8 : Int32} {l9 : Int64} {l11 : Int64} {l13 : Int64} {l15 : Int64} {l17 : Int64} {l19 : Int64} {l21 : Int64} {l23 : Int64} {l25 : Int64} {l27 : Int32} {g : gG} {H : Heap} {locs : List Loc} {ls : Array Slot} {N221 : Nat} (hF221 : ∀ (cells slots : Nat) (l1 : Int32) (l2 : Int64) (l4 : Int32) (l5 : Int32) (l6 : Int32) (l8 : Int32) (l9 : Int64) (l11 : Int64) (l13 : Int64) (l15 : Int64) (l17 : Int64) (l19 : Int64) (l21 : Int64) (l23 : Int64) (l25 : Int64) (l27 : Int32) (g : gG) (H : Heap) (locs : List Loc) (ls : Array Slot), F221 l1 l2 l4 l5 l6 l8 l9 l11 l13 l15 l17 l19 l21 l23 l25 l27 g = some z → va_P (gD Γ) gcls (lay Γ g) H → va_S (gA Γ) s.heap H locs → lv_has ls 32 [(0, .ref (gB Γ + 0)), (1, .int l1), (2, .long l2), (4, .int l4), (5, .int l5), (6, .int l6), (8, .int l8), (9, .long l9), (11, .long l11), (13, .long l13), (15, .long l15), (17, .long l17), (19, .long l19), (21, .long l21), (23, .long l23), (25, .long l25), (27, .int l27)] → cells + N221 ≤ 2114 → slots + 6 * N221 ≤ 12684 → W p l e (gRx 10 190 2114 12684) s m args below meth c H locs cells slots (MQ below (gQi Γ z) args s 2114 12684 (gA Γ)) (F0 m 221 ls [])) {cells slots N : Nat} (hr1 : cells + N ≤ 2114) (hr2 : slots + 6 * N ≤ 12684) (hn_ret : 1152 ≤ N) (hn_221 : 22 + N221 ≤ N) (h : fs_L_follows_221 F221 l1 l2 l4 l5 l6 l8 l9 l11 l13 l15 l17 l19 l21 l23 l25 l27 g = some z) (hP : va_P (gD Γ) gcls (lay Γ g) H) (hS : va_S (gA Γ) s.heap H locs) (hl : lv_has ls 32 [(0, .ref (gB Γ + 0)), (1, .int l1), (2, .long l2), (4, .int l4), (5, .int l5), (6, .int l6), (8, .int l8), (9, .long l9), (11, .long l11), (13, .long l13), (15, .long l15), (17, .long l17), (19, .long l19), (21, .long l21), (23, .long l23), (25, .long l25), (27, .int l27)]) : W p l e (gRx 10 190 2114 12684) s m args below meth c H locs cells slots (MQ below (gQi Γ z) args s 2114 12684 (gA Γ)) (F0 m 221 ls []) := by
  unfold fs_L_follows_221 at h
  obtain ⟨hx, hb, hml, hr, hown, hts, hK, hlk, hX⟩ := id C0
  refine lv_iload hx hb dL_follows_221 (lv_at hl 16 rfl) ?_
  refine lv_iload hx hb dL_follows_223 (lv_at hl 3 rfl) ?_
  refine lv_icmp_ge (tgt := 492) hx hb dL_follows_225 (by decide) (fun c1 => ?_) (fun c1 => ?_)
  · replace h := gpos c1 h
    exact bs_L_follows_492 C0 hst  (N := (N - 0)) (by omega) (by omega) (by omega) h hP hS (lv_sub hl [0, 1, 2, 3, 4, 5, 6, 7, 8, 9, 15] rfl)
  · replace h := gneg c1 h
    refine lv_iload hx hb dL_follows_228 (lv_at hl 5 rfl) ?_
    refine lv_if_eq (tgt := 492) hx hb dL_follows_230 (by decide) (fun c2 => ?_) (fun c2 => ?_)
    · replace h := gpos c2 h
      exact bs_L_follows_492 C0 hst  (N := (N - 0)) (by omega) (by omega) (by omega) h hP hS (lv_sub hl [0, 1, 2, 3, 4, 5, 6, 7, 8, 9, 15] rfl)
    · replace h := gneg c2 h
      refine lv_lload hx hb dL_follows_233 (lv_at hl 7 rfl) ?_
      refine lv_iload hx hb dL_follows_235 (lv_at hl 16 rfl) ?_
      refine gCSi (rest := []) C0 cal_L_has wl_L_147 wt_L_has ⟨Nat.le_of_ble_eq_true rfl, Nat.le_of_ble_eq_true rfl⟩ ⟨gRcl (by omega), gRsl (by omega)⟩ [.long l9, .int l27] rfl (Nat.le_of_ble_eq_true rfl) hP hS hl.1 dL_follows_237 h (fun u hu => m_L_has l Γ l9 l27 g u hu) (fun u3 H locs h hP hS => ?_) rfl
      refine lv_if_eq (tgt := 486) hx hb dL_follows_240 (by decide) (fun c4 => ?_) (fun c4 => ?_)
      · replace h := gpos c4 h
        obtain ⟨x5, ex5⟩ : ∃ y : Int32, y = l27 + (1 : Int32) := ⟨_, rfl⟩
        replace h := gLetI ex5 h
        refine lv_iinc (v := x5) (lv' := [(27, .int x5), (0, .ref (gB Γ + 0)), (1, .int l1), (2, .long l2), (4, .int l4), (5, .int l5), (6, .int l6), (8, .int l8), (9, .long l9), (11, .long l11), (13, .long l13), (15, .long l15), (17, .long l17), (19, .long l19), (21, .long l21), (23, .long l23), (25, .long l25)]) hx hb dL_follows_486 hl (k := 16) rfl (by rw [ex5]; rfl) (by decide) rfl (fun ls hl => ?_)
        refine lv_goto (tgt := 221) hx hb dL_follows_489 (by decide) ?_
        exact hF221 _ _ _ _ _ _ _ _ _ _ _ _ _ _ _ _ _ _ _ _ _ _ h hP hS (lv_sub hl [1, 2, 3, 4, 5, 6, 7, 8, 9, 10, 11, 12, 13, 14, 15, 16, 0] rfl) (by omega) (by omega)
      · replace h := gneg c4 h
        refine lv_aload_n hx hb dL_follows_243 rfl (lv_at hl 0 rfl) ?_
        refine lv_iload hx hb dL_follows_244 (lv_at hl 6 rfl) ?_
        refine lv_iload hx hb dL_follows_246 (lv_at hl 16 rfl) ?_
        refine gCHl (n2 := 3) (rest := []) C0 wcw_L_go wn_L (by decide +kernel) wl_L_128 wt_L_go ⟨Nat.le_of_ble_eq_true rfl, Nat.le_of_ble_eq_true rfl⟩ ⟨gRcl (by omega), gRsl (by omega)⟩ [.ref (gB Γ + 0), .int l8, .int l27] rfl (Nat.le_of_ble_eq_true rfl) hP hS hl.1 dL_follows_248 h (fun u hu => m_L_go l hst Γ l8 l27 u3.2 u hu) (fun u6 H locs h hP hS => ?_) rfl
        refine lv_topl (fun x7 ex7 => ?_)
        replace h := gLetI ex7 h
        refine lv_lstore (lv' := [(28, .long x7), (0, .ref (gB Γ + 0)), (1, .int l1), (2, .long l2), (4, .int l4), (5, .int l5), (6, .int l6), (8, .int l8), (9, .long l9), (11, .long l11), (13, .long l13), (15, .long l15), (17, .long l17), (19, .long l19), (21, .long l21), (23, .long l23), (25, .long l25), (27, .int l27)]) hx hb dL_follows_251 hl (by decide) rfl (fun ls hl => ?_)
        refine lv_lload hx hb dL_follows_253 (lv_at hl 0 rfl) ?_
        refine lv_lload hx hb dL_follows_255 (lv_at hl 15 rfl) ?_
        refine lv_lsub hx hb dL_follows_257 ?_
        refine lv_topl (fun x8 ex8 => ?_)
        replace h := gLetI ex8 h
        refine lv_lstore (lv' := [(30, .long x8), (28, .long x7), (0, .ref (gB Γ + 0)), (1, .int l1), (2, .long l2), (4, .int l4), (5, .int l5), (6, .int l6), (8, .int l8), (9, .long l9), (11, .long l11), (13, .long l13), (15, .long l15), (17, .long l17), (19, .long l19), (21, .long l21), (23, .long l23), (25, .long l25), (27, .int l27)]) hx hb dL_follows_258 hl (by decide) rfl (fun ls hl => ?_)
        refine lv_lload hx hb dL_follows_260 (lv_at hl 17 rfl) ?_
        refine lv_aload_n hx hb dL_follows_262 rfl (lv_at hl 2 rfl) ?_
        refine lv_iload hx hb dL_follows_263 (lv_at hl 8 rfl) ?_
        refine gCHl (n2 := 2) (rest := [.long l25]) C0 wcw_L_orders wn_L (by decide +kernel) wl_L_118 wt_L_orders ⟨Nat.le_of_ble_eq_true rfl, Nat.le_of_ble_eq_true rfl⟩ ⟨gRcl (by omega), gRsl (by omega)⟩ [.ref (gB Γ + 0), .int l8] rfl (Nat.le_of_ble_eq_true rfl) hP hS hl.1 dL_follows_265 h (fun u hu => m_L_orders l hst Γ l8 u6.2 u hu) (fun u9 H locs h hP hS => ?_) rfl
        refine lv_ladd hx hb dL_follows_268 ?_
        refine lv_topl (fun x10 ex10 => ?_)
        replace h := gLetI ex10 h
        refine lv_lstore (lv' := [(25, .long x10), (30, .long x8), (28, .long x7), (0, .ref (gB Γ + 0)), (1, .int l1), (2, .long l2), (4, .int l4), (5, .int l5), (6, .int l6), (8, .int l8), (9, .long l9), (11, .long l11), (13, .long l13), (15, .long l15), (17, .long l17), (19, .long l19), (21, .long l21), (23, .long l23), (27, .int l27)]) hx hb dL_follows_269 hl (by decide) rfl (fun ls hl => ?_)
        refine lv_lload hx hb dL_follows_271 (lv_at hl 1 rfl) ?_
        refine lv_lconst (v := 1) hx hb dL_follows_273 (by decide) ?_
        refine W.lcmp hx hb dL_follows_274 ?_
        refine lv_if_lt (tgt := 483) hx hb dL_follows_275 (by decide) (fun c11 => ?_) (fun c11 => ?_)
        · replace h := gpos c11 h
          exact bs_L_follows_483 C0 hst hF221 (N := (N - 4)) (by omega) (by omega) (by omega) h hP hS (lv_sub hl [3, 4, 5, 6, 7, 9, 10, 11, 12, 13, 14, 15, 16, 17, 0, 18] rfl)
        · replace h := gneg c11 h
          refine lv_aload_n hx hb dL_follows_278 rfl (lv_at hl 3 rfl) ?_
          refine lv_iload hx hb dL_follows_279 (lv_at hl 9 rfl) ?_
          refine lv_iconst (v := 2) hx hb dL_follows_281 (by decide) ?_
          refine gCHl (n2 := 3) (rest := []) C0 wcw_L_team wn_L (by decide +kernel) wl_L_114 wt_L_team ⟨Nat.le_of_ble_eq_true rfl, Nat.le_of_ble_eq_true rfl⟩ ⟨gRcl (by omega), gRsl (by omega)⟩ [.ref (gB Γ + 0), .int l8, .int (2 : Int32)] rfl (Nat.le_of_ble_eq_true rfl) hP hS hl.1 dL_follows_282 h (fun u hu => m_L_team l hst Γ l8 (2 : Int32) u9.2 u hu) (fun u12 H locs h hP hS => ?_) rfl
          refine lv_lload hx hb dL_follows_285 (lv_at hl 2 rfl) ?_
          refine W.lcmp hx hb dL_follows_287 ?_
          refine lv_if_ne (tgt := 483) hx hb dL_follows_288 (by decide) (fun c13 => ?_) (fun c13 => ?_)
          · replace h := gneg c13 h
            exact bs_L_follows_483 C0 hst hF221 (N := (N - 6)) (by omega) (by omega) (by omega) h hP hS (lv_sub hl [3, 4, 5, 6, 7, 9, 10, 11, 12, 13, 14, 15, 16, 17, 0, 18] rfl)
          · replace h := gpos c13 h
            refine lv_aload_n hx hb dL_follows_291 rfl (lv_at hl 3 rfl) ?_
            refine lv_iload hx hb dL_follows_292 (lv_at hl 9 rfl) ?_
            refine lv_iconst (v := 5) hx hb dL_follows_294 (by decide) ?_
            refine gCHl (n2 := 3) (rest := []) C0 wcw_L_team wn_L (by decide +kernel) wl_L_114 wt_L_team ⟨Nat.le_of_ble_eq_true rfl, Nat.le_of_ble_eq_true rfl⟩ ⟨gRcl (by omega), gRsl (by omega)⟩ [.ref (gB Γ + 0), .int l8, .int (5 : Int32)] rfl (Nat.le_of_ble_eq_true rfl) hP hS hl.1 dL_follows_295 h (fun u hu => m_L_team l hst Γ l8 (5 : Int32) u12.2 u hu) (fun u14 H locs h hP hS => ?_) rfl
            refine lv_iload hx hb dL_follows_298 (lv_at hl 18 rfl) ?_
            refine lv_i2l hx hb dL_follows_300 rfl ?_
            refine W.lcmp hx hb dL_follows_301 ?_
            refine lv_if_ne (tgt := 483) hx hb dL_follows_302 (by decide) (fun c15 => ?_) (fun c15 => ?_)
            · replace h := gneg c15 h
              exact bs_L_follows_483 C0 hst hF221 (N := (N - 8)) (by omega) (by omega) (by omega) h hP hS (lv_sub hl [3, 4, 5, 6, 7, 9, 10, 11, 12, 13, 14, 15, 16, 17, 0, 18] rfl)
            · replace h := gpos c15 h
              refine lv_aload_n hx hb dL_follows_305 rfl (lv_at hl 3 rfl) ?_
              refine lv_iload hx hb dL_follows_306 (lv_at hl 9 rfl) ?_
              refine gCHl (n2 := 2) (rest := []) C0 wcw_L_orders wn_L (by decide +kernel) wl_L_118 wt_L_orders ⟨Nat.le_of_ble_eq_true rfl, Nat.le_of_ble_eq_true rfl⟩ ⟨gRcl (by omega), gRsl (by omega)⟩ [.ref (gB Γ + 0), .int l8] rfl (Nat.le_of_ble_eq_true rfl) hP hS hl.1 dL_follows_308 h (fun u hu => m_L_orders l hst Γ l8 u14.2 u hu) (fun u16 H locs h hP hS => ?_) rfl
              refine lv_lconst (v := 0) hx hb dL_follows_311 (by decide) ?_
              refine W.lcmp hx hb dL_follows_312 ?_
              refine lv_if_le (tgt := 320) hx hb dL_follows_313 (by decide) (fun c17 => ?_) (fun c17 => ?_)
              · replace h := gpos c17 h
                refine lv_iconst (v := 0) hx hb dL_follows_320 (by decide) ?_
                exact bs_L_follows_321 C0 hst hF221 (N := (N - 9)) (by omega) (by omega) (by omega) h hP hS (lv_sub hl [3, 4, 5, 6, 7, 9, 10, 11, 12, 13, 14, 15, 16, 17, 0, 18, 1] rfl)
              · replace h := gneg c17 h
                refine lv_iconst (v := 1) hx hb dL_follows_316 (by decide) ?_
                refine lv_goto (tgt := 321) hx hb dL_follows_317 (by decide) ?_
                exact bs_L_follows_321 C0 hst hF221 (N := (N - 9)) (by omega) (by omega) (by omega) h hP hS (lv_sub hl [3, 4, 5, 6, 7, 9, 10, 11, 12, 13, 14, 15, 16, 17, 0, 18, 1] rfl)
set_option maxHeartbeats 2000000 in
set_option maxRecDepth 20000 in
theorem bk_L_follows_221 {p : Program} {l : Launch} {e : Env} {s : State} {m : MethodId} {args : Array Value} {below : List Frame} {meth : Method} {c : Code} {Γ : gE} (C0 : gCx p s m args meth c Γ RL cL_follows 32 (some .boolean)) (hst : l.stackTraces = false)   {z : Int32 × gG}   {T : Nat} (hT_ret : 1152 ≤ T) : ∀ (n cells slots : Nat) (l1 : Int32) (l2 : Int64) (l4 : Int32) (l5 : Int32) (l6 : Int32) (l8 : Int32) (l9 : Int64) (l11 : Int64) (l13 : Int64) (l15 : Int64) (l17 : Int64) (l19 : Int64) (l21 : Int64) (l23 : Int64) (l25 : Int64) (l27 : Int32) (g : gG) (H : Heap) (locs : List Loc) (ls : Array Slot), fb_L_follows_221 n l1 l2 l4 l5 l6 l8 l9 l11 l13 l15 l17 l19 l21 l23 l25 l27 g = some z → va_P (gD Γ) gcls (lay Γ g) H → va_S (gA Γ) s.heap H locs → lv_has ls 32 [(0, .ref (gB Γ + 0)), (1, .int l1), (2, .long l2), (4, .int l4), (5, .int l5), (6, .int l6), (8, .int l8), (9, .long l9), (11, .long l11), (13, .long l13), (15, .long l15), (17, .long l17), (19, .long l19), (21, .long l21), (23, .long l23), (25, .long l25), (27, .int l27)] → cells + (n * 22 + T) ≤ 2114 → slots + 6 * (n * 22 + T) ≤ 12684 → W p l e (gRx 10 190 2114 12684) s m args below meth c H locs cells slots (MQ below (gQi Γ z) args s 2114 12684 (gA Γ)) (F0 m 221 ls []) := by
  intro n
  induction n with
  | zero => intro cells slots l1 l2 l4 l5 l6 l8 l9 l11 l13 l15 l17 l19 l21 l23 l25 l27 g H locs ls h hP hS hl hr1 hr2; cases h
  | succ n ih => intro cells slots l1 l2 l4 l5 l6 l8 l9 l11 l13 l15 l17 l19 l21 l23 l25 l27 g H locs ls h hP hS hl hr1 hr2; exact bs_L_follows_221 C0 hst  (N := (n + 1) * 22 + T) ih hr1 hr2 (by omega) (by omega) h hP hS hl
set_option maxHeartbeats 2000000 in
set_option maxRecDepth 20000 in
theorem bs_L_follows_128 {p : Program} {l : Launch} {e : Env} {s : State} {m : MethodId} {args : Array Value} {below : List Frame} {meth : Method} {c : Code} {Γ : gE} (C0 : gCx p s m args meth c Γ RL cL_follows 32 (some .boolean)) (hst : l.stackTraces = false)   {z : Int32 × gG}  {l1 : Int32} {l2 : Int64} {l4 : Int32} {l5 : Int32} {s0 : Int32} {g : gG} {H : Heap} {locs : List Loc} {ls : Array Slot} {cells slots N : Nat} (hr1 : cells + N ≤ 2114) (hr2 : slots + 6 * N ≤ 12684) (hn_ret : 1429 ≤ N)  (h : fs_L_follows_128 l1 l2 l4 l5 s0 g = some z) (hP : va_P (gD Γ) gcls (lay Γ g) H) (hS : va_S (gA Γ) s.heap H locs) (hl : lv_has ls 32 [(0, .ref (gB Γ + 0)), (1, .int l1), (2, .long l2), (4, .int l4), (5, .int l5)]) : W p l e (gRx 10 190 2114 12684) s m args below meth c H locs cells slots (MQ below (gQi Γ z) args s 2114 12684 (gA Γ)) (F0 m 128 ls [.int s0]) := by
  unfold fs_L_follows_128 at h
  obtain ⟨hx, hb, hml, hr, hown, hts, hK, hlk, hX⟩ := id C0
  refine lv_istore (lv' := [(6, .int s0), (0, .ref (gB Γ + 0)), (1, .int l1), (2, .long l2), (4, .int l4), (5, .int l5)]) hx hb dL_follows_128 hl (by decide) rfl (fun ls hl => ?_)
  refine lv_iload hx hb dL_follows_130 (lv_at hl 5 rfl) ?_
  refine lv_if_le (tgt := 813) hx hb dL_follows_132 (by decide) (fun c1 => ?_) (fun c1 => ?_)
  · replace h := gpos c1 h
    exact bs_L_follows_813 C0 hst  (N := (N - 0)) (by omega) (by omega) (by omega) h hP hS (lv_sub hl [1, 3, 5, 0] rfl)
  · replace h := gneg c1 h
    refine lv_iload hx hb dL_follows_135 (lv_at hl 0 rfl) ?_
    refine lv_if_eq (tgt := 813) hx hb dL_follows_137 (by decide) (fun c2 => ?_) (fun c2 => ?_)
    · replace h := gpos c2 h
      exact bs_L_follows_813 C0 hst  (N := (N - 0)) (by omega) (by omega) (by omega) h hP hS (lv_sub hl [1, 3, 5, 0] rfl)
    · replace h := gneg c2 h
      refine lv_iload_n hx hb dL_follows_140 rfl (lv_at hl 2 rfl) ?_
      refine lv_iload hx hb dL_follows_141 (lv_at hl 5 rfl) ?_
      obtain ⟨c3, h⟩ := gnz h
      refine lv_irem hx hb dL_follows_143 c3 ?_
      refine lv_topi (fun x4 ex4 => ?_)
      replace h := gLetI ex4 h
      refine lv_istore (lv' := [(8, .int x4), (6, .int s0), (0, .ref (gB Γ + 0)), (1, .int l1), (2, .long l2), (4, .int l4), (5, .int l5)]) hx hb dL_follows_144 hl (by decide) rfl (fun ls hl => ?_)
      refine lv_aload_n hx hb dL_follows_146 rfl (lv_at hl 2 rfl) ?_
      refine lv_iload hx hb dL_follows_147 (lv_at hl 0 rfl) ?_
      refine gCHl (n2 := 2) (rest := []) C0 wcw_L_open wn_L (by decide +kernel) wl_L_116 wt_L_open ⟨Nat.le_of_ble_eq_true rfl, Nat.le_of_ble_eq_true rfl⟩ ⟨gRcl (by omega), gRsl (by omega)⟩ [.ref (gB Γ + 0), .int x4] rfl (Nat.le_of_ble_eq_true rfl) hP hS hl.1 dL_follows_149 h (fun u hu => m_L_open l hst Γ x4 g u hu) (fun u5 H locs h hP hS => ?_) rfl
      refine lv_topl (fun x6 ex6 => ?_)
      replace h := gLetI ex6 h
      refine lv_lstore (lv' := [(9, .long x6), (8, .int x4), (6, .int s0), (0, .ref (gB Γ + 0)), (1, .int l1), (2, .long l2), (4, .int l4), (5, .int l5)]) hx hb dL_follows_152 hl (by decide) rfl (fun ls hl => ?_)
      refine lv_aload_n hx hb dL_follows_154 rfl (lv_at hl 3 rfl) ?_
      refine lv_iload hx hb dL_follows_155 (lv_at hl 1 rfl) ?_
      refine gCHl (n2 := 2) (rest := []) C0 wcw_L_safe wn_L (by decide +kernel) wl_L_145 wt_L_safe ⟨Nat.le_of_ble_eq_true rfl, Nat.le_of_ble_eq_true rfl⟩ ⟨gRcl (by omega), gRsl (by omega)⟩ [.ref (gB Γ + 0), .int x4] rfl (Nat.le_of_ble_eq_true rfl) hP hS hl.1 dL_follows_157 h (fun u hu => m_L_safe l hst Γ x4 u5.2 u hu) (fun u7 H locs h hP hS => ?_) rfl
      refine lv_topl (fun x8 ex8 => ?_)
      replace h := gLetI ex8 h
      refine lv_lstore (lv' := [(11, .long x8), (9, .long x6), (8, .int x4), (6, .int s0), (0, .ref (gB Γ + 0)), (1, .int l1), (2, .long l2), (4, .int l4), (5, .int l5)]) hx hb dL_follows_160 hl (by decide) rfl (fun ls hl => ?_)
      refine lv_aload_n hx hb dL_follows_162 rfl (lv_at hl 4 rfl) ?_
      refine lv_iload hx hb dL_follows_163 (lv_at hl 2 rfl) ?_
      refine gCHl (n2 := 2) (rest := []) C0 wcw_L_orders wn_L (by decide +kernel) wl_L_118 wt_L_orders ⟨Nat.le_of_ble_eq_true rfl, Nat.le_of_ble_eq_true rfl⟩ ⟨gRcl (by omega), gRsl (by omega)⟩ [.ref (gB Γ + 0), .int x4] rfl (Nat.le_of_ble_eq_true rfl) hP hS hl.1 dL_follows_165 h (fun u hu => m_L_orders l hst Γ x4 u7.2 u hu) (fun u9 H locs h hP hS => ?_) rfl
      refine lv_topl (fun x10 ex10 => ?_)
      replace h := gLetI ex10 h
      refine lv_lstore (lv' := [(13, .long x10), (11, .long x8), (9, .long x6), (8, .int x4), (6, .int s0), (0, .ref (gB Γ + 0)), (1, .int l1), (2, .long l2), (4, .int l4), (5, .int l5)]) hx hb dL_follows_168 hl (by decide) rfl (fun ls hl => ?_)
      refine lv_aload_n hx hb dL_follows_170 rfl (lv_at hl 5 rfl) ?_
      refine lv_iload hx hb dL_follows_171 (lv_at hl 3 rfl) ?_
      refine lv_iconst (v := 0) hx hb dL_follows_173 (by decide) ?_
      refine gCHl (n2 := 3) (rest := []) C0 wcw_L_shortest wn_L (by decide +kernel) wl_L_141 wt_L_shortest ⟨Nat.le_of_ble_eq_true rfl, Nat.le_of_ble_eq_true rfl⟩ ⟨gRcl (by omega), gRsl (by omega)⟩ [.ref (gB Γ + 0), .int x4, .int (0 : Int32)] rfl (Nat.le_of_ble_eq_true rfl) hP hS hl.1 dL_follows_174 h (fun u hu => m_L_shortest l hst Γ x4 (0 : Int32) u9.2 u hu) (fun u11 H locs h hP hS => ?_) rfl
      refine lv_topl (fun x12 ex12 => ?_)
      replace h := gLetI ex12 h
      refine lv_lstore (lv' := [(15, .long x12), (13, .long x10), (11, .long x8), (9, .long x6), (8, .int x4), (6, .int s0), (0, .ref (gB Γ + 0)), (1, .int l1), (2, .long l2), (4, .int l4), (5, .int l5)]) hx hb dL_follows_177 hl (by decide) rfl (fun ls hl => ?_)
      refine lv_aload_n hx hb dL_follows_179 rfl (lv_at hl 6 rfl) ?_
      refine lv_iload hx hb dL_follows_180 (lv_at hl 4 rfl) ?_
      refine lv_iconst (v := 0) hx hb dL_follows_182 (by decide) ?_
      refine gCHl (n2 := 3) (rest := []) C0 wcw_L_quickest wn_L (by decide +kernel) wl_L_143 wt_L_quickest ⟨Nat.le_of_ble_eq_true rfl, Nat.le_of_ble_eq_true rfl⟩ ⟨gRcl (by omega), gRsl (by omega)⟩ [.ref (gB Γ + 0), .int x4, .int (0 : Int32)] rfl (Nat.le_of_ble_eq_true rfl) hP hS hl.1 dL_follows_183 h (fun u hu => m_L_quickest l hst Γ x4 (0 : Int32) u11.2 u hu) (fun u13 H locs h hP hS => ?_) rfl
      refine lv_topl (fun x14 ex14 => ?_)
      replace h := gLetI ex14 h
      refine lv_lstore (lv' := [(17, .long x14), (15, .long x12), (13, .long x10), (11, .long x8), (9, .long x6), (8, .int x4), (6, .int s0), (0, .ref (gB Γ + 0)), (1, .int l1), (2, .long l2), (4, .int l4), (5, .int l5)]) hx hb dL_follows_186 hl (by decide) rfl (fun ls hl => ?_)
      refine lv_aload_n hx hb dL_follows_188 rfl (lv_at hl 7 rfl) ?_
      refine lv_iload hx hb dL_follows_189 (lv_at hl 5 rfl) ?_
      refine lv_iconst (v := 1) hx hb dL_follows_191 (by decide) ?_
      refine gCHl (n2 := 3) (rest := []) C0 wcw_L_shortest wn_L (by decide +kernel) wl_L_141 wt_L_shortest ⟨Nat.le_of_ble_eq_true rfl, Nat.le_of_ble_eq_true rfl⟩ ⟨gRcl (by omega), gRsl (by omega)⟩ [.ref (gB Γ + 0), .int x4, .int (1 : Int32)] rfl (Nat.le_of_ble_eq_true rfl) hP hS hl.1 dL_follows_192 h (fun u hu => m_L_shortest l hst Γ x4 (1 : Int32) u13.2 u hu) (fun u15 H locs h hP hS => ?_) rfl
      refine lv_topl (fun x16 ex16 => ?_)
      replace h := gLetI ex16 h
      refine lv_lstore (lv' := [(19, .long x16), (17, .long x14), (15, .long x12), (13, .long x10), (11, .long x8), (9, .long x6), (8, .int x4), (6, .int s0), (0, .ref (gB Γ + 0)), (1, .int l1), (2, .long l2), (4, .int l4), (5, .int l5)]) hx hb dL_follows_195 hl (by decide) rfl (fun ls hl => ?_)
      refine lv_aload_n hx hb dL_follows_197 rfl (lv_at hl 8 rfl) ?_
      refine lv_iload hx hb dL_follows_198 (lv_at hl 6 rfl) ?_
      refine lv_iconst (v := 1) hx hb dL_follows_200 (by decide) ?_
      refine gCHl (n2 := 3) (rest := []) C0 wcw_L_quickest wn_L (by decide +kernel) wl_L_143 wt_L_quickest ⟨Nat.le_of_ble_eq_true rfl, Nat.le_of_ble_eq_true rfl⟩ ⟨gRcl (by omega), gRsl (by omega)⟩ [.ref (gB Γ + 0), .int x4, .int (1 : Int32)] rfl (Nat.le_of_ble_eq_true rfl) hP hS hl.1 dL_follows_201 h (fun u hu => m_L_quickest l hst Γ x4 (1 : Int32) u15.2 u hu) (fun u17 H locs h hP hS => ?_) rfl
      refine lv_topl (fun x18 ex18 => ?_)
      replace h := gLetI ex18 h
      refine lv_lstore (lv' := [(21, .long x18), (19, .long x16), (17, .long x14), (15, .long x12), (13, .long x10), (11, .long x8), (9, .long x6), (8, .int x4), (6, .int s0), (0, .ref (gB Γ + 0)), (1, .int l1), (2, .long l2), (4, .int l4), (5, .int l5)]) hx hb dL_follows_204 hl (by decide) rfl (fun ls hl => ?_)
      refine lv_aload_n hx hb dL_follows_206 rfl (lv_at hl 9 rfl) ?_
      refine lv_iload hx hb dL_follows_207 (lv_at hl 7 rfl) ?_
      refine lv_iconst (v := 2) hx hb dL_follows_209 (by decide) ?_
      refine gCHl (n2 := 3) (rest := []) C0 wcw_L_team wn_L (by decide +kernel) wl_L_114 wt_L_team ⟨Nat.le_of_ble_eq_true rfl, Nat.le_of_ble_eq_true rfl⟩ ⟨gRcl (by omega), gRsl (by omega)⟩ [.ref (gB Γ + 0), .int x4, .int (2 : Int32)] rfl (Nat.le_of_ble_eq_true rfl) hP hS hl.1 dL_follows_210 h (fun u hu => m_L_team l hst Γ x4 (2 : Int32) u17.2 u hu) (fun u19 H locs h hP hS => ?_) rfl
      refine lv_topl (fun x20 ex20 => ?_)
      replace h := gLetI ex20 h
      refine lv_lstore (lv' := [(23, .long x20), (21, .long x18), (19, .long x16), (17, .long x14), (15, .long x12), (13, .long x10), (11, .long x8), (9, .long x6), (8, .int x4), (6, .int s0), (0, .ref (gB Γ + 0)), (1, .int l1), (2, .long l2), (4, .int l4), (5, .int l5)]) hx hb dL_follows_213 hl (by decide) rfl (fun ls hl => ?_)
      refine lv_lconst (v := 0) hx hb dL_follows_215 (by decide) ?_
      refine lv_lstore (lv' := [(25, .long (0 : Int64)), (23, .long x20), (21, .long x18), (19, .long x16), (17, .long x14), (15, .long x12), (13, .long x10), (11, .long x8), (9, .long x6), (8, .int x4), (6, .int s0), (0, .ref (gB Γ + 0)), (1, .int l1), (2, .long l2), (4, .int l4), (5, .int l5)]) hx hb dL_follows_216 hl (by decide) rfl (fun ls hl => ?_)
      refine lv_iconst (v := 0) hx hb dL_follows_218 (by decide) ?_
      refine lv_istore (lv' := [(27, .int (0 : Int32)), (25, .long (0 : Int64)), (23, .long x20), (21, .long x18), (19, .long x16), (17, .long x14), (15, .long x12), (13, .long x10), (11, .long x8), (9, .long x6), (8, .int x4), (6, .int s0), (0, .ref (gB Γ + 0)), (1, .int l1), (2, .long l2), (4, .int l4), (5, .int l5)]) hx hb dL_follows_219 hl (by decide) rfl (fun ls hl => ?_)
      exact bk_L_follows_221 C0 hst  (T := (N - 13) - 264) (by omega) gFuelL _ _ _ _ _ _ _ _ _ _ _ _ _ _ _ _ _ _ _ _ _ _ h hP hS (lv_sub hl [12, 13, 14, 15, 16, 11, 10, 9, 8, 7, 6, 5, 4, 3, 2, 1, 0] rfl) (by unfold gFuelL; omega) (by unfold gFuelL; omega)
set_option maxHeartbeats 2000000 in
set_option maxRecDepth 20000 in
theorem bs_L_follows_127 {p : Program} {l : Launch} {e : Env} {s : State} {m : MethodId} {args : Array Value} {below : List Frame} {meth : Method} {c : Code} {Γ : gE} (C0 : gCx p s m args meth c Γ RL cL_follows 32 (some .boolean)) (hst : l.stackTraces = false)   {z : Int32 × gG}  {l1 : Int32} {l2 : Int64} {l4 : Int32} {l5 : Int32} {g : gG} {H : Heap} {locs : List Loc} {ls : Array Slot} {cells slots N : Nat} (hr1 : cells + N ≤ 2114) (hr2 : slots + 6 * N ≤ 12684) (hn_ret : 1429 ≤ N)  (h : fs_L_follows_127 l1 l2 l4 l5 g = some z) (hP : va_P (gD Γ) gcls (lay Γ g) H) (hS : va_S (gA Γ) s.heap H locs) (hl : lv_has ls 32 [(0, .ref (gB Γ + 0)), (1, .int l1), (2, .long l2), (4, .int l4), (5, .int l5)]) : W p l e (gRx 10 190 2114 12684) s m args below meth c H locs cells slots (MQ below (gQi Γ z) args s 2114 12684 (gA Γ)) (F0 m 127 ls []) := by
  unfold fs_L_follows_127 at h
  obtain ⟨hx, hb, hml, hr, hown, hts, hK, hlk, hX⟩ := id C0
  refine lv_iconst (v := 0) hx hb dL_follows_127 (by decide) ?_
  exact bs_L_follows_128 C0 hst  (N := (N - 0)) (by omega) (by omega) (by omega) h hP hS (lv_sub hl [0, 1, 2, 3, 4] rfl)
set_option maxHeartbeats 2000000 in
set_option maxRecDepth 20000 in
theorem bs_L_follows_123 {p : Program} {l : Launch} {e : Env} {s : State} {m : MethodId} {args : Array Value} {below : List Frame} {meth : Method} {c : Code} {Γ : gE} (C0 : gCx p s m args meth c Γ RL cL_follows 32 (some .boolean)) (hst : l.stackTraces = false)   {z : Int32 × gG}  {l1 : Int32} {l2 : Int64} {l4 : Int32} {l5 : Int32} {g : gG} {H : Heap} {locs : List Loc} {ls : Array Slot} {cells slots N : Nat} (hr1 : cells + N ≤ 2114) (hr2 : slots + 6 * N ≤ 12684) (hn_ret : 1429 ≤ N)  (h : fs_L_follows_123 l1 l2 l4 l5 g = some z) (hP : va_P (gD Γ) gcls (lay Γ g) H) (hS : va_S (gA Γ) s.heap H locs) (hl : lv_has ls 32 [(0, .ref (gB Γ + 0)), (1, .int l1), (2, .long l2), (4, .int l4), (5, .int l5)]) : W p l e (gRx 10 190 2114 12684) s m args below meth c H locs cells slots (MQ below (gQi Γ z) args s 2114 12684 (gA Γ)) (F0 m 123 ls []) := by
  unfold fs_L_follows_123 at h
  obtain ⟨hx, hb, hml, hr, hown, hts, hK, hlk, hX⟩ := id C0
  refine lv_iconst (v := 1) hx hb dL_follows_123 (by decide) ?_
  refine lv_goto (tgt := 128) hx hb dL_follows_124 (by decide) ?_
  exact bs_L_follows_128 C0 hst  (N := (N - 0)) (by omega) (by omega) (by omega) h hP hS (lv_sub hl [0, 1, 2, 3, 4] rfl)
set_option maxHeartbeats 2000000 in
set_option maxRecDepth 20000 in
theorem bs_L_follows_67 {p : Program} {l : Launch} {e : Env} {s : State} {m : MethodId} {args : Array Value} {below : List Frame} {meth : Method} {c : Code} {Γ : gE} (C0 : gCx p s m args meth c Γ RL cL_follows 32 (some .boolean)) (hst : l.stackTraces = false)   {z : Int32 × gG}  {l1 : Int32} {l2 : Int64} {l4 : Int32} {l5 : Int32} {s0 : Int32} {g : gG} {H : Heap} {locs : List Loc} {ls : Array Slot} {cells slots N : Nat} (hr1 : cells + N ≤ 2114) (hr2 : slots + 6 * N ≤ 12684) (hn_ret : 1657 ≤ N)  (h : fs_L_follows_67 l1 l2 l4 l5 s0 g = some z) (hP : va_P (gD Γ) gcls (lay Γ g) H) (hS : va_S (gA Γ) s.heap H locs) (hl : lv_has ls 32 [(0, .ref (gB Γ + 0)), (1, .int l1), (2, .long l2), (4, .int l4), (5, .int l5)]) : W p l e (gRx 10 190 2114 12684) s m args below meth c H locs cells slots (MQ below (gQi Γ z) args s 2114 12684 (gA Γ)) (F0 m 67 ls [.int s0]) := by
  unfold fs_L_follows_67 at h
  obtain ⟨hx, hb, hml, hr, hown, hts, hK, hlk, hX⟩ := id C0
  refine lv_istore (lv' := [(6, .int s0), (0, .ref (gB Γ + 0)), (1, .int l1), (2, .long l2), (4, .int l4), (5, .int l5)]) hx hb dL_follows_67 hl (by decide) rfl (fun ls hl => ?_)
  refine lv_aload_n hx hb dL_follows_69 rfl (lv_at hl 1 rfl) ?_
  refine gCVi (rest := []) C0 cal_X9_easeBy wl_L_188 wi_X9_easeBy ws_X9_easeBy ⟨Nat.le_of_ble_eq_true rfl, Nat.le_of_ble_eq_true rfl⟩ ⟨gRcl (by omega), gRsl (by omega)⟩ grv_9 [] rfl (Nat.le_of_ble_eq_true rfl) hP hS hl.1 dL_follows_70 h (fun u hu => m_X9_easeBy l Γ g u hu) (fun u1 H locs h hP hS => ?_) rfl
  refine lv_topi (fun x2 ex2 => ?_)
  replace h := gLetI ex2 h
  refine lv_istore (lv' := [(7, .int x2), (6, .int s0), (0, .ref (gB Γ + 0)), (1, .int l1), (2, .long l2), (4, .int l4), (5, .int l5)]) hx hb dL_follows_73 hl (by decide) rfl (fun ls hl => ?_)
  refine lv_iload hx hb dL_follows_75 (lv_at hl 1 rfl) ?_
  refine lv_if_eq (tgt := 127) hx hb dL_follows_77 (by decide) (fun c3 => ?_) (fun c3 => ?_)
  · replace h := gpos c3 h
    exact bs_L_follows_127 C0 hst  (N := (N - 0)) (by omega) (by omega) (by omega) h hP hS (lv_sub hl [2, 3, 4, 5, 6] rfl)
  · replace h := gneg c3 h
    refine lv_iload hx hb dL_follows_80 (lv_at hl 0 rfl) ?_
    refine lv_bipush (v := -9) hx hb dL_follows_82 (by decide) ?_
    refine lv_icmp_eq (tgt := 123) hx hb dL_follows_84 (by decide) (fun c4 => ?_) (fun c4 => ?_)
    · replace h := gpos c4 h
      exact bs_L_follows_123 C0 hst  (N := (N - 0)) (by omega) (by omega) (by omega) h hP hS (lv_sub hl [2, 3, 4, 5, 6] rfl)
    · replace h := gneg c4 h
      refine lv_aload_n hx hb dL_follows_87 rfl (lv_at hl 2 rfl) ?_
      refine lv_iload hx hb dL_follows_88 (lv_at hl 0 rfl) ?_
      refine gCHl (n2 := 2) (rest := []) C0 wcw_L_ease wn_L (by decide +kernel) wl_L_137 wt_L_ease ⟨Nat.le_of_ble_eq_true rfl, Nat.le_of_ble_eq_true rfl⟩ ⟨gRcl (by omega), gRsl (by omega)⟩ [.ref (gB Γ + 0), .int x2] rfl (Nat.le_of_ble_eq_true rfl) hP hS hl.1 dL_follows_90 h (fun u hu => m_L_ease l hst Γ x2 u1.2 u hu) (fun u5 H locs h hP hS => ?_) rfl
      refine lv_lconst (v := 0) hx hb dL_follows_93 (by decide) ?_
      refine W.lcmp hx hb dL_follows_94 ?_
      refine lv_if_lt (tgt := 127) hx hb dL_follows_95 (by decide) (fun c6 => ?_) (fun c6 => ?_)
      · replace h := gpos c6 h
        exact bs_L_follows_127 C0 hst  (N := (N - 1)) (by omega) (by omega) (by omega) h hP hS (lv_sub hl [2, 3, 4, 5, 6] rfl)
      · replace h := gneg c6 h
        refine lv_aload_n hx hb dL_follows_98 rfl (lv_at hl 2 rfl) ?_
        refine gCVi (rest := []) C0 cal_X9_deadEnds wl_L_191 wi_X9_deadEnds ws_X9_deadEnds ⟨Nat.le_of_ble_eq_true rfl, Nat.le_of_ble_eq_true rfl⟩ ⟨gRcl (by omega), gRsl (by omega)⟩ grv_9 [] rfl (Nat.le_of_ble_eq_true rfl) hP hS hl.1 dL_follows_99 h (fun u hu => m_X9_deadEnds l Γ u5.2 u hu) (fun u7 H locs h hP hS => ?_) rfl
        refine lv_if_ne (tgt := 127) hx hb dL_follows_102 (by decide) (fun c8 => ?_) (fun c8 => ?_)
        · replace h := gneg c8 h
          exact bs_L_follows_127 C0 hst  (N := (N - 1)) (by omega) (by omega) (by omega) h hP hS (lv_sub hl [2, 3, 4, 5, 6] rfl)
        · replace h := gpos c8 h
          refine lv_aload_n hx hb dL_follows_105 rfl (lv_at hl 2 rfl) ?_
          refine gCHl (n2 := 1) (rest := []) C0 wcw_L_undo wn_L (by decide +kernel) wl_L_194 wt_L_undo ⟨Nat.le_of_ble_eq_true rfl, Nat.le_of_ble_eq_true rfl⟩ ⟨gRcl (by omega), gRsl (by omega)⟩ [.ref (gB Γ + 0)] rfl (Nat.le_of_ble_eq_true rfl) hP hS hl.1 dL_follows_106 h (fun u hu => m_L_undo l hst Γ u7.2 u hu) (fun u9 H locs h hP hS => ?_) rfl
          refine lv_lconst (v := 0) hx hb dL_follows_109 (by decide) ?_
          refine W.lcmp hx hb dL_follows_110 ?_
          refine lv_if_lt (tgt := 127) hx hb dL_follows_111 (by decide) (fun c10 => ?_) (fun c10 => ?_)
          · replace h := gpos c10 h
            exact bs_L_follows_127 C0 hst  (N := (N - 2)) (by omega) (by omega) (by omega) h hP hS (lv_sub hl [2, 3, 4, 5, 6] rfl)
          · replace h := gneg c10 h
            refine lv_aload_n hx hb dL_follows_114 rfl (lv_at hl 2 rfl) ?_
            refine gCKl (rest := []) C0 cal_L_now wl_L_120 wt_L_now ⟨Nat.le_of_ble_eq_true rfl, Nat.le_of_ble_eq_true rfl⟩ ⟨gRcl (by omega), gRsl (by omega)⟩ [.ref (gB Γ + 0)] rfl (Nat.le_of_ble_eq_true rfl) hP hS hl.1 dL_follows_115 h (fun u hu => m_L_now l hst Γ u9.2 u hu) (fun u11 H locs h hP hS => ?_) rfl
            refine lv_lload_n hx hb dL_follows_118 rfl (lv_at hl 4 rfl) ?_
            refine W.lcmp hx hb dL_follows_119 ?_
            refine lv_if_ne (tgt := 127) hx hb dL_follows_120 (by decide) (fun c12 => ?_) (fun c12 => ?_)
            · replace h := gneg c12 h
              exact bs_L_follows_127 C0 hst  (N := (N - 228)) (by omega) (by omega) (by omega) h hP hS (lv_sub hl [2, 3, 4, 5, 6] rfl)
            · replace h := gpos c12 h
              exact bs_L_follows_123 C0 hst  (N := (N - 228)) (by omega) (by omega) (by omega) h hP hS (lv_sub hl [2, 3, 4, 5, 6] rfl)
set_option maxHeartbeats 2000000 in
set_option maxRecDepth 20000 in
theorem bs_L_follows_66 {p : Program} {l : Launch} {e : Env} {s : State} {m : MethodId} {args : Array Value} {below : List Frame} {meth : Method} {c : Code} {Γ : gE} (C0 : gCx p s m args meth c Γ RL cL_follows 32 (some .boolean)) (hst : l.stackTraces = false)   {z : Int32 × gG}  {l1 : Int32} {l2 : Int64} {l4 : Int32} {l5 : Int32} {g : gG} {H : Heap} {locs : List Loc} {ls : Array Slot} {cells slots N : Nat} (hr1 : cells + N ≤ 2114) (hr2 : slots + 6 * N ≤ 12684) (hn_ret : 1657 ≤ N)  (h : fs_L_follows_66 l1 l2 l4 l5 g = some z) (hP : va_P (gD Γ) gcls (lay Γ g) H) (hS : va_S (gA Γ) s.heap H locs) (hl : lv_has ls 32 [(0, .ref (gB Γ + 0)), (1, .int l1), (2, .long l2), (4, .int l4), (5, .int l5)]) : W p l e (gRx 10 190 2114 12684) s m args below meth c H locs cells slots (MQ below (gQi Γ z) args s 2114 12684 (gA Γ)) (F0 m 66 ls []) := by
  unfold fs_L_follows_66 at h
  obtain ⟨hx, hb, hml, hr, hown, hts, hK, hlk, hX⟩ := id C0
  refine lv_iconst (v := 0) hx hb dL_follows_66 (by decide) ?_
  exact bs_L_follows_67 C0 hst  (N := (N - 0)) (by omega) (by omega) (by omega) h hP hS (lv_sub hl [0, 1, 2, 3, 4] rfl)
set_option maxHeartbeats 2000000 in
set_option maxRecDepth 20000 in
theorem m_L_follows (l : Launch) (hst : l.stackTraces = false) (Γ : gE)   (a1 : Int32) (g : gG) (z : Int32 × gG) (h : f_L_follows a1 g = some z) : gCi l yL_follows cL_follows 32 (some .boolean) 10 190 2114 12684 Γ [.ref (gB Γ + 0), .int a1] g z := by
  unfold f_L_follows at h
  refine gStartC (own := RL) (by decide +kernel) rfl (Nat.le_of_ble_eq_true rfl) ?_
  intro p e s m below meth c C0 ls hl hP
  have hS : va_S (gA Γ) s.heap s.heap [] := va_S.rf
  have hl : lv_has ls 32 [(0, .ref (gB Γ + 0)), (1, .int a1)] := hl
  obtain ⟨hx, hb, hml, hr, hown, hts, hK, hlk, hX⟩ := id C0
  refine lv_aload_n hx hb dL_follows_0 rfl (lv_at hl 0 rfl) ?_
  refine gCKl (rest := []) C0 cal_L_now wl_L_120 wt_L_now ⟨Nat.le_of_ble_eq_true rfl, Nat.le_of_ble_eq_true rfl⟩ ⟨gRcl (by omega), gRsl (by omega)⟩ [.ref (gB Γ + 0)] rfl (Nat.le_of_ble_eq_true rfl) hP hS hl.1 dL_follows_1 h (fun u hu => m_L_now l hst Γ g u hu) (fun u1 H locs h hP hS => ?_) rfl
  refine lv_topl (fun x2 ex2 => ?_)
  replace h := gLetI ex2 h
  refine lv_lstore_n (lv' := [(2, .long x2), (0, .ref (gB Γ + 0)), (1, .int a1)]) hx hb dL_follows_4 rfl hl (by decide) rfl (fun ls hl => ?_)
  refine lv_aload_n hx hb dL_follows_5 rfl (lv_at hl 1 rfl) ?_
  refine lv_iconst (v := 0) hx hb dL_follows_6 (by decide) ?_
  refine gCHl (n2 := 2) (rest := []) C0 wcw_L_about wn_L (by decide +kernel) wl_L_106 wt_L_about ⟨Nat.le_of_ble_eq_true rfl, Nat.le_of_ble_eq_true rfl⟩ ⟨gRcl (by omega), gRsl (by omega)⟩ [.ref (gB Γ + 0), .int (0 : Int32)] rfl (Nat.le_of_ble_eq_true rfl) hP hS hl.1 dL_follows_7 h (fun u hu => m_L_about l hst Γ (0 : Int32) u1.2 u hu) (fun u3 H locs h hP hS => ?_) rfl
  refine lv_l2i hx hb dL_follows_10 rfl ?_
  refine lv_topi (fun x4 ex4 => ?_)
  replace h := gLetI ex4 h
  refine lv_istore (lv' := [(4, .int x4), (2, .long x2), (0, .ref (gB Γ + 0)), (1, .int a1)]) hx hb dL_follows_11 hl (by decide) rfl (fun ls hl => ?_)
  refine lv_aload_n hx hb dL_follows_13 rfl (lv_at hl 2 rfl) ?_
  refine lv_iconst (v := 1) hx hb dL_follows_14 (by decide) ?_
  refine gCHl (n2 := 2) (rest := []) C0 wcw_L_about wn_L (by decide +kernel) wl_L_106 wt_L_about ⟨Nat.le_of_ble_eq_true rfl, Nat.le_of_ble_eq_true rfl⟩ ⟨gRcl (by omega), gRsl (by omega)⟩ [.ref (gB Γ + 0), .int (1 : Int32)] rfl (Nat.le_of_ble_eq_true rfl) hP hS hl.1 dL_follows_15 h (fun u hu => m_L_about l hst Γ (1 : Int32) u3.2 u hu) (fun u5 H locs h hP hS => ?_) rfl
  refine lv_l2i hx hb dL_follows_18 rfl ?_
  refine lv_topi (fun x6 ex6 => ?_)
  replace h := gLetI ex6 h
  refine lv_istore (lv' := [(5, .int x6), (4, .int x4), (2, .long x2), (0, .ref (gB Γ + 0)), (1, .int a1)]) hx hb dL_follows_19 hl (by decide) rfl (fun ls hl => ?_)
  refine lv_aload_n hx hb dL_follows_21 rfl (lv_at hl 3 rfl) ?_
  refine lv_iconst (v := 1) hx hb dL_follows_22 (by decide) ?_
  refine gCHl (n2 := 2) (rest := []) C0 wcw_L_save wn_L (by decide +kernel) wl_L_162 wt_L_save ⟨Nat.le_of_ble_eq_true rfl, Nat.le_of_ble_eq_true rfl⟩ ⟨gRcl (by omega), gRsl (by omega)⟩ [.ref (gB Γ + 0), .int (1 : Int32)] rfl (Nat.le_of_ble_eq_true rfl) hP hS hl.1 dL_follows_23 h (fun u hu => m_L_save l hst Γ (1 : Int32) u5.2 u hu) (fun u7 H locs h hP hS => ?_) rfl
  refine lv_iload hx hb dL_follows_26 (lv_at hl 0 rfl) ?_
  refine lv_i2l hx hb dL_follows_28 rfl ?_
  refine W.lcmp hx hb dL_follows_29 ?_
  refine lv_if_ne (tgt := 66) hx hb dL_follows_30 (by decide) (fun c8 => ?_) (fun c8 => ?_)
  · replace h := gneg c8 h
    exact bs_L_follows_66 C0 hst  (N := (2114 - 229)) (by omega) (by omega) (by omega) h hP hS (lv_sub hl [3, 4, 2, 1, 0] rfl)
  · replace h := gpos c8 h
    refine lv_aload_n hx hb dL_follows_33 rfl (lv_at hl 3 rfl) ?_
    refine lv_iload_n hx hb dL_follows_34 rfl (lv_at hl 4 rfl) ?_
    refine lv_i2l hx hb dL_follows_35 rfl ?_
    refine lv_bipush (v := 9) hx hb dL_follows_36 (by decide) ?_
    refine gCHl (n2 := 3) (rest := []) C0 wcw_L_simulate wn_L (by decide +kernel) wl_L_159 wt_L_simulate ⟨Nat.le_of_ble_eq_true rfl, Nat.le_of_ble_eq_true rfl⟩ ⟨gRcl (by omega), gRsl (by omega)⟩ [.ref (gB Γ + 0), .long a1.toInt64, .int (9 : Int32)] rfl (Nat.le_of_ble_eq_true rfl) hP hS hl.1 dL_follows_38 h (fun u hu => m_L_simulate l hst Γ a1.toInt64 (9 : Int32) u7.2 u hu) (fun u9 H locs h hP hS => ?_) rfl
    refine lv_aload_n hx hb dL_follows_41 rfl (lv_at hl 3 rfl) ?_
    refine lv_iload_n hx hb dL_follows_42 rfl (lv_at hl 4 rfl) ?_
    refine lv_i2l hx hb dL_follows_43 rfl ?_
    refine lv_bipush (v := 9) hx hb dL_follows_44 (by decide) ?_
    refine gCHl (n2 := 3) (rest := [.long u9.1]) C0 wcw_L_simulate wn_L (by decide +kernel) wl_L_159 wt_L_simulate ⟨Nat.le_of_ble_eq_true rfl, Nat.le_of_ble_eq_true rfl⟩ ⟨gRcl (by omega), gRsl (by omega)⟩ [.ref (gB Γ + 0), .long a1.toInt64, .int (9 : Int32)] rfl (Nat.le_of_ble_eq_true rfl) hP hS hl.1 dL_follows_46 h (fun u hu => m_L_simulate l hst Γ a1.toInt64 (9 : Int32) u9.2 u hu) (fun u10 H locs h hP hS => ?_) rfl
    refine W.lcmp hx hb dL_follows_49 ?_
    refine lv_if_ne (tgt := 66) hx hb dL_follows_50 (by decide) (fun c11 => ?_) (fun c11 => ?_)
    · replace h := gneg c11 h
      exact bs_L_follows_66 C0 hst  (N := (2114 - 231)) (by omega) (by omega) (by omega) h hP hS (lv_sub hl [3, 4, 2, 1, 0] rfl)
    · replace h := gpos c11 h
      refine lv_aload_n hx hb dL_follows_53 rfl (lv_at hl 3 rfl) ?_
      refine gCKl (rest := []) C0 cal_L_now wl_L_120 wt_L_now ⟨Nat.le_of_ble_eq_true rfl, Nat.le_of_ble_eq_true rfl⟩ ⟨gRcl (by omega), gRsl (by omega)⟩ [.ref (gB Γ + 0)] rfl (Nat.le_of_ble_eq_true rfl) hP hS hl.1 dL_follows_54 h (fun u hu => m_L_now l hst Γ u10.2 u hu) (fun u12 H locs h hP hS => ?_) rfl
      refine lv_lload_n hx hb dL_follows_57 rfl (lv_at hl 2 rfl) ?_
      refine W.lcmp hx hb dL_follows_58 ?_
      refine lv_if_ne (tgt := 66) hx hb dL_follows_59 (by decide) (fun c13 => ?_) (fun c13 => ?_)
      · replace h := gneg c13 h
        exact bs_L_follows_66 C0 hst  (N := (2114 - 457)) (by omega) (by omega) (by omega) h hP hS (lv_sub hl [3, 4, 2, 1, 0] rfl)
      · replace h := gpos c13 h
        refine lv_iconst (v := 1) hx hb dL_follows_62 (by decide) ?_
        refine lv_goto (tgt := 67) hx hb dL_follows_63 (by decide) ?_
        exact bs_L_follows_67 C0 hst  (N := (2114 - 457)) (by omega) (by omega) (by omega) h hP hS (lv_sub hl [3, 4, 2, 1, 0] rfl)
