set_option maxHeartbeats 4000000 in
set_option maxRecDepth 20000 in
theorem bs_L_law_164 {p : Program} {l : Launch} (hst : l.stackTraces = false) {e : Env} {s : State} {m : MethodId} {below : List Frame} {meth : Method} {c : Code} {Γ : gE} (hfull : gFull Γ) {b L : Nat} {xs : Nat → Int32} (C0 : gCx p s m #[Value.ref b] meth c Γ RL code 7 ret) (hXs : va_X b L xs s s.heap) (hbl : b < s.heap.size) (hB : gB Γ = s.heap.size) {z : Unit} {cells slots : Nat} (hc : cells + 3 ≤ 601024) (hs : slots + 18 ≤ 7293034) {F23 : Int32 → gG → Option Unit} (hF23 : ∀ (l4 : Int32) (g : gG) (H : Heap) (locs : List Loc) (ls : Array Slot), F23 l4 g = some z → va_P (gD Γ) gcls (lay Γ g) H → va_S (gA Γ) s.heap H locs → lv_has ls 7 [(0, .ref b), (1, .ref (gB Γ + 0)), (2, .ref (gB Γ + 174)), (3, .ref (gB Γ + 193)), (4, .int l4)] → W p l e room_1 s m #[Value.ref b] below meth c H locs (cells + 3) (slots + 18) (lw_Z below #[Value.ref b] s) (F0 m 23 ls [])) {l4 : Int32} {g : gG} {H : Heap} {locs : List Loc} {ls : Array Slot} (h : fs_L_law_164 L xs F23 l4 g = some z) (hP : va_P (gD Γ) gcls (lay Γ g) H) (hS : va_S (gA Γ) s.heap H locs) (hl : lv_has ls 7 [(0, .ref b), (1, .ref (gB Γ + 0)), (2, .ref (gB Γ + 174)), (3, .ref (gB Γ + 193)), (4, .int l4)]) : W p l e room_1 s m #[Value.ref b] below meth c H locs cells slots (lw_Z below #[Value.ref b] s) (F0 m 164 ls []) := by
  unfold fs_L_law_164 at h
  obtain ⟨hx, hb, hml, hr, hown, hts, hK, hlk, hX⟩ := id C0
  have hbA : ¬ gA Γ b := by unfold gA; omega
  have hr3 : room_1.cells = 601024 := rfl
  have hr4 : room_1.slots = 7293034 := rfl
  refine lv_aload_n hx hb dL_law_164 rfl (lv_at hl 1 rfl) ?_
  refine lv_aload_n hx hb dL_law_165 rfl (lv_at hl 0 rfl) ?_
  refine lv_iload hx hb dL_law_166 (lv_at hl 4 rfl) ?_
  refine lv_iconst (v := 1) hx hb dL_law_168 (by decide) ?_
  refine lv_iadd hx hb dL_law_169 ?_
  refine gSld' (Γ := Γ) hx hb hXs hbl hbA hS dL_law_170 h (fun h => ?_)
  refine lv_aload_n hx hb dL_law_171 rfl (lv_at hl 3 rfl) ?_
  refine gCH (n2 := 3) (mc2 := 1) (ms2 := 6) (rest := []) C0 wcw_L_append wn_L (by decide +kernel) wl_L_98 wt_L_append ⟨Nat.le_of_ble_eq_true rfl, Nat.le_of_ble_eq_true rfl⟩ ⟨by rw [hr3]; omega, by rw [hr4]; omega⟩ [.ref (gB Γ + 0), .int (xs (l4 + (1 : Int32)).toNatClampNeg), .ref (gB Γ + 193)] rfl (Nat.le_of_ble_eq_true rfl) hP hS hl.1 dL_law_172 h (fun u hu => m_L_append l hst Γ hfull (xs (l4 + (1 : Int32)).toNatClampNeg) g u hu) (fun u1 H locs h hP hS => ?_) rfl
  refine lv_topi (fun x2 ex2 => ?_)
  replace h := gLetI ex2 h
  refine lv_istore (lv' := [(5, .int x2), (0, .ref b), (1, .ref (gB Γ + 0)), (2, .ref (gB Γ + 174)), (3, .ref (gB Γ + 193)), (4, .int l4)]) hx hb dL_law_175 hl (by decide) rfl (fun ls hl => ?_)
  refine lv_aload_n hx hb dL_law_177 rfl (lv_at hl 3 rfl) ?_
  refine lv_aload_n hx hb dL_law_178 rfl (lv_at hl 1 rfl) ?_
  refine lv_iload hx hb dL_law_179 (lv_at hl 5 rfl) ?_
  refine lv_iconst (v := 1) hx hb dL_law_181 (by decide) ?_
  refine lv_iadd hx hb dL_law_182 ?_
  refine gSld' (Γ := Γ) hx hb hXs hbl hbA hS dL_law_183 h (fun h => ?_)
  refine gCVi (rest := []) C0 cal_X10_append wl_L_103 wi_X10_append ws_X10_append ⟨Nat.le_of_ble_eq_true rfl, Nat.le_of_ble_eq_true rfl⟩ ⟨by rw [hr3]; omega, by rw [hr4]; omega⟩ grv_10 [.int (xs (l4 + (1 : Int32)).toNatClampNeg)] rfl (Nat.le_of_ble_eq_true rfl) hP hS hl.1 dL_law_184 h (fun u hu => m_X10_append l Γ (xs (l4 + (1 : Int32)).toNatClampNeg) u1.2 u hu) (fun u3 H locs h hP hS => ?_) rfl
  refine lv_topi (fun x4 ex4 => ?_)
  replace h := gLetI ex4 h
  refine lv_istore (lv' := [(6, .int x4), (5, .int x2), (0, .ref b), (1, .ref (gB Γ + 0)), (2, .ref (gB Γ + 174)), (3, .ref (gB Γ + 193)), (4, .int l4)]) hx hb dL_law_187 hl (by decide) rfl (fun ls hl => ?_)
  refine lv_aload_n hx hb dL_law_189 rfl (lv_at hl 4 rfl) ?_
  refine gCVi (rest := []) C0 cal_X10_thrown wl_L_104 wi_X10_thrown ws_X10_thrown ⟨Nat.le_of_ble_eq_true rfl, Nat.le_of_ble_eq_true rfl⟩ ⟨by rw [hr3]; omega, by rw [hr4]; omega⟩ grv_10 [] rfl (Nat.le_of_ble_eq_true rfl) hP hS hl.1 dL_law_190 h (fun u hu => m_X10_thrown l Γ u3.2 u hu) (fun u5 H locs h hP hS => ?_) rfl
  refine lv_iload hx hb dL_law_193 (lv_at hl 1 rfl) ?_
  refine lv_icmp_eq (tgt := 200) hx hb dL_law_195 (by decide) (fun c6 => ?_) (fun c6 => ?_)
  · replace h := gpos c6 h
    refine lv_iload hx hb dL_law_200 (lv_at hl 1 rfl) ?_
    refine lv_if_ne (tgt := 217) hx hb dL_law_202 (by decide) (fun c7 => ?_) (fun c7 => ?_)
    · replace h := gneg c7 h
      refine lv_goto (tgt := 1727) hx hb dL_law_217 (by decide) ?_
      obtain ⟨x8, ex8⟩ : ∃ y : Int32, y = l4 + (4 : Int32) := ⟨_, rfl⟩
      replace h := gLetI ex8 h
      refine lv_iinc (v := x8) (lv' := [(4, .int x8), (6, .int x4), (5, .int x2), (0, .ref b), (1, .ref (gB Γ + 0)), (2, .ref (gB Γ + 174)), (3, .ref (gB Γ + 193))]) hx hb dL_law_1727 hl (k := 6) rfl (by rw [ex8]; rfl) (by decide) rfl (fun ls hl => ?_)
      refine lv_goto (tgt := 23) hx hb dL_law_1730 (by decide) ?_
      refine W.widen (k := cells + 3) (n := slots + 18) (by omega) (by omega) ?_
      exact hF23 _ _ _ _ _ h hP hS (lv_sub hl [3, 4, 5, 6, 0] rfl)
    · replace h := gpos c7 h
      refine lv_aload_n hx hb dL_law_205 rfl (lv_at hl 5 rfl) ?_
      refine lv_iconst (v := 0) hx hb dL_law_206 (by decide) ?_
      refine gJld hx hb hK hP (is_193 hfull) dL_law_207 h (fun h => ?_)
      refine lv_iload hx hb dL_law_208 (lv_at hl 0 rfl) ?_
      refine lv_i2l hx hb dL_law_210 rfl ?_
      refine W.lcmp hx hb dL_law_211 ?_
      refine lv_if_eq (tgt := 217) hx hb dL_law_212 (by decide) (fun c9 => ?_) (fun c9 => ?_)
      · replace h := gpos c9 h
        refine lv_goto (tgt := 1727) hx hb dL_law_217 (by decide) ?_
        obtain ⟨x10, ex10⟩ : ∃ y : Int32, y = l4 + (4 : Int32) := ⟨_, rfl⟩
        replace h := gLetI ex10 h
        refine lv_iinc (v := x10) (lv' := [(4, .int x10), (6, .int x4), (5, .int x2), (0, .ref b), (1, .ref (gB Γ + 0)), (2, .ref (gB Γ + 174)), (3, .ref (gB Γ + 193))]) hx hb dL_law_1727 hl (k := 6) rfl (by rw [ex10]; rfl) (by decide) rfl (fun ls hl => ?_)
        refine lv_goto (tgt := 23) hx hb dL_law_1730 (by decide) ?_
        refine W.widen (k := cells + 3) (n := slots + 18) (by omega) (by omega) ?_
        exact hF23 _ _ _ _ _ h hP hS (lv_sub hl [3, 4, 5, 6, 0] rfl)
      · replace h := gneg c9 h
        refine lv_iconst (v := 0) hx hb dL_law_215 (by decide) ?_
        cases h
  · replace h := gneg c6 h
    refine lv_iconst (v := 0) hx hb dL_law_198 (by decide) ?_
    cases h
set_option maxHeartbeats 4000000 in
set_option maxRecDepth 20000 in
theorem bs_L_law_220 {p : Program} {l : Launch} (hst : l.stackTraces = false) {e : Env} {s : State} {m : MethodId} {below : List Frame} {meth : Method} {c : Code} {Γ : gE} (hfull : gFull Γ) {b L : Nat} {xs : Nat → Int32} (C0 : gCx p s m #[Value.ref b] meth c Γ RL code 7 ret) (hXs : va_X b L xs s s.heap) (hbl : b < s.heap.size) (hB : gB Γ = s.heap.size) {z : Unit} {cells slots : Nat} (hc : cells + 3 ≤ 601024) (hs : slots + 18 ≤ 7293034) {F23 : Int32 → gG → Option Unit} (hF23 : ∀ (l4 : Int32) (g : gG) (H : Heap) (locs : List Loc) (ls : Array Slot), F23 l4 g = some z → va_P (gD Γ) gcls (lay Γ g) H → va_S (gA Γ) s.heap H locs → lv_has ls 7 [(0, .ref b), (1, .ref (gB Γ + 0)), (2, .ref (gB Γ + 174)), (3, .ref (gB Γ + 193)), (4, .int l4)] → W p l e room_1 s m #[Value.ref b] below meth c H locs (cells + 3) (slots + 18) (lw_Z below #[Value.ref b] s) (F0 m 23 ls [])) {l4 : Int32} {g : gG} {H : Heap} {locs : List Loc} {ls : Array Slot} (h : fs_L_law_220 L xs F23 l4 g = some z) (hP : va_P (gD Γ) gcls (lay Γ g) H) (hS : va_S (gA Γ) s.heap H locs) (hl : lv_has ls 7 [(0, .ref b), (1, .ref (gB Γ + 0)), (2, .ref (gB Γ + 174)), (3, .ref (gB Γ + 193)), (4, .int l4)]) : W p l e room_1 s m #[Value.ref b] below meth c H locs cells slots (lw_Z below #[Value.ref b] s) (F0 m 220 ls []) := by
  unfold fs_L_law_220 at h
  obtain ⟨hx, hb, hml, hr, hown, hts, hK, hlk, hX⟩ := id C0
  have hbA : ¬ gA Γ b := by unfold gA; omega
  have hr3 : room_1.cells = 601024 := rfl
  have hr4 : room_1.slots = 7293034 := rfl
  refine lv_aload_n hx hb dL_law_220 rfl (lv_at hl 1 rfl) ?_
  refine gCVi (rest := []) C0 cal_X9_clearText wl_L_107 wi_X9_clearText ws_X9_clearText ⟨Nat.le_of_ble_eq_true rfl, Nat.le_of_ble_eq_true rfl⟩ ⟨by rw [hr3]; omega, by rw [hr4]; omega⟩ grv_9 [] rfl (Nat.le_of_ble_eq_true rfl) hP hS hl.1 dL_law_221 h (fun u hu => m_X9_clearText l Γ g u hu) (fun u1 H locs h hP hS => ?_) rfl
  refine lv_aload_n hx hb dL_law_224 rfl (lv_at hl 2 rfl) ?_
  refine gCVi (rest := [.int u1.1]) C0 cal_X10_clearText wl_L_110 wi_X10_clearText ws_X10_clearText ⟨Nat.le_of_ble_eq_true rfl, Nat.le_of_ble_eq_true rfl⟩ ⟨by rw [hr3]; omega, by rw [hr4]; omega⟩ grv_10 [] rfl (Nat.le_of_ble_eq_true rfl) hP hS hl.1 dL_law_225 h (fun u hu => m_X10_clearText l Γ u1.2 u hu) (fun u2 H locs h hP hS => ?_) rfl
  refine lv_icmp_eq (tgt := 1727) hx hb dL_law_228 (by decide) (fun c3 => ?_) (fun c3 => ?_)
  · replace h := gpos c3 h
    obtain ⟨x4, ex4⟩ : ∃ y : Int32, y = l4 + (4 : Int32) := ⟨_, rfl⟩
    replace h := gLetI ex4 h
    refine lv_iinc (v := x4) (lv' := [(4, .int x4), (0, .ref b), (1, .ref (gB Γ + 0)), (2, .ref (gB Γ + 174)), (3, .ref (gB Γ + 193))]) hx hb dL_law_1727 hl (k := 4) rfl (by rw [ex4]; rfl) (by decide) rfl (fun ls hl => ?_)
    refine lv_goto (tgt := 23) hx hb dL_law_1730 (by decide) ?_
    refine W.widen (k := cells + 3) (n := slots + 18) (by omega) (by omega) ?_
    exact hF23 _ _ _ _ _ h hP hS (lv_sub hl [1, 2, 3, 4, 0] rfl)
  · replace h := gneg c3 h
    refine lv_iconst (v := 0) hx hb dL_law_231 (by decide) ?_
    cases h
set_option maxHeartbeats 4000000 in
set_option maxRecDepth 20000 in
theorem bs_L_law_233 {p : Program} {l : Launch} (hst : l.stackTraces = false) {e : Env} {s : State} {m : MethodId} {below : List Frame} {meth : Method} {c : Code} {Γ : gE} (hfull : gFull Γ) {b L : Nat} {xs : Nat → Int32} (C0 : gCx p s m #[Value.ref b] meth c Γ RL code 7 ret) (hXs : va_X b L xs s s.heap) (hbl : b < s.heap.size) (hB : gB Γ = s.heap.size) {z : Unit} {cells slots : Nat} (hc : cells + 3 ≤ 601024) (hs : slots + 18 ≤ 7293034) {F23 : Int32 → gG → Option Unit} (hF23 : ∀ (l4 : Int32) (g : gG) (H : Heap) (locs : List Loc) (ls : Array Slot), F23 l4 g = some z → va_P (gD Γ) gcls (lay Γ g) H → va_S (gA Γ) s.heap H locs → lv_has ls 7 [(0, .ref b), (1, .ref (gB Γ + 0)), (2, .ref (gB Γ + 174)), (3, .ref (gB Γ + 193)), (4, .int l4)] → W p l e room_1 s m #[Value.ref b] below meth c H locs (cells + 3) (slots + 18) (lw_Z below #[Value.ref b] s) (F0 m 23 ls [])) {l4 : Int32} {g : gG} {H : Heap} {locs : List Loc} {ls : Array Slot} (h : fs_L_law_233 L xs F23 l4 g = some z) (hP : va_P (gD Γ) gcls (lay Γ g) H) (hS : va_S (gA Γ) s.heap H locs) (hl : lv_has ls 7 [(0, .ref b), (1, .ref (gB Γ + 0)), (2, .ref (gB Γ + 174)), (3, .ref (gB Γ + 193)), (4, .int l4)]) : W p l e room_1 s m #[Value.ref b] below meth c H locs cells slots (lw_Z below #[Value.ref b] s) (F0 m 233 ls []) := by
  unfold fs_L_law_233 at h
  obtain ⟨hx, hb, hml, hr, hown, hts, hK, hlk, hX⟩ := id C0
  have hbA : ¬ gA Γ b := by unfold gA; omega
  have hr3 : room_1.cells = 601024 := rfl
  have hr4 : room_1.slots = 7293034 := rfl
  refine lv_aload_n hx hb dL_law_233 rfl (lv_at hl 1 rfl) ?_
  refine gCVi (rest := []) C0 cal_X9_errorPosition wl_L_111 wi_X9_errorPosition ws_X9_errorPosition ⟨Nat.le_of_ble_eq_true rfl, Nat.le_of_ble_eq_true rfl⟩ ⟨by rw [hr3]; omega, by rw [hr4]; omega⟩ grv_9 [] rfl (Nat.le_of_ble_eq_true rfl) hP hS hl.1 dL_law_234 h (fun u hu => m_X9_errorPosition l Γ g u hu) (fun u1 H locs h hP hS => ?_) rfl
  refine lv_aload_n hx hb dL_law_237 rfl (lv_at hl 2 rfl) ?_
  refine gCVi (rest := [.int u1.1]) C0 cal_X10_errorPosition wl_L_114 wi_X10_errorPosition ws_X10_errorPosition ⟨Nat.le_of_ble_eq_true rfl, Nat.le_of_ble_eq_true rfl⟩ ⟨by rw [hr3]; omega, by rw [hr4]; omega⟩ grv_10 [] rfl (Nat.le_of_ble_eq_true rfl) hP hS hl.1 dL_law_238 h (fun u hu => m_X10_errorPosition l Γ u1.2 u hu) (fun u2 H locs h hP hS => ?_) rfl
  refine lv_icmp_eq (tgt := 1727) hx hb dL_law_241 (by decide) (fun c3 => ?_) (fun c3 => ?_)
  · replace h := gpos c3 h
    obtain ⟨x4, ex4⟩ : ∃ y : Int32, y = l4 + (4 : Int32) := ⟨_, rfl⟩
    replace h := gLetI ex4 h
    refine lv_iinc (v := x4) (lv' := [(4, .int x4), (0, .ref b), (1, .ref (gB Γ + 0)), (2, .ref (gB Γ + 174)), (3, .ref (gB Γ + 193))]) hx hb dL_law_1727 hl (k := 4) rfl (by rw [ex4]; rfl) (by decide) rfl (fun ls hl => ?_)
    refine lv_goto (tgt := 23) hx hb dL_law_1730 (by decide) ?_
    refine W.widen (k := cells + 3) (n := slots + 18) (by omega) (by omega) ?_
    exact hF23 _ _ _ _ _ h hP hS (lv_sub hl [1, 2, 3, 4, 0] rfl)
  · replace h := gneg c3 h
    refine lv_iconst (v := 0) hx hb dL_law_244 (by decide) ?_
    cases h
set_option maxHeartbeats 4000000 in
set_option maxRecDepth 20000 in
theorem bs_L_law_246 {p : Program} {l : Launch} (hst : l.stackTraces = false) {e : Env} {s : State} {m : MethodId} {below : List Frame} {meth : Method} {c : Code} {Γ : gE} (hfull : gFull Γ) {b L : Nat} {xs : Nat → Int32} (C0 : gCx p s m #[Value.ref b] meth c Γ RL code 7 ret) (hXs : va_X b L xs s s.heap) (hbl : b < s.heap.size) (hB : gB Γ = s.heap.size) {z : Unit} {cells slots : Nat} (hc : cells + 3 ≤ 601024) (hs : slots + 18 ≤ 7293034) {F23 : Int32 → gG → Option Unit} (hF23 : ∀ (l4 : Int32) (g : gG) (H : Heap) (locs : List Loc) (ls : Array Slot), F23 l4 g = some z → va_P (gD Γ) gcls (lay Γ g) H → va_S (gA Γ) s.heap H locs → lv_has ls 7 [(0, .ref b), (1, .ref (gB Γ + 0)), (2, .ref (gB Γ + 174)), (3, .ref (gB Γ + 193)), (4, .int l4)] → W p l e room_1 s m #[Value.ref b] below meth c H locs (cells + 3) (slots + 18) (lw_Z below #[Value.ref b] s) (F0 m 23 ls [])) {l4 : Int32} {g : gG} {H : Heap} {locs : List Loc} {ls : Array Slot} (h : fs_L_law_246 L xs F23 l4 g = some z) (hP : va_P (gD Γ) gcls (lay Γ g) H) (hS : va_S (gA Γ) s.heap H locs) (hl : lv_has ls 7 [(0, .ref b), (1, .ref (gB Γ + 0)), (2, .ref (gB Γ + 174)), (3, .ref (gB Γ + 193)), (4, .int l4)]) : W p l e room_1 s m #[Value.ref b] below meth c H locs cells slots (lw_Z below #[Value.ref b] s) (F0 m 246 ls []) := by
  unfold fs_L_law_246 at h
  obtain ⟨hx, hb, hml, hr, hown, hts, hK, hlk, hX⟩ := id C0
  have hbA : ¬ gA Γ b := by unfold gA; omega
  have hr3 : room_1.cells = 601024 := rfl
  have hr4 : room_1.slots = 7293034 := rfl
  refine lv_aload_n hx hb dL_law_246 rfl (lv_at hl 1 rfl) ?_
  refine lv_aload_n hx hb dL_law_247 rfl (lv_at hl 3 rfl) ?_
  refine gCH (n2 := 2) (mc2 := 1) (ms2 := 6) (rest := []) C0 wcw_L_load wn_L (by decide +kernel) wl_L_115 wt_L_load ⟨Nat.le_of_ble_eq_true rfl, Nat.le_of_ble_eq_true rfl⟩ ⟨by rw [hr3]; omega, by rw [hr4]; omega⟩ [.ref (gB Γ + 0), .ref (gB Γ + 193)] rfl (Nat.le_of_ble_eq_true rfl) hP hS hl.1 dL_law_248 h (fun u hu => m_L_load l hst Γ hfull g u hu) (fun u1 H locs h hP hS => ?_) rfl
  refine lv_topi (fun x2 ex2 => ?_)
  replace h := gLetI ex2 h
  refine lv_istore (lv' := [(5, .int x2), (0, .ref b), (1, .ref (gB Γ + 0)), (2, .ref (gB Γ + 174)), (3, .ref (gB Γ + 193)), (4, .int l4)]) hx hb dL_law_251 hl (by decide) rfl (fun ls hl => ?_)
  refine lv_aload_n hx hb dL_law_253 rfl (lv_at hl 3 rfl) ?_
  refine gCVi (rest := []) C0 cal_X10_load wl_L_118 wi_X10_load ws_X10_load ⟨Nat.le_of_ble_eq_true rfl, Nat.le_of_ble_eq_true rfl⟩ ⟨by rw [hr3]; omega, by rw [hr4]; omega⟩ grv_10 [] rfl (Nat.le_of_ble_eq_true rfl) hP hS hl.1 dL_law_254 h (fun u hu => m_X10_load l Γ u1.2 u hu) (fun u3 H locs h hP hS => ?_) rfl
  refine lv_topi (fun x4 ex4 => ?_)
  replace h := gLetI ex4 h
  refine lv_istore (lv' := [(6, .int x4), (5, .int x2), (0, .ref b), (1, .ref (gB Γ + 0)), (2, .ref (gB Γ + 174)), (3, .ref (gB Γ + 193)), (4, .int l4)]) hx hb dL_law_257 hl (by decide) rfl (fun ls hl => ?_)
  refine lv_aload_n hx hb dL_law_259 rfl (lv_at hl 4 rfl) ?_
  refine gCVi (rest := []) C0 cal_X10_thrown wl_L_104 wi_X10_thrown ws_X10_thrown ⟨Nat.le_of_ble_eq_true rfl, Nat.le_of_ble_eq_true rfl⟩ ⟨by rw [hr3]; omega, by rw [hr4]; omega⟩ grv_10 [] rfl (Nat.le_of_ble_eq_true rfl) hP hS hl.1 dL_law_260 h (fun u hu => m_X10_thrown l Γ u3.2 u hu) (fun u5 H locs h hP hS => ?_) rfl
  refine lv_iload hx hb dL_law_263 (lv_at hl 1 rfl) ?_
  refine lv_icmp_eq (tgt := 270) hx hb dL_law_265 (by decide) (fun c6 => ?_) (fun c6 => ?_)
  · replace h := gpos c6 h
    refine lv_iload hx hb dL_law_270 (lv_at hl 1 rfl) ?_
    refine lv_if_ne (tgt := 287) hx hb dL_law_272 (by decide) (fun c7 => ?_) (fun c7 => ?_)
    · replace h := gneg c7 h
      refine lv_goto (tgt := 1727) hx hb dL_law_287 (by decide) ?_
      obtain ⟨x8, ex8⟩ : ∃ y : Int32, y = l4 + (4 : Int32) := ⟨_, rfl⟩
      replace h := gLetI ex8 h
      refine lv_iinc (v := x8) (lv' := [(4, .int x8), (6, .int x4), (5, .int x2), (0, .ref b), (1, .ref (gB Γ + 0)), (2, .ref (gB Γ + 174)), (3, .ref (gB Γ + 193))]) hx hb dL_law_1727 hl (k := 6) rfl (by rw [ex8]; rfl) (by decide) rfl (fun ls hl => ?_)
      refine lv_goto (tgt := 23) hx hb dL_law_1730 (by decide) ?_
      refine W.widen (k := cells + 3) (n := slots + 18) (by omega) (by omega) ?_
      exact hF23 _ _ _ _ _ h hP hS (lv_sub hl [3, 4, 5, 6, 0] rfl)
    · replace h := gpos c7 h
      refine lv_aload_n hx hb dL_law_275 rfl (lv_at hl 5 rfl) ?_
      refine lv_iconst (v := 0) hx hb dL_law_276 (by decide) ?_
      refine gJld hx hb hK hP (is_193 hfull) dL_law_277 h (fun h => ?_)
      refine lv_iload hx hb dL_law_278 (lv_at hl 0 rfl) ?_
      refine lv_i2l hx hb dL_law_280 rfl ?_
      refine W.lcmp hx hb dL_law_281 ?_
      refine lv_if_eq (tgt := 287) hx hb dL_law_282 (by decide) (fun c9 => ?_) (fun c9 => ?_)
      · replace h := gpos c9 h
        refine lv_goto (tgt := 1727) hx hb dL_law_287 (by decide) ?_
        obtain ⟨x10, ex10⟩ : ∃ y : Int32, y = l4 + (4 : Int32) := ⟨_, rfl⟩
        replace h := gLetI ex10 h
        refine lv_iinc (v := x10) (lv' := [(4, .int x10), (6, .int x4), (5, .int x2), (0, .ref b), (1, .ref (gB Γ + 0)), (2, .ref (gB Γ + 174)), (3, .ref (gB Γ + 193))]) hx hb dL_law_1727 hl (k := 6) rfl (by rw [ex10]; rfl) (by decide) rfl (fun ls hl => ?_)
        refine lv_goto (tgt := 23) hx hb dL_law_1730 (by decide) ?_
        refine W.widen (k := cells + 3) (n := slots + 18) (by omega) (by omega) ?_
        exact hF23 _ _ _ _ _ h hP hS (lv_sub hl [3, 4, 5, 6, 0] rfl)
      · replace h := gneg c9 h
        refine lv_iconst (v := 0) hx hb dL_law_285 (by decide) ?_
        cases h
  · replace h := gneg c6 h
    refine lv_iconst (v := 0) hx hb dL_law_268 (by decide) ?_
    cases h
set_option maxHeartbeats 4000000 in
set_option maxRecDepth 20000 in
theorem bs_L_law_290 {p : Program} {l : Launch} (hst : l.stackTraces = false) {e : Env} {s : State} {m : MethodId} {below : List Frame} {meth : Method} {c : Code} {Γ : gE} (hfull : gFull Γ) {b L : Nat} {xs : Nat → Int32} (C0 : gCx p s m #[Value.ref b] meth c Γ RL code 7 ret) (hXs : va_X b L xs s s.heap) (hbl : b < s.heap.size) (hB : gB Γ = s.heap.size) {z : Unit} {cells slots : Nat} (hc : cells + 3 ≤ 601024) (hs : slots + 18 ≤ 7293034) {F23 : Int32 → gG → Option Unit} (hF23 : ∀ (l4 : Int32) (g : gG) (H : Heap) (locs : List Loc) (ls : Array Slot), F23 l4 g = some z → va_P (gD Γ) gcls (lay Γ g) H → va_S (gA Γ) s.heap H locs → lv_has ls 7 [(0, .ref b), (1, .ref (gB Γ + 0)), (2, .ref (gB Γ + 174)), (3, .ref (gB Γ + 193)), (4, .int l4)] → W p l e room_1 s m #[Value.ref b] below meth c H locs (cells + 3) (slots + 18) (lw_Z below #[Value.ref b] s) (F0 m 23 ls [])) {l4 : Int32} {g : gG} {H : Heap} {locs : List Loc} {ls : Array Slot} (h : fs_L_law_290 L xs F23 l4 g = some z) (hP : va_P (gD Γ) gcls (lay Γ g) H) (hS : va_S (gA Γ) s.heap H locs) (hl : lv_has ls 7 [(0, .ref b), (1, .ref (gB Γ + 0)), (2, .ref (gB Γ + 174)), (3, .ref (gB Γ + 193)), (4, .int l4)]) : W p l e room_1 s m #[Value.ref b] below meth c H locs cells slots (lw_Z below #[Value.ref b] s) (F0 m 290 ls []) := by
  unfold fs_L_law_290 at h
  obtain ⟨hx, hb, hml, hr, hown, hts, hK, hlk, hX⟩ := id C0
  have hbA : ¬ gA Γ b := by unfold gA; omega
  have hr3 : room_1.cells = 601024 := rfl
  have hr4 : room_1.slots = 7293034 := rfl
  refine lv_aload_n hx hb dL_law_290 rfl (lv_at hl 1 rfl) ?_
  refine lv_aload_n hx hb dL_law_291 rfl (lv_at hl 0 rfl) ?_
  refine lv_iload hx hb dL_law_292 (lv_at hl 4 rfl) ?_
  refine lv_iconst (v := 1) hx hb dL_law_294 (by decide) ?_
  refine lv_iadd hx hb dL_law_295 ?_
  refine gSld' (Γ := Γ) hx hb hXs hbl hbA hS dL_law_296 h (fun h => ?_)
  refine lv_aload_n hx hb dL_law_297 rfl (lv_at hl 3 rfl) ?_
  refine gCH (n2 := 3) (mc2 := 1) (ms2 := 6) (rest := []) C0 wcw_L_about wn_L (by decide +kernel) wl_L_119 wt_L_about ⟨Nat.le_of_ble_eq_true rfl, Nat.le_of_ble_eq_true rfl⟩ ⟨by rw [hr3]; omega, by rw [hr4]; omega⟩ [.ref (gB Γ + 0), .int (xs (l4 + (1 : Int32)).toNatClampNeg), .ref (gB Γ + 193)] rfl (Nat.le_of_ble_eq_true rfl) hP hS hl.1 dL_law_298 h (fun u hu => m_L_about l hst Γ hfull (xs (l4 + (1 : Int32)).toNatClampNeg) g u hu) (fun u1 H locs h hP hS => ?_) rfl
  refine lv_topi (fun x2 ex2 => ?_)
  replace h := gLetI ex2 h
  refine lv_istore (lv' := [(5, .int x2), (0, .ref b), (1, .ref (gB Γ + 0)), (2, .ref (gB Γ + 174)), (3, .ref (gB Γ + 193)), (4, .int l4)]) hx hb dL_law_301 hl (by decide) rfl (fun ls hl => ?_)
  refine lv_aload_n hx hb dL_law_303 rfl (lv_at hl 3 rfl) ?_
  refine lv_aload_n hx hb dL_law_304 rfl (lv_at hl 1 rfl) ?_
  refine lv_iload hx hb dL_law_305 (lv_at hl 5 rfl) ?_
  refine lv_iconst (v := 1) hx hb dL_law_307 (by decide) ?_
  refine lv_iadd hx hb dL_law_308 ?_
  refine gSld' (Γ := Γ) hx hb hXs hbl hbA hS dL_law_309 h (fun h => ?_)
  refine gCVi (rest := []) C0 cal_X10_about wl_L_121 wi_X10_about ws_X10_about ⟨Nat.le_of_ble_eq_true rfl, Nat.le_of_ble_eq_true rfl⟩ ⟨by rw [hr3]; omega, by rw [hr4]; omega⟩ grv_10 [.int (xs (l4 + (1 : Int32)).toNatClampNeg)] rfl (Nat.le_of_ble_eq_true rfl) hP hS hl.1 dL_law_310 h (fun u hu => m_X10_about l Γ (xs (l4 + (1 : Int32)).toNatClampNeg) u1.2 u hu) (fun u3 H locs h hP hS => ?_) rfl
  refine lv_topi (fun x4 ex4 => ?_)
  replace h := gLetI ex4 h
  refine lv_istore (lv' := [(6, .int x4), (5, .int x2), (0, .ref b), (1, .ref (gB Γ + 0)), (2, .ref (gB Γ + 174)), (3, .ref (gB Γ + 193)), (4, .int l4)]) hx hb dL_law_313 hl (by decide) rfl (fun ls hl => ?_)
  refine lv_aload_n hx hb dL_law_315 rfl (lv_at hl 4 rfl) ?_
  refine gCVi (rest := []) C0 cal_X10_thrown wl_L_104 wi_X10_thrown ws_X10_thrown ⟨Nat.le_of_ble_eq_true rfl, Nat.le_of_ble_eq_true rfl⟩ ⟨by rw [hr3]; omega, by rw [hr4]; omega⟩ grv_10 [] rfl (Nat.le_of_ble_eq_true rfl) hP hS hl.1 dL_law_316 h (fun u hu => m_X10_thrown l Γ u3.2 u hu) (fun u5 H locs h hP hS => ?_) rfl
  refine lv_iload hx hb dL_law_319 (lv_at hl 1 rfl) ?_
  refine lv_icmp_eq (tgt := 326) hx hb dL_law_321 (by decide) (fun c6 => ?_) (fun c6 => ?_)
  · replace h := gpos c6 h
    refine lv_iload hx hb dL_law_326 (lv_at hl 1 rfl) ?_
    refine lv_if_ne (tgt := 343) hx hb dL_law_328 (by decide) (fun c7 => ?_) (fun c7 => ?_)
    · replace h := gneg c7 h
      refine lv_goto (tgt := 1727) hx hb dL_law_343 (by decide) ?_
      obtain ⟨x8, ex8⟩ : ∃ y : Int32, y = l4 + (4 : Int32) := ⟨_, rfl⟩
      replace h := gLetI ex8 h
      refine lv_iinc (v := x8) (lv' := [(4, .int x8), (6, .int x4), (5, .int x2), (0, .ref b), (1, .ref (gB Γ + 0)), (2, .ref (gB Γ + 174)), (3, .ref (gB Γ + 193))]) hx hb dL_law_1727 hl (k := 6) rfl (by rw [ex8]; rfl) (by decide) rfl (fun ls hl => ?_)
      refine lv_goto (tgt := 23) hx hb dL_law_1730 (by decide) ?_
      refine W.widen (k := cells + 3) (n := slots + 18) (by omega) (by omega) ?_
      exact hF23 _ _ _ _ _ h hP hS (lv_sub hl [3, 4, 5, 6, 0] rfl)
    · replace h := gpos c7 h
      refine lv_aload_n hx hb dL_law_331 rfl (lv_at hl 5 rfl) ?_
      refine lv_iconst (v := 0) hx hb dL_law_332 (by decide) ?_
      refine gJld hx hb hK hP (is_193 hfull) dL_law_333 h (fun h => ?_)
      refine lv_iload hx hb dL_law_334 (lv_at hl 0 rfl) ?_
      refine lv_i2l hx hb dL_law_336 rfl ?_
      refine W.lcmp hx hb dL_law_337 ?_
      refine lv_if_eq (tgt := 343) hx hb dL_law_338 (by decide) (fun c9 => ?_) (fun c9 => ?_)
      · replace h := gpos c9 h
        refine lv_goto (tgt := 1727) hx hb dL_law_343 (by decide) ?_
        obtain ⟨x10, ex10⟩ : ∃ y : Int32, y = l4 + (4 : Int32) := ⟨_, rfl⟩
        replace h := gLetI ex10 h
        refine lv_iinc (v := x10) (lv' := [(4, .int x10), (6, .int x4), (5, .int x2), (0, .ref b), (1, .ref (gB Γ + 0)), (2, .ref (gB Γ + 174)), (3, .ref (gB Γ + 193))]) hx hb dL_law_1727 hl (k := 6) rfl (by rw [ex10]; rfl) (by decide) rfl (fun ls hl => ?_)
        refine lv_goto (tgt := 23) hx hb dL_law_1730 (by decide) ?_
        refine W.widen (k := cells + 3) (n := slots + 18) (by omega) (by omega) ?_
        exact hF23 _ _ _ _ _ h hP hS (lv_sub hl [3, 4, 5, 6, 0] rfl)
      · replace h := gneg c9 h
        refine lv_iconst (v := 0) hx hb dL_law_341 (by decide) ?_
        cases h
  · replace h := gneg c6 h
    refine lv_iconst (v := 0) hx hb dL_law_324 (by decide) ?_
    cases h
set_option maxHeartbeats 4000000 in
set_option maxRecDepth 20000 in
theorem bs_L_law_346 {p : Program} {l : Launch} (hst : l.stackTraces = false) {e : Env} {s : State} {m : MethodId} {below : List Frame} {meth : Method} {c : Code} {Γ : gE} (hfull : gFull Γ) {b L : Nat} {xs : Nat → Int32} (C0 : gCx p s m #[Value.ref b] meth c Γ RL code 7 ret) (hXs : va_X b L xs s s.heap) (hbl : b < s.heap.size) (hB : gB Γ = s.heap.size) {z : Unit} {cells slots : Nat} (hc : cells + 3 ≤ 601024) (hs : slots + 18 ≤ 7293034) {F23 : Int32 → gG → Option Unit} (hF23 : ∀ (l4 : Int32) (g : gG) (H : Heap) (locs : List Loc) (ls : Array Slot), F23 l4 g = some z → va_P (gD Γ) gcls (lay Γ g) H → va_S (gA Γ) s.heap H locs → lv_has ls 7 [(0, .ref b), (1, .ref (gB Γ + 0)), (2, .ref (gB Γ + 174)), (3, .ref (gB Γ + 193)), (4, .int l4)] → W p l e room_1 s m #[Value.ref b] below meth c H locs (cells + 3) (slots + 18) (lw_Z below #[Value.ref b] s) (F0 m 23 ls [])) {l4 : Int32} {g : gG} {H : Heap} {locs : List Loc} {ls : Array Slot} (h : fs_L_law_346 L xs F23 l4 g = some z) (hP : va_P (gD Γ) gcls (lay Γ g) H) (hS : va_S (gA Γ) s.heap H locs) (hl : lv_has ls 7 [(0, .ref b), (1, .ref (gB Γ + 0)), (2, .ref (gB Γ + 174)), (3, .ref (gB Γ + 193)), (4, .int l4)]) : W p l e room_1 s m #[Value.ref b] below meth c H locs cells slots (lw_Z below #[Value.ref b] s) (F0 m 346 ls []) := by
  unfold fs_L_law_346 at h
  obtain ⟨hx, hb, hml, hr, hown, hts, hK, hlk, hX⟩ := id C0
  have hbA : ¬ gA Γ b := by unfold gA; omega
  have hr3 : room_1.cells = 601024 := rfl
  have hr4 : room_1.slots = 7293034 := rfl
  refine lv_aload_n hx hb dL_law_346 rfl (lv_at hl 1 rfl) ?_
  refine lv_aload_n hx hb dL_law_347 rfl (lv_at hl 0 rfl) ?_
  refine lv_iload hx hb dL_law_348 (lv_at hl 4 rfl) ?_
  refine lv_iconst (v := 1) hx hb dL_law_350 (by decide) ?_
  refine lv_iadd hx hb dL_law_351 ?_
  refine gSld' (Γ := Γ) hx hb hXs hbl hbA hS dL_law_352 h (fun h => ?_)
  refine lv_aload_n hx hb dL_law_353 rfl (lv_at hl 0 rfl) ?_
  refine lv_iload hx hb dL_law_354 (lv_at hl 4 rfl) ?_
  refine lv_iconst (v := 2) hx hb dL_law_356 (by decide) ?_
  refine lv_iadd hx hb dL_law_357 ?_
  refine gSld' (Γ := Γ) hx hb hXs hbl hbA hS dL_law_358 h (fun h => ?_)
  refine lv_aload_n hx hb dL_law_359 rfl (lv_at hl 3 rfl) ?_
  refine gCH (n2 := 4) (mc2 := 2) (ms2 := 12) (rest := []) C0 wcw_L_place wn_L (by decide +kernel) wl_L_122 wt_L_place ⟨Nat.le_of_ble_eq_true rfl, Nat.le_of_ble_eq_true rfl⟩ ⟨by rw [hr3]; omega, by rw [hr4]; omega⟩ [.ref (gB Γ + 0), .int (xs (l4 + (1 : Int32)).toNatClampNeg), .int (xs (l4 + (2 : Int32)).toNatClampNeg), .ref (gB Γ + 193)] rfl (Nat.le_of_ble_eq_true rfl) hP hS hl.1 dL_law_360 h (fun u hu => m_L_place l hst Γ hfull (xs (l4 + (1 : Int32)).toNatClampNeg) (xs (l4 + (2 : Int32)).toNatClampNeg) g u hu) (fun u1 H locs h hP hS => ?_) rfl
  refine lv_topi (fun x2 ex2 => ?_)
  replace h := gLetI ex2 h
  refine lv_istore (lv' := [(5, .int x2), (0, .ref b), (1, .ref (gB Γ + 0)), (2, .ref (gB Γ + 174)), (3, .ref (gB Γ + 193)), (4, .int l4)]) hx hb dL_law_363 hl (by decide) rfl (fun ls hl => ?_)
  refine lv_aload_n hx hb dL_law_365 rfl (lv_at hl 3 rfl) ?_
  refine lv_aload_n hx hb dL_law_366 rfl (lv_at hl 1 rfl) ?_
  refine lv_iload hx hb dL_law_367 (lv_at hl 5 rfl) ?_
  refine lv_iconst (v := 1) hx hb dL_law_369 (by decide) ?_
  refine lv_iadd hx hb dL_law_370 ?_
  refine gSld' (Γ := Γ) hx hb hXs hbl hbA hS dL_law_371 h (fun h => ?_)
  refine lv_aload_n hx hb dL_law_372 rfl (lv_at hl 1 rfl) ?_
  refine lv_iload hx hb dL_law_373 (lv_at hl 5 rfl) ?_
  refine lv_iconst (v := 2) hx hb dL_law_375 (by decide) ?_
  refine lv_iadd hx hb dL_law_376 ?_
  refine gSld' (Γ := Γ) hx hb hXs hbl hbA hS dL_law_377 h (fun h => ?_)
  refine gCVi (rest := []) C0 cal_X10_place wl_L_125 wi_X10_place ws_X10_place ⟨Nat.le_of_ble_eq_true rfl, Nat.le_of_ble_eq_true rfl⟩ ⟨by rw [hr3]; omega, by rw [hr4]; omega⟩ grv_10 [.int (xs (l4 + (1 : Int32)).toNatClampNeg), .int (xs (l4 + (2 : Int32)).toNatClampNeg)] rfl (Nat.le_of_ble_eq_true rfl) hP hS hl.1 dL_law_378 h (fun u hu => m_X10_place l Γ (xs (l4 + (1 : Int32)).toNatClampNeg) (xs (l4 + (2 : Int32)).toNatClampNeg) u1.2 u hu) (fun u3 H locs h hP hS => ?_) rfl
  refine lv_topi (fun x4 ex4 => ?_)
  replace h := gLetI ex4 h
  refine lv_istore (lv' := [(6, .int x4), (5, .int x2), (0, .ref b), (1, .ref (gB Γ + 0)), (2, .ref (gB Γ + 174)), (3, .ref (gB Γ + 193)), (4, .int l4)]) hx hb dL_law_381 hl (by decide) rfl (fun ls hl => ?_)
  refine lv_aload_n hx hb dL_law_383 rfl (lv_at hl 4 rfl) ?_
  refine gCVi (rest := []) C0 cal_X10_thrown wl_L_104 wi_X10_thrown ws_X10_thrown ⟨Nat.le_of_ble_eq_true rfl, Nat.le_of_ble_eq_true rfl⟩ ⟨by rw [hr3]; omega, by rw [hr4]; omega⟩ grv_10 [] rfl (Nat.le_of_ble_eq_true rfl) hP hS hl.1 dL_law_384 h (fun u hu => m_X10_thrown l Γ u3.2 u hu) (fun u5 H locs h hP hS => ?_) rfl
  refine lv_iload hx hb dL_law_387 (lv_at hl 1 rfl) ?_
  refine lv_icmp_eq (tgt := 394) hx hb dL_law_389 (by decide) (fun c6 => ?_) (fun c6 => ?_)
  · replace h := gpos c6 h
    refine lv_iload hx hb dL_law_394 (lv_at hl 1 rfl) ?_
    refine lv_if_ne (tgt := 411) hx hb dL_law_396 (by decide) (fun c7 => ?_) (fun c7 => ?_)
    · replace h := gneg c7 h
      refine lv_goto (tgt := 1727) hx hb dL_law_411 (by decide) ?_
      obtain ⟨x8, ex8⟩ : ∃ y : Int32, y = l4 + (4 : Int32) := ⟨_, rfl⟩
      replace h := gLetI ex8 h
      refine lv_iinc (v := x8) (lv' := [(4, .int x8), (6, .int x4), (5, .int x2), (0, .ref b), (1, .ref (gB Γ + 0)), (2, .ref (gB Γ + 174)), (3, .ref (gB Γ + 193))]) hx hb dL_law_1727 hl (k := 6) rfl (by rw [ex8]; rfl) (by decide) rfl (fun ls hl => ?_)
      refine lv_goto (tgt := 23) hx hb dL_law_1730 (by decide) ?_
      refine W.widen (k := cells + 3) (n := slots + 18) (by omega) (by omega) ?_
      exact hF23 _ _ _ _ _ h hP hS (lv_sub hl [3, 4, 5, 6, 0] rfl)
    · replace h := gpos c7 h
      refine lv_aload_n hx hb dL_law_399 rfl (lv_at hl 5 rfl) ?_
      refine lv_iconst (v := 0) hx hb dL_law_400 (by decide) ?_
      refine gJld hx hb hK hP (is_193 hfull) dL_law_401 h (fun h => ?_)
      refine lv_iload hx hb dL_law_402 (lv_at hl 0 rfl) ?_
      refine lv_i2l hx hb dL_law_404 rfl ?_
      refine W.lcmp hx hb dL_law_405 ?_
      refine lv_if_eq (tgt := 411) hx hb dL_law_406 (by decide) (fun c9 => ?_) (fun c9 => ?_)
      · replace h := gpos c9 h
        refine lv_goto (tgt := 1727) hx hb dL_law_411 (by decide) ?_
        obtain ⟨x10, ex10⟩ : ∃ y : Int32, y = l4 + (4 : Int32) := ⟨_, rfl⟩
        replace h := gLetI ex10 h
        refine lv_iinc (v := x10) (lv' := [(4, .int x10), (6, .int x4), (5, .int x2), (0, .ref b), (1, .ref (gB Γ + 0)), (2, .ref (gB Γ + 174)), (3, .ref (gB Γ + 193))]) hx hb dL_law_1727 hl (k := 6) rfl (by rw [ex10]; rfl) (by decide) rfl (fun ls hl => ?_)
        refine lv_goto (tgt := 23) hx hb dL_law_1730 (by decide) ?_
        refine W.widen (k := cells + 3) (n := slots + 18) (by omega) (by omega) ?_
        exact hF23 _ _ _ _ _ h hP hS (lv_sub hl [3, 4, 5, 6, 0] rfl)
      · replace h := gneg c9 h
        refine lv_iconst (v := 0) hx hb dL_law_409 (by decide) ?_
        cases h
  · replace h := gneg c6 h
    refine lv_iconst (v := 0) hx hb dL_law_392 (by decide) ?_
    cases h
set_option maxHeartbeats 4000000 in
set_option maxRecDepth 20000 in
theorem bs_L_law_414 {p : Program} {l : Launch} (hst : l.stackTraces = false) {e : Env} {s : State} {m : MethodId} {below : List Frame} {meth : Method} {c : Code} {Γ : gE} (hfull : gFull Γ) {b L : Nat} {xs : Nat → Int32} (C0 : gCx p s m #[Value.ref b] meth c Γ RL code 7 ret) (hXs : va_X b L xs s s.heap) (hbl : b < s.heap.size) (hB : gB Γ = s.heap.size) {z : Unit} {cells slots : Nat} (hc : cells + 3 ≤ 601024) (hs : slots + 18 ≤ 7293034) {F23 : Int32 → gG → Option Unit} (hF23 : ∀ (l4 : Int32) (g : gG) (H : Heap) (locs : List Loc) (ls : Array Slot), F23 l4 g = some z → va_P (gD Γ) gcls (lay Γ g) H → va_S (gA Γ) s.heap H locs → lv_has ls 7 [(0, .ref b), (1, .ref (gB Γ + 0)), (2, .ref (gB Γ + 174)), (3, .ref (gB Γ + 193)), (4, .int l4)] → W p l e room_1 s m #[Value.ref b] below meth c H locs (cells + 3) (slots + 18) (lw_Z below #[Value.ref b] s) (F0 m 23 ls [])) {l4 : Int32} {g : gG} {H : Heap} {locs : List Loc} {ls : Array Slot} (h : fs_L_law_414 L xs F23 l4 g = some z) (hP : va_P (gD Γ) gcls (lay Γ g) H) (hS : va_S (gA Γ) s.heap H locs) (hl : lv_has ls 7 [(0, .ref b), (1, .ref (gB Γ + 0)), (2, .ref (gB Γ + 174)), (3, .ref (gB Γ + 193)), (4, .int l4)]) : W p l e room_1 s m #[Value.ref b] below meth c H locs cells slots (lw_Z below #[Value.ref b] s) (F0 m 414 ls []) := by
  unfold fs_L_law_414 at h
  obtain ⟨hx, hb, hml, hr, hown, hts, hK, hlk, hX⟩ := id C0
  have hbA : ¬ gA Γ b := by unfold gA; omega
  have hr3 : room_1.cells = 601024 := rfl
  have hr4 : room_1.slots = 7293034 := rfl
  refine lv_aload_n hx hb dL_law_414 rfl (lv_at hl 1 rfl) ?_
  refine lv_aload_n hx hb dL_law_415 rfl (lv_at hl 0 rfl) ?_
  refine lv_iload hx hb dL_law_416 (lv_at hl 4 rfl) ?_
  refine lv_iconst (v := 1) hx hb dL_law_418 (by decide) ?_
  refine lv_iadd hx hb dL_law_419 ?_
  refine gSld' (Γ := Γ) hx hb hXs hbl hbA hS dL_law_420 h (fun h => ?_)
  refine lv_aload_n hx hb dL_law_421 rfl (lv_at hl 0 rfl) ?_
  refine lv_iload hx hb dL_law_422 (lv_at hl 4 rfl) ?_
  refine lv_iconst (v := 2) hx hb dL_law_424 (by decide) ?_
  refine lv_iadd hx hb dL_law_425 ?_
  refine gSld' (Γ := Γ) hx hb hXs hbl hbA hS dL_law_426 h (fun h => ?_)
  refine lv_aload_n hx hb dL_law_427 rfl (lv_at hl 3 rfl) ?_
  refine gCH (n2 := 4) (mc2 := 2) (ms2 := 12) (rest := []) C0 wcw_L_holds wn_L (by decide +kernel) wl_L_126 wt_L_holds ⟨Nat.le_of_ble_eq_true rfl, Nat.le_of_ble_eq_true rfl⟩ ⟨by rw [hr3]; omega, by rw [hr4]; omega⟩ [.ref (gB Γ + 0), .int (xs (l4 + (1 : Int32)).toNatClampNeg), .int (xs (l4 + (2 : Int32)).toNatClampNeg), .ref (gB Γ + 193)] rfl (Nat.le_of_ble_eq_true rfl) hP hS hl.1 dL_law_428 h (fun u hu => m_L_holds l hst Γ hfull (xs (l4 + (1 : Int32)).toNatClampNeg) (xs (l4 + (2 : Int32)).toNatClampNeg) g u hu) (fun u1 H locs h hP hS => ?_) rfl
  refine lv_topi (fun x2 ex2 => ?_)
  replace h := gLetI ex2 h
  refine lv_istore (lv' := [(5, .int x2), (0, .ref b), (1, .ref (gB Γ + 0)), (2, .ref (gB Γ + 174)), (3, .ref (gB Γ + 193)), (4, .int l4)]) hx hb dL_law_431 hl (by decide) rfl (fun ls hl => ?_)
  refine lv_aload_n hx hb dL_law_433 rfl (lv_at hl 3 rfl) ?_
  refine lv_aload_n hx hb dL_law_434 rfl (lv_at hl 1 rfl) ?_
  refine lv_iload hx hb dL_law_435 (lv_at hl 5 rfl) ?_
  refine lv_iconst (v := 1) hx hb dL_law_437 (by decide) ?_
  refine lv_iadd hx hb dL_law_438 ?_
  refine gSld' (Γ := Γ) hx hb hXs hbl hbA hS dL_law_439 h (fun h => ?_)
  refine lv_aload_n hx hb dL_law_440 rfl (lv_at hl 1 rfl) ?_
  refine lv_iload hx hb dL_law_441 (lv_at hl 5 rfl) ?_
  refine lv_iconst (v := 2) hx hb dL_law_443 (by decide) ?_
  refine lv_iadd hx hb dL_law_444 ?_
  refine gSld' (Γ := Γ) hx hb hXs hbl hbA hS dL_law_445 h (fun h => ?_)
  refine gCVi (rest := []) C0 cal_X10_holds wl_L_128 wi_X10_holds ws_X10_holds ⟨Nat.le_of_ble_eq_true rfl, Nat.le_of_ble_eq_true rfl⟩ ⟨by rw [hr3]; omega, by rw [hr4]; omega⟩ grv_10 [.int (xs (l4 + (1 : Int32)).toNatClampNeg), .int (xs (l4 + (2 : Int32)).toNatClampNeg)] rfl (Nat.le_of_ble_eq_true rfl) hP hS hl.1 dL_law_446 h (fun u hu => m_X10_holds l Γ (xs (l4 + (1 : Int32)).toNatClampNeg) (xs (l4 + (2 : Int32)).toNatClampNeg) u1.2 u hu) (fun u3 H locs h hP hS => ?_) rfl
  refine lv_topi (fun x4 ex4 => ?_)
  replace h := gLetI ex4 h
  refine lv_istore (lv' := [(6, .int x4), (5, .int x2), (0, .ref b), (1, .ref (gB Γ + 0)), (2, .ref (gB Γ + 174)), (3, .ref (gB Γ + 193)), (4, .int l4)]) hx hb dL_law_449 hl (by decide) rfl (fun ls hl => ?_)
  refine lv_aload_n hx hb dL_law_451 rfl (lv_at hl 4 rfl) ?_
  refine gCVi (rest := []) C0 cal_X10_thrown wl_L_104 wi_X10_thrown ws_X10_thrown ⟨Nat.le_of_ble_eq_true rfl, Nat.le_of_ble_eq_true rfl⟩ ⟨by rw [hr3]; omega, by rw [hr4]; omega⟩ grv_10 [] rfl (Nat.le_of_ble_eq_true rfl) hP hS hl.1 dL_law_452 h (fun u hu => m_X10_thrown l Γ u3.2 u hu) (fun u5 H locs h hP hS => ?_) rfl
  refine lv_iload hx hb dL_law_455 (lv_at hl 1 rfl) ?_
  refine lv_icmp_eq (tgt := 462) hx hb dL_law_457 (by decide) (fun c6 => ?_) (fun c6 => ?_)
  · replace h := gpos c6 h
    refine lv_iload hx hb dL_law_462 (lv_at hl 1 rfl) ?_
    refine lv_if_ne (tgt := 486) hx hb dL_law_464 (by decide) (fun c7 => ?_) (fun c7 => ?_)
    · replace h := gneg c7 h
      refine lv_goto (tgt := 1727) hx hb dL_law_486 (by decide) ?_
      obtain ⟨x8, ex8⟩ : ∃ y : Int32, y = l4 + (4 : Int32) := ⟨_, rfl⟩
      replace h := gLetI ex8 h
      refine lv_iinc (v := x8) (lv' := [(4, .int x8), (6, .int x4), (5, .int x2), (0, .ref b), (1, .ref (gB Γ + 0)), (2, .ref (gB Γ + 174)), (3, .ref (gB Γ + 193))]) hx hb dL_law_1727 hl (k := 6) rfl (by rw [ex8]; rfl) (by decide) rfl (fun ls hl => ?_)
      refine lv_goto (tgt := 23) hx hb dL_law_1730 (by decide) ?_
      refine W.widen (k := cells + 3) (n := slots + 18) (by omega) (by omega) ?_
      exact hF23 _ _ _ _ _ h hP hS (lv_sub hl [3, 4, 5, 6, 0] rfl)
    · replace h := gpos c7 h
      refine lv_aload_n hx hb dL_law_467 rfl (lv_at hl 5 rfl) ?_
      refine lv_iconst (v := 0) hx hb dL_law_468 (by decide) ?_
      refine gJld hx hb hK hP (is_193 hfull) dL_law_469 h (fun h => ?_)
      refine lv_iload hx hb dL_law_470 (lv_at hl 0 rfl) ?_
      refine lv_if_eq (tgt := 479) hx hb dL_law_472 (by decide) (fun c9 => ?_) (fun c9 => ?_)
      · replace h := gpos c9 h
        refine lv_lconst (v := 0) hx hb dL_law_479 (by decide) ?_
        refine W.lcmp hx hb dL_law_480 ?_
        refine lv_if_eq (tgt := 486) hx hb dL_law_481 (by decide) (fun c10 => ?_) (fun c10 => ?_)
        · replace h := gpos c10 h
          refine lv_goto (tgt := 1727) hx hb dL_law_486 (by decide) ?_
          obtain ⟨x11, ex11⟩ : ∃ y : Int32, y = l4 + (4 : Int32) := ⟨_, rfl⟩
          replace h := gLetI ex11 h
          refine lv_iinc (v := x11) (lv' := [(4, .int x11), (6, .int x4), (5, .int x2), (0, .ref b), (1, .ref (gB Γ + 0)), (2, .ref (gB Γ + 174)), (3, .ref (gB Γ + 193))]) hx hb dL_law_1727 hl (k := 6) rfl (by rw [ex11]; rfl) (by decide) rfl (fun ls hl => ?_)
          refine lv_goto (tgt := 23) hx hb dL_law_1730 (by decide) ?_
          refine W.widen (k := cells + 3) (n := slots + 18) (by omega) (by omega) ?_
          exact hF23 _ _ _ _ _ h hP hS (lv_sub hl [3, 4, 5, 6, 0] rfl)
        · replace h := gneg c10 h
          refine lv_iconst (v := 0) hx hb dL_law_484 (by decide) ?_
          cases h
      · replace h := gneg c9 h
        refine lv_lconst (v := 1) hx hb dL_law_475 (by decide) ?_
        refine lv_goto (tgt := 480) hx hb dL_law_476 (by decide) ?_
        refine W.lcmp hx hb dL_law_480 ?_
        refine lv_if_eq (tgt := 486) hx hb dL_law_481 (by decide) (fun c12 => ?_) (fun c12 => ?_)
        · replace h := gpos c12 h
          refine lv_goto (tgt := 1727) hx hb dL_law_486 (by decide) ?_
          obtain ⟨x13, ex13⟩ : ∃ y : Int32, y = l4 + (4 : Int32) := ⟨_, rfl⟩
          replace h := gLetI ex13 h
          refine lv_iinc (v := x13) (lv' := [(4, .int x13), (6, .int x4), (5, .int x2), (0, .ref b), (1, .ref (gB Γ + 0)), (2, .ref (gB Γ + 174)), (3, .ref (gB Γ + 193))]) hx hb dL_law_1727 hl (k := 6) rfl (by rw [ex13]; rfl) (by decide) rfl (fun ls hl => ?_)
          refine lv_goto (tgt := 23) hx hb dL_law_1730 (by decide) ?_
          refine W.widen (k := cells + 3) (n := slots + 18) (by omega) (by omega) ?_
          exact hF23 _ _ _ _ _ h hP hS (lv_sub hl [3, 4, 5, 6, 0] rfl)
        · replace h := gneg c12 h
          refine lv_iconst (v := 0) hx hb dL_law_484 (by decide) ?_
          cases h
  · replace h := gneg c6 h
    refine lv_iconst (v := 0) hx hb dL_law_460 (by decide) ?_
    cases h
set_option maxHeartbeats 4000000 in
set_option maxRecDepth 20000 in
theorem bs_L_law_489 {p : Program} {l : Launch} (hst : l.stackTraces = false) {e : Env} {s : State} {m : MethodId} {below : List Frame} {meth : Method} {c : Code} {Γ : gE} (hfull : gFull Γ) {b L : Nat} {xs : Nat → Int32} (C0 : gCx p s m #[Value.ref b] meth c Γ RL code 7 ret) (hXs : va_X b L xs s s.heap) (hbl : b < s.heap.size) (hB : gB Γ = s.heap.size) {z : Unit} {cells slots : Nat} (hc : cells + 3 ≤ 601024) (hs : slots + 18 ≤ 7293034) {F23 : Int32 → gG → Option Unit} (hF23 : ∀ (l4 : Int32) (g : gG) (H : Heap) (locs : List Loc) (ls : Array Slot), F23 l4 g = some z → va_P (gD Γ) gcls (lay Γ g) H → va_S (gA Γ) s.heap H locs → lv_has ls 7 [(0, .ref b), (1, .ref (gB Γ + 0)), (2, .ref (gB Γ + 174)), (3, .ref (gB Γ + 193)), (4, .int l4)] → W p l e room_1 s m #[Value.ref b] below meth c H locs (cells + 3) (slots + 18) (lw_Z below #[Value.ref b] s) (F0 m 23 ls [])) {l4 : Int32} {g : gG} {H : Heap} {locs : List Loc} {ls : Array Slot} (h : fs_L_law_489 L xs F23 l4 g = some z) (hP : va_P (gD Γ) gcls (lay Γ g) H) (hS : va_S (gA Γ) s.heap H locs) (hl : lv_has ls 7 [(0, .ref b), (1, .ref (gB Γ + 0)), (2, .ref (gB Γ + 174)), (3, .ref (gB Γ + 193)), (4, .int l4)]) : W p l e room_1 s m #[Value.ref b] below meth c H locs cells slots (lw_Z below #[Value.ref b] s) (F0 m 489 ls []) := by
  unfold fs_L_law_489 at h
  obtain ⟨hx, hb, hml, hr, hown, hts, hK, hlk, hX⟩ := id C0
  have hbA : ¬ gA Γ b := by unfold gA; omega
  have hr3 : room_1.cells = 601024 := rfl
  have hr4 : room_1.slots = 7293034 := rfl
  refine lv_aload_n hx hb dL_law_489 rfl (lv_at hl 1 rfl) ?_
  refine lv_aload_n hx hb dL_law_490 rfl (lv_at hl 0 rfl) ?_
  refine lv_iload hx hb dL_law_491 (lv_at hl 4 rfl) ?_
  refine lv_iconst (v := 1) hx hb dL_law_493 (by decide) ?_
  refine lv_iadd hx hb dL_law_494 ?_
  refine gSld' (Γ := Γ) hx hb hXs hbl hbA hS dL_law_495 h (fun h => ?_)
  refine lv_aload_n hx hb dL_law_496 rfl (lv_at hl 0 rfl) ?_
  refine lv_iload hx hb dL_law_497 (lv_at hl 4 rfl) ?_
  refine lv_iconst (v := 2) hx hb dL_law_499 (by decide) ?_
  refine lv_iadd hx hb dL_law_500 ?_
  refine gSld' (Γ := Γ) hx hb hXs hbl hbA hS dL_law_501 h (fun h => ?_)
  refine lv_aload_n hx hb dL_law_502 rfl (lv_at hl 3 rfl) ?_
  refine gCH (n2 := 4) (mc2 := 2) (ms2 := 12) (rest := []) C0 wcw_L_team wn_L (by decide +kernel) wl_L_129 wt_L_team ⟨Nat.le_of_ble_eq_true rfl, Nat.le_of_ble_eq_true rfl⟩ ⟨by rw [hr3]; omega, by rw [hr4]; omega⟩ [.ref (gB Γ + 0), .int (xs (l4 + (1 : Int32)).toNatClampNeg), .int (xs (l4 + (2 : Int32)).toNatClampNeg), .ref (gB Γ + 193)] rfl (Nat.le_of_ble_eq_true rfl) hP hS hl.1 dL_law_503 h (fun u hu => m_L_team l hst Γ hfull (xs (l4 + (1 : Int32)).toNatClampNeg) (xs (l4 + (2 : Int32)).toNatClampNeg) g u hu) (fun u1 H locs h hP hS => ?_) rfl
  refine lv_topi (fun x2 ex2 => ?_)
  replace h := gLetI ex2 h
  refine lv_istore (lv' := [(5, .int x2), (0, .ref b), (1, .ref (gB Γ + 0)), (2, .ref (gB Γ + 174)), (3, .ref (gB Γ + 193)), (4, .int l4)]) hx hb dL_law_506 hl (by decide) rfl (fun ls hl => ?_)
  refine lv_aload_n hx hb dL_law_508 rfl (lv_at hl 3 rfl) ?_
  refine lv_aload_n hx hb dL_law_509 rfl (lv_at hl 1 rfl) ?_
  refine lv_iload hx hb dL_law_510 (lv_at hl 5 rfl) ?_
  refine lv_iconst (v := 1) hx hb dL_law_512 (by decide) ?_
  refine lv_iadd hx hb dL_law_513 ?_
  refine gSld' (Γ := Γ) hx hb hXs hbl hbA hS dL_law_514 h (fun h => ?_)
  refine lv_aload_n hx hb dL_law_515 rfl (lv_at hl 1 rfl) ?_
  refine lv_iload hx hb dL_law_516 (lv_at hl 5 rfl) ?_
  refine lv_iconst (v := 2) hx hb dL_law_518 (by decide) ?_
  refine lv_iadd hx hb dL_law_519 ?_
  refine gSld' (Γ := Γ) hx hb hXs hbl hbA hS dL_law_520 h (fun h => ?_)
  refine gCVi (rest := []) C0 cal_X10_team wl_L_131 wi_X10_team ws_X10_team ⟨Nat.le_of_ble_eq_true rfl, Nat.le_of_ble_eq_true rfl⟩ ⟨by rw [hr3]; omega, by rw [hr4]; omega⟩ grv_10 [.int (xs (l4 + (1 : Int32)).toNatClampNeg), .int (xs (l4 + (2 : Int32)).toNatClampNeg)] rfl (Nat.le_of_ble_eq_true rfl) hP hS hl.1 dL_law_521 h (fun u hu => m_X10_team l Γ (xs (l4 + (1 : Int32)).toNatClampNeg) (xs (l4 + (2 : Int32)).toNatClampNeg) u1.2 u hu) (fun u3 H locs h hP hS => ?_) rfl
  refine lv_topi (fun x4 ex4 => ?_)
  replace h := gLetI ex4 h
  refine lv_istore (lv' := [(6, .int x4), (5, .int x2), (0, .ref b), (1, .ref (gB Γ + 0)), (2, .ref (gB Γ + 174)), (3, .ref (gB Γ + 193)), (4, .int l4)]) hx hb dL_law_524 hl (by decide) rfl (fun ls hl => ?_)
  refine lv_aload_n hx hb dL_law_526 rfl (lv_at hl 4 rfl) ?_
  refine gCVi (rest := []) C0 cal_X10_thrown wl_L_104 wi_X10_thrown ws_X10_thrown ⟨Nat.le_of_ble_eq_true rfl, Nat.le_of_ble_eq_true rfl⟩ ⟨by rw [hr3]; omega, by rw [hr4]; omega⟩ grv_10 [] rfl (Nat.le_of_ble_eq_true rfl) hP hS hl.1 dL_law_527 h (fun u hu => m_X10_thrown l Γ u3.2 u hu) (fun u5 H locs h hP hS => ?_) rfl
  refine lv_iload hx hb dL_law_530 (lv_at hl 1 rfl) ?_
  refine lv_icmp_eq (tgt := 537) hx hb dL_law_532 (by decide) (fun c6 => ?_) (fun c6 => ?_)
  · replace h := gpos c6 h
    refine lv_iload hx hb dL_law_537 (lv_at hl 1 rfl) ?_
    refine lv_if_ne (tgt := 554) hx hb dL_law_539 (by decide) (fun c7 => ?_) (fun c7 => ?_)
    · replace h := gneg c7 h
      refine lv_goto (tgt := 1727) hx hb dL_law_554 (by decide) ?_
      obtain ⟨x8, ex8⟩ : ∃ y : Int32, y = l4 + (4 : Int32) := ⟨_, rfl⟩
      replace h := gLetI ex8 h
      refine lv_iinc (v := x8) (lv' := [(4, .int x8), (6, .int x4), (5, .int x2), (0, .ref b), (1, .ref (gB Γ + 0)), (2, .ref (gB Γ + 174)), (3, .ref (gB Γ + 193))]) hx hb dL_law_1727 hl (k := 6) rfl (by rw [ex8]; rfl) (by decide) rfl (fun ls hl => ?_)
      refine lv_goto (tgt := 23) hx hb dL_law_1730 (by decide) ?_
      refine W.widen (k := cells + 3) (n := slots + 18) (by omega) (by omega) ?_
      exact hF23 _ _ _ _ _ h hP hS (lv_sub hl [3, 4, 5, 6, 0] rfl)
    · replace h := gpos c7 h
      refine lv_aload_n hx hb dL_law_542 rfl (lv_at hl 5 rfl) ?_
      refine lv_iconst (v := 0) hx hb dL_law_543 (by decide) ?_
      refine gJld hx hb hK hP (is_193 hfull) dL_law_544 h (fun h => ?_)
      refine lv_iload hx hb dL_law_545 (lv_at hl 0 rfl) ?_
      refine lv_i2l hx hb dL_law_547 rfl ?_
      refine W.lcmp hx hb dL_law_548 ?_
      refine lv_if_eq (tgt := 554) hx hb dL_law_549 (by decide) (fun c9 => ?_) (fun c9 => ?_)
      · replace h := gpos c9 h
        refine lv_goto (tgt := 1727) hx hb dL_law_554 (by decide) ?_
        obtain ⟨x10, ex10⟩ : ∃ y : Int32, y = l4 + (4 : Int32) := ⟨_, rfl⟩
        replace h := gLetI ex10 h
        refine lv_iinc (v := x10) (lv' := [(4, .int x10), (6, .int x4), (5, .int x2), (0, .ref b), (1, .ref (gB Γ + 0)), (2, .ref (gB Γ + 174)), (3, .ref (gB Γ + 193))]) hx hb dL_law_1727 hl (k := 6) rfl (by rw [ex10]; rfl) (by decide) rfl (fun ls hl => ?_)
        refine lv_goto (tgt := 23) hx hb dL_law_1730 (by decide) ?_
        refine W.widen (k := cells + 3) (n := slots + 18) (by omega) (by omega) ?_
        exact hF23 _ _ _ _ _ h hP hS (lv_sub hl [3, 4, 5, 6, 0] rfl)
      · replace h := gneg c9 h
        refine lv_iconst (v := 0) hx hb dL_law_552 (by decide) ?_
        cases h
  · replace h := gneg c6 h
    refine lv_iconst (v := 0) hx hb dL_law_535 (by decide) ?_
    cases h
set_option maxHeartbeats 4000000 in
set_option maxRecDepth 20000 in
theorem bs_L_law_557 {p : Program} {l : Launch} (hst : l.stackTraces = false) {e : Env} {s : State} {m : MethodId} {below : List Frame} {meth : Method} {c : Code} {Γ : gE} (hfull : gFull Γ) {b L : Nat} {xs : Nat → Int32} (C0 : gCx p s m #[Value.ref b] meth c Γ RL code 7 ret) (hXs : va_X b L xs s s.heap) (hbl : b < s.heap.size) (hB : gB Γ = s.heap.size) {z : Unit} {cells slots : Nat} (hc : cells + 3 ≤ 601024) (hs : slots + 18 ≤ 7293034) {F23 : Int32 → gG → Option Unit} (hF23 : ∀ (l4 : Int32) (g : gG) (H : Heap) (locs : List Loc) (ls : Array Slot), F23 l4 g = some z → va_P (gD Γ) gcls (lay Γ g) H → va_S (gA Γ) s.heap H locs → lv_has ls 7 [(0, .ref b), (1, .ref (gB Γ + 0)), (2, .ref (gB Γ + 174)), (3, .ref (gB Γ + 193)), (4, .int l4)] → W p l e room_1 s m #[Value.ref b] below meth c H locs (cells + 3) (slots + 18) (lw_Z below #[Value.ref b] s) (F0 m 23 ls [])) {l4 : Int32} {g : gG} {H : Heap} {locs : List Loc} {ls : Array Slot} (h : fs_L_law_557 L xs F23 l4 g = some z) (hP : va_P (gD Γ) gcls (lay Γ g) H) (hS : va_S (gA Γ) s.heap H locs) (hl : lv_has ls 7 [(0, .ref b), (1, .ref (gB Γ + 0)), (2, .ref (gB Γ + 174)), (3, .ref (gB Γ + 193)), (4, .int l4)]) : W p l e room_1 s m #[Value.ref b] below meth c H locs cells slots (lw_Z below #[Value.ref b] s) (F0 m 557 ls []) := by
  unfold fs_L_law_557 at h
  obtain ⟨hx, hb, hml, hr, hown, hts, hK, hlk, hX⟩ := id C0
  have hbA : ¬ gA Γ b := by unfold gA; omega
  have hr3 : room_1.cells = 601024 := rfl
  have hr4 : room_1.slots = 7293034 := rfl
  refine lv_aload_n hx hb dL_law_557 rfl (lv_at hl 1 rfl) ?_
  refine lv_aload_n hx hb dL_law_558 rfl (lv_at hl 0 rfl) ?_
  refine lv_iload hx hb dL_law_559 (lv_at hl 4 rfl) ?_
  refine lv_iconst (v := 1) hx hb dL_law_561 (by decide) ?_
  refine lv_iadd hx hb dL_law_562 ?_
  refine gSld' (Γ := Γ) hx hb hXs hbl hbA hS dL_law_563 h (fun h => ?_)
  refine lv_aload_n hx hb dL_law_564 rfl (lv_at hl 0 rfl) ?_
  refine lv_iload hx hb dL_law_565 (lv_at hl 4 rfl) ?_
  refine lv_iconst (v := 2) hx hb dL_law_567 (by decide) ?_
  refine lv_iadd hx hb dL_law_568 ?_
  refine gSld' (Γ := Γ) hx hb hXs hbl hbA hS dL_law_569 h (fun h => ?_)
  refine lv_aload_n hx hb dL_law_570 rfl (lv_at hl 3 rfl) ?_
  refine gCH (n2 := 4) (mc2 := 2) (ms2 := 12) (rest := []) C0 wcw_L_trail wn_L (by decide +kernel) wl_L_132 wt_L_trail ⟨Nat.le_of_ble_eq_true rfl, Nat.le_of_ble_eq_true rfl⟩ ⟨by rw [hr3]; omega, by rw [hr4]; omega⟩ [.ref (gB Γ + 0), .int (xs (l4 + (1 : Int32)).toNatClampNeg), .int (xs (l4 + (2 : Int32)).toNatClampNeg), .ref (gB Γ + 193)] rfl (Nat.le_of_ble_eq_true rfl) hP hS hl.1 dL_law_571 h (fun u hu => m_L_trail l hst Γ hfull (xs (l4 + (1 : Int32)).toNatClampNeg) (xs (l4 + (2 : Int32)).toNatClampNeg) g u hu) (fun u1 H locs h hP hS => ?_) rfl
  refine lv_topi (fun x2 ex2 => ?_)
  replace h := gLetI ex2 h
  refine lv_istore (lv' := [(5, .int x2), (0, .ref b), (1, .ref (gB Γ + 0)), (2, .ref (gB Γ + 174)), (3, .ref (gB Γ + 193)), (4, .int l4)]) hx hb dL_law_574 hl (by decide) rfl (fun ls hl => ?_)
  refine lv_aload_n hx hb dL_law_576 rfl (lv_at hl 3 rfl) ?_
  refine lv_aload_n hx hb dL_law_577 rfl (lv_at hl 1 rfl) ?_
  refine lv_iload hx hb dL_law_578 (lv_at hl 5 rfl) ?_
  refine lv_iconst (v := 1) hx hb dL_law_580 (by decide) ?_
  refine lv_iadd hx hb dL_law_581 ?_
  refine gSld' (Γ := Γ) hx hb hXs hbl hbA hS dL_law_582 h (fun h => ?_)
  refine lv_aload_n hx hb dL_law_583 rfl (lv_at hl 1 rfl) ?_
  refine lv_iload hx hb dL_law_584 (lv_at hl 5 rfl) ?_
  refine lv_iconst (v := 2) hx hb dL_law_586 (by decide) ?_
  refine lv_iadd hx hb dL_law_587 ?_
  refine gSld' (Γ := Γ) hx hb hXs hbl hbA hS dL_law_588 h (fun h => ?_)
  refine gCVi (rest := []) C0 cal_X10_trail wl_L_134 wi_X10_trail ws_X10_trail ⟨Nat.le_of_ble_eq_true rfl, Nat.le_of_ble_eq_true rfl⟩ ⟨by rw [hr3]; omega, by rw [hr4]; omega⟩ grv_10 [.int (xs (l4 + (1 : Int32)).toNatClampNeg), .int (xs (l4 + (2 : Int32)).toNatClampNeg)] rfl (Nat.le_of_ble_eq_true rfl) hP hS hl.1 dL_law_589 h (fun u hu => m_X10_trail l Γ (xs (l4 + (1 : Int32)).toNatClampNeg) (xs (l4 + (2 : Int32)).toNatClampNeg) u1.2 u hu) (fun u3 H locs h hP hS => ?_) rfl
  refine lv_topi (fun x4 ex4 => ?_)
  replace h := gLetI ex4 h
  refine lv_istore (lv' := [(6, .int x4), (5, .int x2), (0, .ref b), (1, .ref (gB Γ + 0)), (2, .ref (gB Γ + 174)), (3, .ref (gB Γ + 193)), (4, .int l4)]) hx hb dL_law_592 hl (by decide) rfl (fun ls hl => ?_)
  refine lv_aload_n hx hb dL_law_594 rfl (lv_at hl 4 rfl) ?_
  refine gCVi (rest := []) C0 cal_X10_thrown wl_L_104 wi_X10_thrown ws_X10_thrown ⟨Nat.le_of_ble_eq_true rfl, Nat.le_of_ble_eq_true rfl⟩ ⟨by rw [hr3]; omega, by rw [hr4]; omega⟩ grv_10 [] rfl (Nat.le_of_ble_eq_true rfl) hP hS hl.1 dL_law_595 h (fun u hu => m_X10_thrown l Γ u3.2 u hu) (fun u5 H locs h hP hS => ?_) rfl
  refine lv_iload hx hb dL_law_598 (lv_at hl 1 rfl) ?_
  refine lv_icmp_eq (tgt := 605) hx hb dL_law_600 (by decide) (fun c6 => ?_) (fun c6 => ?_)
  · replace h := gpos c6 h
    refine lv_iload hx hb dL_law_605 (lv_at hl 1 rfl) ?_
    refine lv_if_ne (tgt := 622) hx hb dL_law_607 (by decide) (fun c7 => ?_) (fun c7 => ?_)
    · replace h := gneg c7 h
      refine lv_goto (tgt := 1727) hx hb dL_law_622 (by decide) ?_
      obtain ⟨x8, ex8⟩ : ∃ y : Int32, y = l4 + (4 : Int32) := ⟨_, rfl⟩
      replace h := gLetI ex8 h
      refine lv_iinc (v := x8) (lv' := [(4, .int x8), (6, .int x4), (5, .int x2), (0, .ref b), (1, .ref (gB Γ + 0)), (2, .ref (gB Γ + 174)), (3, .ref (gB Γ + 193))]) hx hb dL_law_1727 hl (k := 6) rfl (by rw [ex8]; rfl) (by decide) rfl (fun ls hl => ?_)
      refine lv_goto (tgt := 23) hx hb dL_law_1730 (by decide) ?_
      refine W.widen (k := cells + 3) (n := slots + 18) (by omega) (by omega) ?_
      exact hF23 _ _ _ _ _ h hP hS (lv_sub hl [3, 4, 5, 6, 0] rfl)
    · replace h := gpos c7 h
      refine lv_aload_n hx hb dL_law_610 rfl (lv_at hl 5 rfl) ?_
      refine lv_iconst (v := 0) hx hb dL_law_611 (by decide) ?_
      refine gJld hx hb hK hP (is_193 hfull) dL_law_612 h (fun h => ?_)
      refine lv_iload hx hb dL_law_613 (lv_at hl 0 rfl) ?_
      refine lv_i2l hx hb dL_law_615 rfl ?_
      refine W.lcmp hx hb dL_law_616 ?_
      refine lv_if_eq (tgt := 622) hx hb dL_law_617 (by decide) (fun c9 => ?_) (fun c9 => ?_)
      · replace h := gpos c9 h
        refine lv_goto (tgt := 1727) hx hb dL_law_622 (by decide) ?_
        obtain ⟨x10, ex10⟩ : ∃ y : Int32, y = l4 + (4 : Int32) := ⟨_, rfl⟩
        replace h := gLetI ex10 h
        refine lv_iinc (v := x10) (lv' := [(4, .int x10), (6, .int x4), (5, .int x2), (0, .ref b), (1, .ref (gB Γ + 0)), (2, .ref (gB Γ + 174)), (3, .ref (gB Γ + 193))]) hx hb dL_law_1727 hl (k := 6) rfl (by rw [ex10]; rfl) (by decide) rfl (fun ls hl => ?_)
        refine lv_goto (tgt := 23) hx hb dL_law_1730 (by decide) ?_
        refine W.widen (k := cells + 3) (n := slots + 18) (by omega) (by omega) ?_
        exact hF23 _ _ _ _ _ h hP hS (lv_sub hl [3, 4, 5, 6, 0] rfl)
      · replace h := gneg c9 h
        refine lv_iconst (v := 0) hx hb dL_law_620 (by decide) ?_
        cases h
  · replace h := gneg c6 h
    refine lv_iconst (v := 0) hx hb dL_law_603 (by decide) ?_
    cases h
set_option maxHeartbeats 4000000 in
set_option maxRecDepth 20000 in
theorem bs_L_law_625 {p : Program} {l : Launch} (hst : l.stackTraces = false) {e : Env} {s : State} {m : MethodId} {below : List Frame} {meth : Method} {c : Code} {Γ : gE} (hfull : gFull Γ) {b L : Nat} {xs : Nat → Int32} (C0 : gCx p s m #[Value.ref b] meth c Γ RL code 7 ret) (hXs : va_X b L xs s s.heap) (hbl : b < s.heap.size) (hB : gB Γ = s.heap.size) {z : Unit} {cells slots : Nat} (hc : cells + 3 ≤ 601024) (hs : slots + 18 ≤ 7293034) {F23 : Int32 → gG → Option Unit} (hF23 : ∀ (l4 : Int32) (g : gG) (H : Heap) (locs : List Loc) (ls : Array Slot), F23 l4 g = some z → va_P (gD Γ) gcls (lay Γ g) H → va_S (gA Γ) s.heap H locs → lv_has ls 7 [(0, .ref b), (1, .ref (gB Γ + 0)), (2, .ref (gB Γ + 174)), (3, .ref (gB Γ + 193)), (4, .int l4)] → W p l e room_1 s m #[Value.ref b] below meth c H locs (cells + 3) (slots + 18) (lw_Z below #[Value.ref b] s) (F0 m 23 ls [])) {l4 : Int32} {g : gG} {H : Heap} {locs : List Loc} {ls : Array Slot} (h : fs_L_law_625 L xs F23 l4 g = some z) (hP : va_P (gD Γ) gcls (lay Γ g) H) (hS : va_S (gA Γ) s.heap H locs) (hl : lv_has ls 7 [(0, .ref b), (1, .ref (gB Γ + 0)), (2, .ref (gB Γ + 174)), (3, .ref (gB Γ + 193)), (4, .int l4)]) : W p l e room_1 s m #[Value.ref b] below meth c H locs cells slots (lw_Z below #[Value.ref b] s) (F0 m 625 ls []) := by
  unfold fs_L_law_625 at h
  obtain ⟨hx, hb, hml, hr, hown, hts, hK, hlk, hX⟩ := id C0
  have hbA : ¬ gA Γ b := by unfold gA; omega
  have hr3 : room_1.cells = 601024 := rfl
  have hr4 : room_1.slots = 7293034 := rfl
  refine lv_aload_n hx hb dL_law_625 rfl (lv_at hl 1 rfl) ?_
  refine lv_aload_n hx hb dL_law_626 rfl (lv_at hl 0 rfl) ?_
  refine lv_iload hx hb dL_law_627 (lv_at hl 4 rfl) ?_
  refine lv_iconst (v := 1) hx hb dL_law_629 (by decide) ?_
  refine lv_iadd hx hb dL_law_630 ?_
  refine gSld' (Γ := Γ) hx hb hXs hbl hbA hS dL_law_631 h (fun h => ?_)
  refine lv_aload_n hx hb dL_law_632 rfl (lv_at hl 3 rfl) ?_
  refine gCH (n2 := 3) (mc2 := 1) (ms2 := 6) (rest := []) C0 wcw_L_open wn_L (by decide +kernel) wl_L_135 wt_L_open ⟨Nat.le_of_ble_eq_true rfl, Nat.le_of_ble_eq_true rfl⟩ ⟨by rw [hr3]; omega, by rw [hr4]; omega⟩ [.ref (gB Γ + 0), .int (xs (l4 + (1 : Int32)).toNatClampNeg), .ref (gB Γ + 193)] rfl (Nat.le_of_ble_eq_true rfl) hP hS hl.1 dL_law_633 h (fun u hu => m_L_open l hst Γ hfull (xs (l4 + (1 : Int32)).toNatClampNeg) g u hu) (fun u1 H locs h hP hS => ?_) rfl
  refine lv_topi (fun x2 ex2 => ?_)
  replace h := gLetI ex2 h
  refine lv_istore (lv' := [(5, .int x2), (0, .ref b), (1, .ref (gB Γ + 0)), (2, .ref (gB Γ + 174)), (3, .ref (gB Γ + 193)), (4, .int l4)]) hx hb dL_law_636 hl (by decide) rfl (fun ls hl => ?_)
  refine lv_aload_n hx hb dL_law_638 rfl (lv_at hl 3 rfl) ?_
  refine lv_aload_n hx hb dL_law_639 rfl (lv_at hl 1 rfl) ?_
  refine lv_iload hx hb dL_law_640 (lv_at hl 5 rfl) ?_
  refine lv_iconst (v := 1) hx hb dL_law_642 (by decide) ?_
  refine lv_iadd hx hb dL_law_643 ?_
  refine gSld' (Γ := Γ) hx hb hXs hbl hbA hS dL_law_644 h (fun h => ?_)
  refine gCVi (rest := []) C0 cal_X10_open wl_L_137 wi_X10_open ws_X10_open ⟨Nat.le_of_ble_eq_true rfl, Nat.le_of_ble_eq_true rfl⟩ ⟨by rw [hr3]; omega, by rw [hr4]; omega⟩ grv_10 [.int (xs (l4 + (1 : Int32)).toNatClampNeg)] rfl (Nat.le_of_ble_eq_true rfl) hP hS hl.1 dL_law_645 h (fun u hu => m_X10_open l Γ (xs (l4 + (1 : Int32)).toNatClampNeg) u1.2 u hu) (fun u3 H locs h hP hS => ?_) rfl
  refine lv_topi (fun x4 ex4 => ?_)
  replace h := gLetI ex4 h
  refine lv_istore (lv' := [(6, .int x4), (5, .int x2), (0, .ref b), (1, .ref (gB Γ + 0)), (2, .ref (gB Γ + 174)), (3, .ref (gB Γ + 193)), (4, .int l4)]) hx hb dL_law_648 hl (by decide) rfl (fun ls hl => ?_)
  refine lv_aload_n hx hb dL_law_650 rfl (lv_at hl 4 rfl) ?_
  refine gCVi (rest := []) C0 cal_X10_thrown wl_L_104 wi_X10_thrown ws_X10_thrown ⟨Nat.le_of_ble_eq_true rfl, Nat.le_of_ble_eq_true rfl⟩ ⟨by rw [hr3]; omega, by rw [hr4]; omega⟩ grv_10 [] rfl (Nat.le_of_ble_eq_true rfl) hP hS hl.1 dL_law_651 h (fun u hu => m_X10_thrown l Γ u3.2 u hu) (fun u5 H locs h hP hS => ?_) rfl
  refine lv_iload hx hb dL_law_654 (lv_at hl 1 rfl) ?_
  refine lv_icmp_eq (tgt := 661) hx hb dL_law_656 (by decide) (fun c6 => ?_) (fun c6 => ?_)
  · replace h := gpos c6 h
    refine lv_iload hx hb dL_law_661 (lv_at hl 1 rfl) ?_
    refine lv_if_ne (tgt := 678) hx hb dL_law_663 (by decide) (fun c7 => ?_) (fun c7 => ?_)
    · replace h := gneg c7 h
      refine lv_goto (tgt := 1727) hx hb dL_law_678 (by decide) ?_
      obtain ⟨x8, ex8⟩ : ∃ y : Int32, y = l4 + (4 : Int32) := ⟨_, rfl⟩
      replace h := gLetI ex8 h
      refine lv_iinc (v := x8) (lv' := [(4, .int x8), (6, .int x4), (5, .int x2), (0, .ref b), (1, .ref (gB Γ + 0)), (2, .ref (gB Γ + 174)), (3, .ref (gB Γ + 193))]) hx hb dL_law_1727 hl (k := 6) rfl (by rw [ex8]; rfl) (by decide) rfl (fun ls hl => ?_)
      refine lv_goto (tgt := 23) hx hb dL_law_1730 (by decide) ?_
      refine W.widen (k := cells + 3) (n := slots + 18) (by omega) (by omega) ?_
      exact hF23 _ _ _ _ _ h hP hS (lv_sub hl [3, 4, 5, 6, 0] rfl)
    · replace h := gpos c7 h
      refine lv_aload_n hx hb dL_law_666 rfl (lv_at hl 5 rfl) ?_
      refine lv_iconst (v := 0) hx hb dL_law_667 (by decide) ?_
      refine gJld hx hb hK hP (is_193 hfull) dL_law_668 h (fun h => ?_)
      refine lv_iload hx hb dL_law_669 (lv_at hl 0 rfl) ?_
      refine lv_i2l hx hb dL_law_671 rfl ?_
      refine W.lcmp hx hb dL_law_672 ?_
      refine lv_if_eq (tgt := 678) hx hb dL_law_673 (by decide) (fun c9 => ?_) (fun c9 => ?_)
      · replace h := gpos c9 h
        refine lv_goto (tgt := 1727) hx hb dL_law_678 (by decide) ?_
        obtain ⟨x10, ex10⟩ : ∃ y : Int32, y = l4 + (4 : Int32) := ⟨_, rfl⟩
        replace h := gLetI ex10 h
        refine lv_iinc (v := x10) (lv' := [(4, .int x10), (6, .int x4), (5, .int x2), (0, .ref b), (1, .ref (gB Γ + 0)), (2, .ref (gB Γ + 174)), (3, .ref (gB Γ + 193))]) hx hb dL_law_1727 hl (k := 6) rfl (by rw [ex10]; rfl) (by decide) rfl (fun ls hl => ?_)
        refine lv_goto (tgt := 23) hx hb dL_law_1730 (by decide) ?_
        refine W.widen (k := cells + 3) (n := slots + 18) (by omega) (by omega) ?_
        exact hF23 _ _ _ _ _ h hP hS (lv_sub hl [3, 4, 5, 6, 0] rfl)
      · replace h := gneg c9 h
        refine lv_iconst (v := 0) hx hb dL_law_676 (by decide) ?_
        cases h
  · replace h := gneg c6 h
    refine lv_iconst (v := 0) hx hb dL_law_659 (by decide) ?_
    cases h
set_option maxHeartbeats 4000000 in
set_option maxRecDepth 20000 in
theorem bs_L_law_681 {p : Program} {l : Launch} (hst : l.stackTraces = false) {e : Env} {s : State} {m : MethodId} {below : List Frame} {meth : Method} {c : Code} {Γ : gE} (hfull : gFull Γ) {b L : Nat} {xs : Nat → Int32} (C0 : gCx p s m #[Value.ref b] meth c Γ RL code 7 ret) (hXs : va_X b L xs s s.heap) (hbl : b < s.heap.size) (hB : gB Γ = s.heap.size) {z : Unit} {cells slots : Nat} (hc : cells + 3 ≤ 601024) (hs : slots + 18 ≤ 7293034) {F23 : Int32 → gG → Option Unit} (hF23 : ∀ (l4 : Int32) (g : gG) (H : Heap) (locs : List Loc) (ls : Array Slot), F23 l4 g = some z → va_P (gD Γ) gcls (lay Γ g) H → va_S (gA Γ) s.heap H locs → lv_has ls 7 [(0, .ref b), (1, .ref (gB Γ + 0)), (2, .ref (gB Γ + 174)), (3, .ref (gB Γ + 193)), (4, .int l4)] → W p l e room_1 s m #[Value.ref b] below meth c H locs (cells + 3) (slots + 18) (lw_Z below #[Value.ref b] s) (F0 m 23 ls [])) {l4 : Int32} {g : gG} {H : Heap} {locs : List Loc} {ls : Array Slot} (h : fs_L_law_681 L xs F23 l4 g = some z) (hP : va_P (gD Γ) gcls (lay Γ g) H) (hS : va_S (gA Γ) s.heap H locs) (hl : lv_has ls 7 [(0, .ref b), (1, .ref (gB Γ + 0)), (2, .ref (gB Γ + 174)), (3, .ref (gB Γ + 193)), (4, .int l4)]) : W p l e room_1 s m #[Value.ref b] below meth c H locs cells slots (lw_Z below #[Value.ref b] s) (F0 m 681 ls []) := by
  unfold fs_L_law_681 at h
  obtain ⟨hx, hb, hml, hr, hown, hts, hK, hlk, hX⟩ := id C0
  have hbA : ¬ gA Γ b := by unfold gA; omega
  have hr3 : room_1.cells = 601024 := rfl
  have hr4 : room_1.slots = 7293034 := rfl
  refine lv_aload_n hx hb dL_law_681 rfl (lv_at hl 1 rfl) ?_
  refine lv_aload_n hx hb dL_law_682 rfl (lv_at hl 3 rfl) ?_
  refine gCH (n2 := 2) (mc2 := 1) (ms2 := 6) (rest := []) C0 wcw_L_addTeam wn_L (by decide +kernel) wl_L_138 wt_L_addTeam ⟨Nat.le_of_ble_eq_true rfl, Nat.le_of_ble_eq_true rfl⟩ ⟨by rw [hr3]; omega, by rw [hr4]; omega⟩ [.ref (gB Γ + 0), .ref (gB Γ + 193)] rfl (Nat.le_of_ble_eq_true rfl) hP hS hl.1 dL_law_683 h (fun u hu => m_L_addTeam l hst Γ hfull g u hu) (fun u1 H locs h hP hS => ?_) rfl
  refine lv_topi (fun x2 ex2 => ?_)
  replace h := gLetI ex2 h
  refine lv_istore (lv' := [(5, .int x2), (0, .ref b), (1, .ref (gB Γ + 0)), (2, .ref (gB Γ + 174)), (3, .ref (gB Γ + 193)), (4, .int l4)]) hx hb dL_law_686 hl (by decide) rfl (fun ls hl => ?_)
  refine lv_aload_n hx hb dL_law_688 rfl (lv_at hl 3 rfl) ?_
  refine gCVi (rest := []) C0 cal_X10_addTeam wl_L_140 wi_X10_addTeam ws_X10_addTeam ⟨Nat.le_of_ble_eq_true rfl, Nat.le_of_ble_eq_true rfl⟩ ⟨by rw [hr3]; omega, by rw [hr4]; omega⟩ grv_10 [] rfl (Nat.le_of_ble_eq_true rfl) hP hS hl.1 dL_law_689 h (fun u hu => m_X10_addTeam l Γ u1.2 u hu) (fun u3 H locs h hP hS => ?_) rfl
  refine lv_topi (fun x4 ex4 => ?_)
  replace h := gLetI ex4 h
  refine lv_istore (lv' := [(6, .int x4), (5, .int x2), (0, .ref b), (1, .ref (gB Γ + 0)), (2, .ref (gB Γ + 174)), (3, .ref (gB Γ + 193)), (4, .int l4)]) hx hb dL_law_692 hl (by decide) rfl (fun ls hl => ?_)
  refine lv_aload_n hx hb dL_law_694 rfl (lv_at hl 4 rfl) ?_
  refine gCVi (rest := []) C0 cal_X10_thrown wl_L_104 wi_X10_thrown ws_X10_thrown ⟨Nat.le_of_ble_eq_true rfl, Nat.le_of_ble_eq_true rfl⟩ ⟨by rw [hr3]; omega, by rw [hr4]; omega⟩ grv_10 [] rfl (Nat.le_of_ble_eq_true rfl) hP hS hl.1 dL_law_695 h (fun u hu => m_X10_thrown l Γ u3.2 u hu) (fun u5 H locs h hP hS => ?_) rfl
  refine lv_iload hx hb dL_law_698 (lv_at hl 1 rfl) ?_
  refine lv_icmp_eq (tgt := 705) hx hb dL_law_700 (by decide) (fun c6 => ?_) (fun c6 => ?_)
  · replace h := gpos c6 h
    refine lv_iload hx hb dL_law_705 (lv_at hl 1 rfl) ?_
    refine lv_if_ne (tgt := 722) hx hb dL_law_707 (by decide) (fun c7 => ?_) (fun c7 => ?_)
    · replace h := gneg c7 h
      refine lv_goto (tgt := 1727) hx hb dL_law_722 (by decide) ?_
      obtain ⟨x8, ex8⟩ : ∃ y : Int32, y = l4 + (4 : Int32) := ⟨_, rfl⟩
      replace h := gLetI ex8 h
      refine lv_iinc (v := x8) (lv' := [(4, .int x8), (6, .int x4), (5, .int x2), (0, .ref b), (1, .ref (gB Γ + 0)), (2, .ref (gB Γ + 174)), (3, .ref (gB Γ + 193))]) hx hb dL_law_1727 hl (k := 6) rfl (by rw [ex8]; rfl) (by decide) rfl (fun ls hl => ?_)
      refine lv_goto (tgt := 23) hx hb dL_law_1730 (by decide) ?_
      refine W.widen (k := cells + 3) (n := slots + 18) (by omega) (by omega) ?_
      exact hF23 _ _ _ _ _ h hP hS (lv_sub hl [3, 4, 5, 6, 0] rfl)
    · replace h := gpos c7 h
      refine lv_aload_n hx hb dL_law_710 rfl (lv_at hl 5 rfl) ?_
      refine lv_iconst (v := 0) hx hb dL_law_711 (by decide) ?_
      refine gJld hx hb hK hP (is_193 hfull) dL_law_712 h (fun h => ?_)
      refine lv_iload hx hb dL_law_713 (lv_at hl 0 rfl) ?_
      refine lv_i2l hx hb dL_law_715 rfl ?_
      refine W.lcmp hx hb dL_law_716 ?_
      refine lv_if_eq (tgt := 722) hx hb dL_law_717 (by decide) (fun c9 => ?_) (fun c9 => ?_)
      · replace h := gpos c9 h
        refine lv_goto (tgt := 1727) hx hb dL_law_722 (by decide) ?_
        obtain ⟨x10, ex10⟩ : ∃ y : Int32, y = l4 + (4 : Int32) := ⟨_, rfl⟩
        replace h := gLetI ex10 h
        refine lv_iinc (v := x10) (lv' := [(4, .int x10), (6, .int x4), (5, .int x2), (0, .ref b), (1, .ref (gB Γ + 0)), (2, .ref (gB Γ + 174)), (3, .ref (gB Γ + 193))]) hx hb dL_law_1727 hl (k := 6) rfl (by rw [ex10]; rfl) (by decide) rfl (fun ls hl => ?_)
        refine lv_goto (tgt := 23) hx hb dL_law_1730 (by decide) ?_
        refine W.widen (k := cells + 3) (n := slots + 18) (by omega) (by omega) ?_
        exact hF23 _ _ _ _ _ h hP hS (lv_sub hl [3, 4, 5, 6, 0] rfl)
      · replace h := gneg c9 h
        refine lv_iconst (v := 0) hx hb dL_law_720 (by decide) ?_
        cases h
  · replace h := gneg c6 h
    refine lv_iconst (v := 0) hx hb dL_law_703 (by decide) ?_
    cases h
set_option maxHeartbeats 4000000 in
set_option maxRecDepth 20000 in
theorem bs_L_law_725 {p : Program} {l : Launch} (hst : l.stackTraces = false) {e : Env} {s : State} {m : MethodId} {below : List Frame} {meth : Method} {c : Code} {Γ : gE} (hfull : gFull Γ) {b L : Nat} {xs : Nat → Int32} (C0 : gCx p s m #[Value.ref b] meth c Γ RL code 7 ret) (hXs : va_X b L xs s s.heap) (hbl : b < s.heap.size) (hB : gB Γ = s.heap.size) {z : Unit} {cells slots : Nat} (hc : cells + 3 ≤ 601024) (hs : slots + 18 ≤ 7293034) {F23 : Int32 → gG → Option Unit} (hF23 : ∀ (l4 : Int32) (g : gG) (H : Heap) (locs : List Loc) (ls : Array Slot), F23 l4 g = some z → va_P (gD Γ) gcls (lay Γ g) H → va_S (gA Γ) s.heap H locs → lv_has ls 7 [(0, .ref b), (1, .ref (gB Γ + 0)), (2, .ref (gB Γ + 174)), (3, .ref (gB Γ + 193)), (4, .int l4)] → W p l e room_1 s m #[Value.ref b] below meth c H locs (cells + 3) (slots + 18) (lw_Z below #[Value.ref b] s) (F0 m 23 ls [])) {l4 : Int32} {g : gG} {H : Heap} {locs : List Loc} {ls : Array Slot} (h : fs_L_law_725 L xs F23 l4 g = some z) (hP : va_P (gD Γ) gcls (lay Γ g) H) (hS : va_S (gA Γ) s.heap H locs) (hl : lv_has ls 7 [(0, .ref b), (1, .ref (gB Γ + 0)), (2, .ref (gB Γ + 174)), (3, .ref (gB Γ + 193)), (4, .int l4)]) : W p l e room_1 s m #[Value.ref b] below meth c H locs cells slots (lw_Z below #[Value.ref b] s) (F0 m 725 ls []) := by
  unfold fs_L_law_725 at h
  obtain ⟨hx, hb, hml, hr, hown, hts, hK, hlk, hX⟩ := id C0
  have hbA : ¬ gA Γ b := by unfold gA; omega
  have hr3 : room_1.cells = 601024 := rfl
  have hr4 : room_1.slots = 7293034 := rfl
  refine lv_aload_n hx hb dL_law_725 rfl (lv_at hl 1 rfl) ?_
  refine lv_aload_n hx hb dL_law_726 rfl (lv_at hl 0 rfl) ?_
  refine lv_iload hx hb dL_law_727 (lv_at hl 4 rfl) ?_
  refine lv_iconst (v := 1) hx hb dL_law_729 (by decide) ?_
  refine lv_iadd hx hb dL_law_730 ?_
  refine gSld' (Γ := Γ) hx hb hXs hbl hbA hS dL_law_731 h (fun h => ?_)
  refine lv_aload_n hx hb dL_law_732 rfl (lv_at hl 0 rfl) ?_
  refine lv_iload hx hb dL_law_733 (lv_at hl 4 rfl) ?_
  refine lv_iconst (v := 2) hx hb dL_law_735 (by decide) ?_
  refine lv_iadd hx hb dL_law_736 ?_
  refine gSld' (Γ := Γ) hx hb hXs hbl hbA hS dL_law_737 h (fun h => ?_)
  refine lv_aload_n hx hb dL_law_738 rfl (lv_at hl 3 rfl) ?_
  refine gCH (n2 := 4) (mc2 := 3) (ms2 := 18) (rest := []) C0 wcw_L_go wn_L (by decide +kernel) wl_L_141 wt_L_go ⟨Nat.le_of_ble_eq_true rfl, Nat.le_of_ble_eq_true rfl⟩ ⟨by rw [hr3]; omega, by rw [hr4]; omega⟩ [.ref (gB Γ + 0), .int (xs (l4 + (1 : Int32)).toNatClampNeg), .int (xs (l4 + (2 : Int32)).toNatClampNeg), .ref (gB Γ + 193)] rfl (Nat.le_of_ble_eq_true rfl) hP hS hl.1 dL_law_739 h (fun u hu => m_L_go l hst Γ hfull (xs (l4 + (1 : Int32)).toNatClampNeg) (xs (l4 + (2 : Int32)).toNatClampNeg) g u hu) (fun u1 H locs h hP hS => ?_) rfl
  refine lv_topi (fun x2 ex2 => ?_)
  replace h := gLetI ex2 h
  refine lv_istore (lv' := [(5, .int x2), (0, .ref b), (1, .ref (gB Γ + 0)), (2, .ref (gB Γ + 174)), (3, .ref (gB Γ + 193)), (4, .int l4)]) hx hb dL_law_742 hl (by decide) rfl (fun ls hl => ?_)
  refine lv_aload_n hx hb dL_law_744 rfl (lv_at hl 3 rfl) ?_
  refine lv_aload_n hx hb dL_law_745 rfl (lv_at hl 1 rfl) ?_
  refine lv_iload hx hb dL_law_746 (lv_at hl 5 rfl) ?_
  refine lv_iconst (v := 1) hx hb dL_law_748 (by decide) ?_
  refine lv_iadd hx hb dL_law_749 ?_
  refine gSld' (Γ := Γ) hx hb hXs hbl hbA hS dL_law_750 h (fun h => ?_)
  refine lv_aload_n hx hb dL_law_751 rfl (lv_at hl 1 rfl) ?_
  refine lv_iload hx hb dL_law_752 (lv_at hl 5 rfl) ?_
  refine lv_iconst (v := 2) hx hb dL_law_754 (by decide) ?_
  refine lv_iadd hx hb dL_law_755 ?_
  refine gSld' (Γ := Γ) hx hb hXs hbl hbA hS dL_law_756 h (fun h => ?_)
  refine gCVi (rest := []) C0 cal_X10_go wl_L_143 wi_X10_go ws_X10_go ⟨Nat.le_of_ble_eq_true rfl, Nat.le_of_ble_eq_true rfl⟩ ⟨by rw [hr3]; omega, by rw [hr4]; omega⟩ grv_10 [.int (xs (l4 + (1 : Int32)).toNatClampNeg), .int (xs (l4 + (2 : Int32)).toNatClampNeg)] rfl (Nat.le_of_ble_eq_true rfl) hP hS hl.1 dL_law_757 h (fun u hu => m_X10_go l Γ (xs (l4 + (1 : Int32)).toNatClampNeg) (xs (l4 + (2 : Int32)).toNatClampNeg) u1.2 u hu) (fun u3 H locs h hP hS => ?_) rfl
  refine lv_topi (fun x4 ex4 => ?_)
  replace h := gLetI ex4 h
  refine lv_istore (lv' := [(6, .int x4), (5, .int x2), (0, .ref b), (1, .ref (gB Γ + 0)), (2, .ref (gB Γ + 174)), (3, .ref (gB Γ + 193)), (4, .int l4)]) hx hb dL_law_760 hl (by decide) rfl (fun ls hl => ?_)
  refine lv_aload_n hx hb dL_law_762 rfl (lv_at hl 4 rfl) ?_
  refine gCVi (rest := []) C0 cal_X10_thrown wl_L_104 wi_X10_thrown ws_X10_thrown ⟨Nat.le_of_ble_eq_true rfl, Nat.le_of_ble_eq_true rfl⟩ ⟨by rw [hr3]; omega, by rw [hr4]; omega⟩ grv_10 [] rfl (Nat.le_of_ble_eq_true rfl) hP hS hl.1 dL_law_763 h (fun u hu => m_X10_thrown l Γ u3.2 u hu) (fun u5 H locs h hP hS => ?_) rfl
  refine lv_iload hx hb dL_law_766 (lv_at hl 1 rfl) ?_
  refine lv_icmp_eq (tgt := 773) hx hb dL_law_768 (by decide) (fun c6 => ?_) (fun c6 => ?_)
  · replace h := gpos c6 h
    refine lv_iload hx hb dL_law_773 (lv_at hl 1 rfl) ?_
    refine lv_if_ne (tgt := 790) hx hb dL_law_775 (by decide) (fun c7 => ?_) (fun c7 => ?_)
    · replace h := gneg c7 h
      refine lv_goto (tgt := 1727) hx hb dL_law_790 (by decide) ?_
      obtain ⟨x8, ex8⟩ : ∃ y : Int32, y = l4 + (4 : Int32) := ⟨_, rfl⟩
      replace h := gLetI ex8 h
      refine lv_iinc (v := x8) (lv' := [(4, .int x8), (6, .int x4), (5, .int x2), (0, .ref b), (1, .ref (gB Γ + 0)), (2, .ref (gB Γ + 174)), (3, .ref (gB Γ + 193))]) hx hb dL_law_1727 hl (k := 6) rfl (by rw [ex8]; rfl) (by decide) rfl (fun ls hl => ?_)
      refine lv_goto (tgt := 23) hx hb dL_law_1730 (by decide) ?_
      refine W.widen (k := cells + 3) (n := slots + 18) (by omega) (by omega) ?_
      exact hF23 _ _ _ _ _ h hP hS (lv_sub hl [3, 4, 5, 6, 0] rfl)
    · replace h := gpos c7 h
      refine lv_aload_n hx hb dL_law_778 rfl (lv_at hl 5 rfl) ?_
      refine lv_iconst (v := 0) hx hb dL_law_779 (by decide) ?_
      refine gJld hx hb hK hP (is_193 hfull) dL_law_780 h (fun h => ?_)
      refine lv_iload hx hb dL_law_781 (lv_at hl 0 rfl) ?_
      refine lv_i2l hx hb dL_law_783 rfl ?_
      refine W.lcmp hx hb dL_law_784 ?_
      refine lv_if_eq (tgt := 790) hx hb dL_law_785 (by decide) (fun c9 => ?_) (fun c9 => ?_)
      · replace h := gpos c9 h
        refine lv_goto (tgt := 1727) hx hb dL_law_790 (by decide) ?_
        obtain ⟨x10, ex10⟩ : ∃ y : Int32, y = l4 + (4 : Int32) := ⟨_, rfl⟩
        replace h := gLetI ex10 h
        refine lv_iinc (v := x10) (lv' := [(4, .int x10), (6, .int x4), (5, .int x2), (0, .ref b), (1, .ref (gB Γ + 0)), (2, .ref (gB Γ + 174)), (3, .ref (gB Γ + 193))]) hx hb dL_law_1727 hl (k := 6) rfl (by rw [ex10]; rfl) (by decide) rfl (fun ls hl => ?_)
        refine lv_goto (tgt := 23) hx hb dL_law_1730 (by decide) ?_
        refine W.widen (k := cells + 3) (n := slots + 18) (by omega) (by omega) ?_
        exact hF23 _ _ _ _ _ h hP hS (lv_sub hl [3, 4, 5, 6, 0] rfl)
      · replace h := gneg c9 h
        refine lv_iconst (v := 0) hx hb dL_law_788 (by decide) ?_
        cases h
  · replace h := gneg c6 h
    refine lv_iconst (v := 0) hx hb dL_law_771 (by decide) ?_
    cases h
set_option maxHeartbeats 4000000 in
set_option maxRecDepth 20000 in
theorem bs_L_law_793 {p : Program} {l : Launch} (hst : l.stackTraces = false) {e : Env} {s : State} {m : MethodId} {below : List Frame} {meth : Method} {c : Code} {Γ : gE} (hfull : gFull Γ) {b L : Nat} {xs : Nat → Int32} (C0 : gCx p s m #[Value.ref b] meth c Γ RL code 7 ret) (hXs : va_X b L xs s s.heap) (hbl : b < s.heap.size) (hB : gB Γ = s.heap.size) {z : Unit} {cells slots : Nat} (hc : cells + 3 ≤ 601024) (hs : slots + 18 ≤ 7293034) {F23 : Int32 → gG → Option Unit} (hF23 : ∀ (l4 : Int32) (g : gG) (H : Heap) (locs : List Loc) (ls : Array Slot), F23 l4 g = some z → va_P (gD Γ) gcls (lay Γ g) H → va_S (gA Γ) s.heap H locs → lv_has ls 7 [(0, .ref b), (1, .ref (gB Γ + 0)), (2, .ref (gB Γ + 174)), (3, .ref (gB Γ + 193)), (4, .int l4)] → W p l e room_1 s m #[Value.ref b] below meth c H locs (cells + 3) (slots + 18) (lw_Z below #[Value.ref b] s) (F0 m 23 ls [])) {l4 : Int32} {g : gG} {H : Heap} {locs : List Loc} {ls : Array Slot} (h : fs_L_law_793 L xs F23 l4 g = some z) (hP : va_P (gD Γ) gcls (lay Γ g) H) (hS : va_S (gA Γ) s.heap H locs) (hl : lv_has ls 7 [(0, .ref b), (1, .ref (gB Γ + 0)), (2, .ref (gB Γ + 174)), (3, .ref (gB Γ + 193)), (4, .int l4)]) : W p l e room_1 s m #[Value.ref b] below meth c H locs cells slots (lw_Z below #[Value.ref b] s) (F0 m 793 ls []) := by
  unfold fs_L_law_793 at h
  obtain ⟨hx, hb, hml, hr, hown, hts, hK, hlk, hX⟩ := id C0
  have hbA : ¬ gA Γ b := by unfold gA; omega
  have hr3 : room_1.cells = 601024 := rfl
  have hr4 : room_1.slots = 7293034 := rfl
  refine lv_aload_n hx hb dL_law_793 rfl (lv_at hl 1 rfl) ?_
  refine lv_aload_n hx hb dL_law_794 rfl (lv_at hl 0 rfl) ?_
  refine lv_iload hx hb dL_law_795 (lv_at hl 4 rfl) ?_
  refine lv_iconst (v := 1) hx hb dL_law_797 (by decide) ?_
  refine lv_iadd hx hb dL_law_798 ?_
  refine gSld' (Γ := Γ) hx hb hXs hbl hbA hS dL_law_799 h (fun h => ?_)
  refine lv_aload_n hx hb dL_law_800 rfl (lv_at hl 3 rfl) ?_
  refine gCH (n2 := 3) (mc2 := 2) (ms2 := 12) (rest := []) C0 wcw_L_hint wn_L (by decide +kernel) wl_L_144 wt_L_hint ⟨Nat.le_of_ble_eq_true rfl, Nat.le_of_ble_eq_true rfl⟩ ⟨by rw [hr3]; omega, by rw [hr4]; omega⟩ [.ref (gB Γ + 0), .int (xs (l4 + (1 : Int32)).toNatClampNeg), .ref (gB Γ + 193)] rfl (Nat.le_of_ble_eq_true rfl) hP hS hl.1 dL_law_801 h (fun u hu => m_L_hint l hst Γ hfull (xs (l4 + (1 : Int32)).toNatClampNeg) g u hu) (fun u1 H locs h hP hS => ?_) rfl
  refine lv_topi (fun x2 ex2 => ?_)
  replace h := gLetI ex2 h
  refine lv_istore (lv' := [(5, .int x2), (0, .ref b), (1, .ref (gB Γ + 0)), (2, .ref (gB Γ + 174)), (3, .ref (gB Γ + 193)), (4, .int l4)]) hx hb dL_law_804 hl (by decide) rfl (fun ls hl => ?_)
  refine lv_aload_n hx hb dL_law_806 rfl (lv_at hl 3 rfl) ?_
  refine lv_aload_n hx hb dL_law_807 rfl (lv_at hl 1 rfl) ?_
  refine lv_iload hx hb dL_law_808 (lv_at hl 5 rfl) ?_
  refine lv_iconst (v := 1) hx hb dL_law_810 (by decide) ?_
  refine lv_iadd hx hb dL_law_811 ?_
  refine gSld' (Γ := Γ) hx hb hXs hbl hbA hS dL_law_812 h (fun h => ?_)
  refine gCVi (rest := []) C0 cal_X10_hint wl_L_146 wi_X10_hint ws_X10_hint ⟨Nat.le_of_ble_eq_true rfl, Nat.le_of_ble_eq_true rfl⟩ ⟨by rw [hr3]; omega, by rw [hr4]; omega⟩ grv_10 [.int (xs (l4 + (1 : Int32)).toNatClampNeg)] rfl (Nat.le_of_ble_eq_true rfl) hP hS hl.1 dL_law_813 h (fun u hu => m_X10_hint l Γ (xs (l4 + (1 : Int32)).toNatClampNeg) u1.2 u hu) (fun u3 H locs h hP hS => ?_) rfl
  refine lv_topi (fun x4 ex4 => ?_)
  replace h := gLetI ex4 h
  refine lv_istore (lv' := [(6, .int x4), (5, .int x2), (0, .ref b), (1, .ref (gB Γ + 0)), (2, .ref (gB Γ + 174)), (3, .ref (gB Γ + 193)), (4, .int l4)]) hx hb dL_law_816 hl (by decide) rfl (fun ls hl => ?_)
  refine lv_aload_n hx hb dL_law_818 rfl (lv_at hl 4 rfl) ?_
  refine gCVi (rest := []) C0 cal_X10_thrown wl_L_104 wi_X10_thrown ws_X10_thrown ⟨Nat.le_of_ble_eq_true rfl, Nat.le_of_ble_eq_true rfl⟩ ⟨by rw [hr3]; omega, by rw [hr4]; omega⟩ grv_10 [] rfl (Nat.le_of_ble_eq_true rfl) hP hS hl.1 dL_law_819 h (fun u hu => m_X10_thrown l Γ u3.2 u hu) (fun u5 H locs h hP hS => ?_) rfl
  refine lv_iload hx hb dL_law_822 (lv_at hl 1 rfl) ?_
  refine lv_icmp_eq (tgt := 829) hx hb dL_law_824 (by decide) (fun c6 => ?_) (fun c6 => ?_)
  · replace h := gpos c6 h
    refine lv_iload hx hb dL_law_829 (lv_at hl 1 rfl) ?_
    refine lv_if_ne (tgt := 846) hx hb dL_law_831 (by decide) (fun c7 => ?_) (fun c7 => ?_)
    · replace h := gneg c7 h
      refine lv_goto (tgt := 1727) hx hb dL_law_846 (by decide) ?_
      obtain ⟨x8, ex8⟩ : ∃ y : Int32, y = l4 + (4 : Int32) := ⟨_, rfl⟩
      replace h := gLetI ex8 h
      refine lv_iinc (v := x8) (lv' := [(4, .int x8), (6, .int x4), (5, .int x2), (0, .ref b), (1, .ref (gB Γ + 0)), (2, .ref (gB Γ + 174)), (3, .ref (gB Γ + 193))]) hx hb dL_law_1727 hl (k := 6) rfl (by rw [ex8]; rfl) (by decide) rfl (fun ls hl => ?_)
      refine lv_goto (tgt := 23) hx hb dL_law_1730 (by decide) ?_
      refine W.widen (k := cells + 3) (n := slots + 18) (by omega) (by omega) ?_
      exact hF23 _ _ _ _ _ h hP hS (lv_sub hl [3, 4, 5, 6, 0] rfl)
    · replace h := gpos c7 h
      refine lv_aload_n hx hb dL_law_834 rfl (lv_at hl 5 rfl) ?_
      refine lv_iconst (v := 0) hx hb dL_law_835 (by decide) ?_
      refine gJld hx hb hK hP (is_193 hfull) dL_law_836 h (fun h => ?_)
      refine lv_iload hx hb dL_law_837 (lv_at hl 0 rfl) ?_
      refine lv_i2l hx hb dL_law_839 rfl ?_
      refine W.lcmp hx hb dL_law_840 ?_
      refine lv_if_eq (tgt := 846) hx hb dL_law_841 (by decide) (fun c9 => ?_) (fun c9 => ?_)
      · replace h := gpos c9 h
        refine lv_goto (tgt := 1727) hx hb dL_law_846 (by decide) ?_
        obtain ⟨x10, ex10⟩ : ∃ y : Int32, y = l4 + (4 : Int32) := ⟨_, rfl⟩
        replace h := gLetI ex10 h
        refine lv_iinc (v := x10) (lv' := [(4, .int x10), (6, .int x4), (5, .int x2), (0, .ref b), (1, .ref (gB Γ + 0)), (2, .ref (gB Γ + 174)), (3, .ref (gB Γ + 193))]) hx hb dL_law_1727 hl (k := 6) rfl (by rw [ex10]; rfl) (by decide) rfl (fun ls hl => ?_)
        refine lv_goto (tgt := 23) hx hb dL_law_1730 (by decide) ?_
        refine W.widen (k := cells + 3) (n := slots + 18) (by omega) (by omega) ?_
        exact hF23 _ _ _ _ _ h hP hS (lv_sub hl [3, 4, 5, 6, 0] rfl)
      · replace h := gneg c9 h
        refine lv_iconst (v := 0) hx hb dL_law_844 (by decide) ?_
        cases h
  · replace h := gneg c6 h
    refine lv_iconst (v := 0) hx hb dL_law_827 (by decide) ?_
    cases h
set_option maxHeartbeats 4000000 in
set_option maxRecDepth 20000 in
theorem bs_L_law_849 {p : Program} {l : Launch} (hst : l.stackTraces = false) {e : Env} {s : State} {m : MethodId} {below : List Frame} {meth : Method} {c : Code} {Γ : gE} (hfull : gFull Γ) {b L : Nat} {xs : Nat → Int32} (C0 : gCx p s m #[Value.ref b] meth c Γ RL code 7 ret) (hXs : va_X b L xs s s.heap) (hbl : b < s.heap.size) (hB : gB Γ = s.heap.size) {z : Unit} {cells slots : Nat} (hc : cells + 3 ≤ 601024) (hs : slots + 18 ≤ 7293034) {F23 : Int32 → gG → Option Unit} (hF23 : ∀ (l4 : Int32) (g : gG) (H : Heap) (locs : List Loc) (ls : Array Slot), F23 l4 g = some z → va_P (gD Γ) gcls (lay Γ g) H → va_S (gA Γ) s.heap H locs → lv_has ls 7 [(0, .ref b), (1, .ref (gB Γ + 0)), (2, .ref (gB Γ + 174)), (3, .ref (gB Γ + 193)), (4, .int l4)] → W p l e room_1 s m #[Value.ref b] below meth c H locs (cells + 3) (slots + 18) (lw_Z below #[Value.ref b] s) (F0 m 23 ls [])) {l4 : Int32} {g : gG} {H : Heap} {locs : List Loc} {ls : Array Slot} (h : fs_L_law_849 L xs F23 l4 g = some z) (hP : va_P (gD Γ) gcls (lay Γ g) H) (hS : va_S (gA Γ) s.heap H locs) (hl : lv_has ls 7 [(0, .ref b), (1, .ref (gB Γ + 0)), (2, .ref (gB Γ + 174)), (3, .ref (gB Γ + 193)), (4, .int l4)]) : W p l e room_1 s m #[Value.ref b] below meth c H locs cells slots (lw_Z below #[Value.ref b] s) (F0 m 849 ls []) := by
  unfold fs_L_law_849 at h
  obtain ⟨hx, hb, hml, hr, hown, hts, hK, hlk, hX⟩ := id C0
  have hbA : ¬ gA Γ b := by unfold gA; omega
  have hr3 : room_1.cells = 601024 := rfl
  have hr4 : room_1.slots = 7293034 := rfl
  refine lv_aload_n hx hb dL_law_849 rfl (lv_at hl 1 rfl) ?_
  refine lv_aload_n hx hb dL_law_850 rfl (lv_at hl 0 rfl) ?_
  refine lv_iload hx hb dL_law_851 (lv_at hl 4 rfl) ?_
  refine lv_iconst (v := 1) hx hb dL_law_853 (by decide) ?_
  refine lv_iadd hx hb dL_law_854 ?_
  refine gSld' (Γ := Γ) hx hb hXs hbl hbA hS dL_law_855 h (fun h => ?_)
  refine lv_aload_n hx hb dL_law_856 rfl (lv_at hl 3 rfl) ?_
  refine gCH (n2 := 3) (mc2 := 1) (ms2 := 6) (rest := []) C0 wcw_L_giveUp wn_L (by decide +kernel) wl_L_147 wt_L_giveUp ⟨Nat.le_of_ble_eq_true rfl, Nat.le_of_ble_eq_true rfl⟩ ⟨by rw [hr3]; omega, by rw [hr4]; omega⟩ [.ref (gB Γ + 0), .int (xs (l4 + (1 : Int32)).toNatClampNeg), .ref (gB Γ + 193)] rfl (Nat.le_of_ble_eq_true rfl) hP hS hl.1 dL_law_857 h (fun u hu => m_L_giveUp l hst Γ hfull (xs (l4 + (1 : Int32)).toNatClampNeg) g u hu) (fun u1 H locs h hP hS => ?_) rfl
  refine lv_topi (fun x2 ex2 => ?_)
  replace h := gLetI ex2 h
  refine lv_istore (lv' := [(5, .int x2), (0, .ref b), (1, .ref (gB Γ + 0)), (2, .ref (gB Γ + 174)), (3, .ref (gB Γ + 193)), (4, .int l4)]) hx hb dL_law_860 hl (by decide) rfl (fun ls hl => ?_)
  refine lv_aload_n hx hb dL_law_862 rfl (lv_at hl 3 rfl) ?_
  refine lv_aload_n hx hb dL_law_863 rfl (lv_at hl 1 rfl) ?_
  refine lv_iload hx hb dL_law_864 (lv_at hl 5 rfl) ?_
  refine lv_iconst (v := 1) hx hb dL_law_866 (by decide) ?_
  refine lv_iadd hx hb dL_law_867 ?_
  refine gSld' (Γ := Γ) hx hb hXs hbl hbA hS dL_law_868 h (fun h => ?_)
  refine gCVi (rest := []) C0 cal_X10_giveUp wl_L_149 wi_X10_giveUp ws_X10_giveUp ⟨Nat.le_of_ble_eq_true rfl, Nat.le_of_ble_eq_true rfl⟩ ⟨by rw [hr3]; omega, by rw [hr4]; omega⟩ grv_10 [.int (xs (l4 + (1 : Int32)).toNatClampNeg)] rfl (Nat.le_of_ble_eq_true rfl) hP hS hl.1 dL_law_869 h (fun u hu => m_X10_giveUp l Γ (xs (l4 + (1 : Int32)).toNatClampNeg) u1.2 u hu) (fun u3 H locs h hP hS => ?_) rfl
  refine lv_topi (fun x4 ex4 => ?_)
  replace h := gLetI ex4 h
  refine lv_istore (lv' := [(6, .int x4), (5, .int x2), (0, .ref b), (1, .ref (gB Γ + 0)), (2, .ref (gB Γ + 174)), (3, .ref (gB Γ + 193)), (4, .int l4)]) hx hb dL_law_872 hl (by decide) rfl (fun ls hl => ?_)
  refine lv_aload_n hx hb dL_law_874 rfl (lv_at hl 4 rfl) ?_
  refine gCVi (rest := []) C0 cal_X10_thrown wl_L_104 wi_X10_thrown ws_X10_thrown ⟨Nat.le_of_ble_eq_true rfl, Nat.le_of_ble_eq_true rfl⟩ ⟨by rw [hr3]; omega, by rw [hr4]; omega⟩ grv_10 [] rfl (Nat.le_of_ble_eq_true rfl) hP hS hl.1 dL_law_875 h (fun u hu => m_X10_thrown l Γ u3.2 u hu) (fun u5 H locs h hP hS => ?_) rfl
  refine lv_iload hx hb dL_law_878 (lv_at hl 1 rfl) ?_
  refine lv_icmp_eq (tgt := 885) hx hb dL_law_880 (by decide) (fun c6 => ?_) (fun c6 => ?_)
  · replace h := gpos c6 h
    refine lv_iload hx hb dL_law_885 (lv_at hl 1 rfl) ?_
    refine lv_if_ne (tgt := 902) hx hb dL_law_887 (by decide) (fun c7 => ?_) (fun c7 => ?_)
    · replace h := gneg c7 h
      refine lv_goto (tgt := 1727) hx hb dL_law_902 (by decide) ?_
      obtain ⟨x8, ex8⟩ : ∃ y : Int32, y = l4 + (4 : Int32) := ⟨_, rfl⟩
      replace h := gLetI ex8 h
      refine lv_iinc (v := x8) (lv' := [(4, .int x8), (6, .int x4), (5, .int x2), (0, .ref b), (1, .ref (gB Γ + 0)), (2, .ref (gB Γ + 174)), (3, .ref (gB Γ + 193))]) hx hb dL_law_1727 hl (k := 6) rfl (by rw [ex8]; rfl) (by decide) rfl (fun ls hl => ?_)
      refine lv_goto (tgt := 23) hx hb dL_law_1730 (by decide) ?_
      refine W.widen (k := cells + 3) (n := slots + 18) (by omega) (by omega) ?_
      exact hF23 _ _ _ _ _ h hP hS (lv_sub hl [3, 4, 5, 6, 0] rfl)
    · replace h := gpos c7 h
      refine lv_aload_n hx hb dL_law_890 rfl (lv_at hl 5 rfl) ?_
      refine lv_iconst (v := 0) hx hb dL_law_891 (by decide) ?_
      refine gJld hx hb hK hP (is_193 hfull) dL_law_892 h (fun h => ?_)
      refine lv_iload hx hb dL_law_893 (lv_at hl 0 rfl) ?_
      refine lv_i2l hx hb dL_law_895 rfl ?_
      refine W.lcmp hx hb dL_law_896 ?_
      refine lv_if_eq (tgt := 902) hx hb dL_law_897 (by decide) (fun c9 => ?_) (fun c9 => ?_)
      · replace h := gpos c9 h
        refine lv_goto (tgt := 1727) hx hb dL_law_902 (by decide) ?_
        obtain ⟨x10, ex10⟩ : ∃ y : Int32, y = l4 + (4 : Int32) := ⟨_, rfl⟩
        replace h := gLetI ex10 h
        refine lv_iinc (v := x10) (lv' := [(4, .int x10), (6, .int x4), (5, .int x2), (0, .ref b), (1, .ref (gB Γ + 0)), (2, .ref (gB Γ + 174)), (3, .ref (gB Γ + 193))]) hx hb dL_law_1727 hl (k := 6) rfl (by rw [ex10]; rfl) (by decide) rfl (fun ls hl => ?_)
        refine lv_goto (tgt := 23) hx hb dL_law_1730 (by decide) ?_
        refine W.widen (k := cells + 3) (n := slots + 18) (by omega) (by omega) ?_
        exact hF23 _ _ _ _ _ h hP hS (lv_sub hl [3, 4, 5, 6, 0] rfl)
      · replace h := gneg c9 h
        refine lv_iconst (v := 0) hx hb dL_law_900 (by decide) ?_
        cases h
  · replace h := gneg c6 h
    refine lv_iconst (v := 0) hx hb dL_law_883 (by decide) ?_
    cases h
set_option maxHeartbeats 4000000 in
set_option maxRecDepth 20000 in
theorem bs_L_law_905 {p : Program} {l : Launch} (hst : l.stackTraces = false) {e : Env} {s : State} {m : MethodId} {below : List Frame} {meth : Method} {c : Code} {Γ : gE} (hfull : gFull Γ) {b L : Nat} {xs : Nat → Int32} (C0 : gCx p s m #[Value.ref b] meth c Γ RL code 7 ret) (hXs : va_X b L xs s s.heap) (hbl : b < s.heap.size) (hB : gB Γ = s.heap.size) {z : Unit} {cells slots : Nat} (hc : cells + 3 ≤ 601024) (hs : slots + 18 ≤ 7293034) {F23 : Int32 → gG → Option Unit} (hF23 : ∀ (l4 : Int32) (g : gG) (H : Heap) (locs : List Loc) (ls : Array Slot), F23 l4 g = some z → va_P (gD Γ) gcls (lay Γ g) H → va_S (gA Γ) s.heap H locs → lv_has ls 7 [(0, .ref b), (1, .ref (gB Γ + 0)), (2, .ref (gB Γ + 174)), (3, .ref (gB Γ + 193)), (4, .int l4)] → W p l e room_1 s m #[Value.ref b] below meth c H locs (cells + 3) (slots + 18) (lw_Z below #[Value.ref b] s) (F0 m 23 ls [])) {l4 : Int32} {g : gG} {H : Heap} {locs : List Loc} {ls : Array Slot} (h : fs_L_law_905 L xs F23 l4 g = some z) (hP : va_P (gD Γ) gcls (lay Γ g) H) (hS : va_S (gA Γ) s.heap H locs) (hl : lv_has ls 7 [(0, .ref b), (1, .ref (gB Γ + 0)), (2, .ref (gB Γ + 174)), (3, .ref (gB Γ + 193)), (4, .int l4)]) : W p l e room_1 s m #[Value.ref b] below meth c H locs cells slots (lw_Z below #[Value.ref b] s) (F0 m 905 ls []) := by
  unfold fs_L_law_905 at h
  obtain ⟨hx, hb, hml, hr, hown, hts, hK, hlk, hX⟩ := id C0
  have hbA : ¬ gA Γ b := by unfold gA; omega
  have hr3 : room_1.cells = 601024 := rfl
  have hr4 : room_1.slots = 7293034 := rfl
  refine lv_aload_n hx hb dL_law_905 rfl (lv_at hl 1 rfl) ?_
  refine lv_aload_n hx hb dL_law_906 rfl (lv_at hl 0 rfl) ?_
  refine lv_iload hx hb dL_law_907 (lv_at hl 4 rfl) ?_
  refine lv_iconst (v := 1) hx hb dL_law_909 (by decide) ?_
  refine lv_iadd hx hb dL_law_910 ?_
  refine gSld' (Γ := Γ) hx hb hXs hbl hbA hS dL_law_911 h (fun h => ?_)
  refine lv_aload_n hx hb dL_law_912 rfl (lv_at hl 0 rfl) ?_
  refine lv_iload hx hb dL_law_913 (lv_at hl 4 rfl) ?_
  refine lv_iconst (v := 2) hx hb dL_law_915 (by decide) ?_
  refine lv_iadd hx hb dL_law_916 ?_
  refine gSld' (Γ := Γ) hx hb hXs hbl hbA hS dL_law_917 h (fun h => ?_)
  refine lv_aload_n hx hb dL_law_918 rfl (lv_at hl 0 rfl) ?_
  refine lv_iload hx hb dL_law_919 (lv_at hl 4 rfl) ?_
  refine lv_iconst (v := 3) hx hb dL_law_921 (by decide) ?_
  refine lv_iadd hx hb dL_law_922 ?_
  refine gSld' (Γ := Γ) hx hb hXs hbl hbA hS dL_law_923 h (fun h => ?_)
  refine lv_aload_n hx hb dL_law_924 rfl (lv_at hl 3 rfl) ?_
  refine gCH (n2 := 5) (mc2 := 2) (ms2 := 12) (rest := []) C0 wcw_L_move wn_L (by decide +kernel) wl_L_150 wt_L_move ⟨Nat.le_of_ble_eq_true rfl, Nat.le_of_ble_eq_true rfl⟩ ⟨by rw [hr3]; omega, by rw [hr4]; omega⟩ [.ref (gB Γ + 0), .int (xs (l4 + (1 : Int32)).toNatClampNeg), .int (xs (l4 + (2 : Int32)).toNatClampNeg), .int (xs (l4 + (3 : Int32)).toNatClampNeg), .ref (gB Γ + 193)] rfl (Nat.le_of_ble_eq_true rfl) hP hS hl.1 dL_law_925 h (fun u hu => m_L_move l hst Γ hfull (xs (l4 + (1 : Int32)).toNatClampNeg) (xs (l4 + (2 : Int32)).toNatClampNeg) (xs (l4 + (3 : Int32)).toNatClampNeg) g u hu) (fun u1 H locs h hP hS => ?_) rfl
  refine lv_topi (fun x2 ex2 => ?_)
  replace h := gLetI ex2 h
  refine lv_istore (lv' := [(5, .int x2), (0, .ref b), (1, .ref (gB Γ + 0)), (2, .ref (gB Γ + 174)), (3, .ref (gB Γ + 193)), (4, .int l4)]) hx hb dL_law_928 hl (by decide) rfl (fun ls hl => ?_)
  refine lv_aload_n hx hb dL_law_930 rfl (lv_at hl 3 rfl) ?_
  refine lv_aload_n hx hb dL_law_931 rfl (lv_at hl 1 rfl) ?_
  refine lv_iload hx hb dL_law_932 (lv_at hl 5 rfl) ?_
  refine lv_iconst (v := 1) hx hb dL_law_934 (by decide) ?_
  refine lv_iadd hx hb dL_law_935 ?_
  refine gSld' (Γ := Γ) hx hb hXs hbl hbA hS dL_law_936 h (fun h => ?_)
  refine lv_aload_n hx hb dL_law_937 rfl (lv_at hl 1 rfl) ?_
  refine lv_iload hx hb dL_law_938 (lv_at hl 5 rfl) ?_
  refine lv_iconst (v := 2) hx hb dL_law_940 (by decide) ?_
  refine lv_iadd hx hb dL_law_941 ?_
  refine gSld' (Γ := Γ) hx hb hXs hbl hbA hS dL_law_942 h (fun h => ?_)
  refine lv_aload_n hx hb dL_law_943 rfl (lv_at hl 1 rfl) ?_
  refine lv_iload hx hb dL_law_944 (lv_at hl 5 rfl) ?_
  refine lv_iconst (v := 3) hx hb dL_law_946 (by decide) ?_
  refine lv_iadd hx hb dL_law_947 ?_
  refine gSld' (Γ := Γ) hx hb hXs hbl hbA hS dL_law_948 h (fun h => ?_)
  refine gCVi (rest := []) C0 cal_X10_move wl_L_153 wi_X10_move ws_X10_move ⟨Nat.le_of_ble_eq_true rfl, Nat.le_of_ble_eq_true rfl⟩ ⟨by rw [hr3]; omega, by rw [hr4]; omega⟩ grv_10 [.int (xs (l4 + (1 : Int32)).toNatClampNeg), .int (xs (l4 + (2 : Int32)).toNatClampNeg), .int (xs (l4 + (3 : Int32)).toNatClampNeg)] rfl (Nat.le_of_ble_eq_true rfl) hP hS hl.1 dL_law_949 h (fun u hu => m_X10_move l Γ (xs (l4 + (1 : Int32)).toNatClampNeg) (xs (l4 + (2 : Int32)).toNatClampNeg) (xs (l4 + (3 : Int32)).toNatClampNeg) u1.2 u hu) (fun u3 H locs h hP hS => ?_) rfl
  refine lv_topi (fun x4 ex4 => ?_)
  replace h := gLetI ex4 h
  refine lv_istore (lv' := [(6, .int x4), (5, .int x2), (0, .ref b), (1, .ref (gB Γ + 0)), (2, .ref (gB Γ + 174)), (3, .ref (gB Γ + 193)), (4, .int l4)]) hx hb dL_law_952 hl (by decide) rfl (fun ls hl => ?_)
  refine lv_aload_n hx hb dL_law_954 rfl (lv_at hl 4 rfl) ?_
  refine gCVi (rest := []) C0 cal_X10_thrown wl_L_104 wi_X10_thrown ws_X10_thrown ⟨Nat.le_of_ble_eq_true rfl, Nat.le_of_ble_eq_true rfl⟩ ⟨by rw [hr3]; omega, by rw [hr4]; omega⟩ grv_10 [] rfl (Nat.le_of_ble_eq_true rfl) hP hS hl.1 dL_law_955 h (fun u hu => m_X10_thrown l Γ u3.2 u hu) (fun u5 H locs h hP hS => ?_) rfl
  refine lv_iload hx hb dL_law_958 (lv_at hl 1 rfl) ?_
  refine lv_icmp_eq (tgt := 965) hx hb dL_law_960 (by decide) (fun c6 => ?_) (fun c6 => ?_)
  · replace h := gpos c6 h
    refine lv_iload hx hb dL_law_965 (lv_at hl 1 rfl) ?_
    refine lv_if_ne (tgt := 982) hx hb dL_law_967 (by decide) (fun c7 => ?_) (fun c7 => ?_)
    · replace h := gneg c7 h
      refine lv_goto (tgt := 1727) hx hb dL_law_982 (by decide) ?_
      obtain ⟨x8, ex8⟩ : ∃ y : Int32, y = l4 + (4 : Int32) := ⟨_, rfl⟩
      replace h := gLetI ex8 h
      refine lv_iinc (v := x8) (lv' := [(4, .int x8), (6, .int x4), (5, .int x2), (0, .ref b), (1, .ref (gB Γ + 0)), (2, .ref (gB Γ + 174)), (3, .ref (gB Γ + 193))]) hx hb dL_law_1727 hl (k := 6) rfl (by rw [ex8]; rfl) (by decide) rfl (fun ls hl => ?_)
      refine lv_goto (tgt := 23) hx hb dL_law_1730 (by decide) ?_
      refine W.widen (k := cells + 3) (n := slots + 18) (by omega) (by omega) ?_
      exact hF23 _ _ _ _ _ h hP hS (lv_sub hl [3, 4, 5, 6, 0] rfl)
    · replace h := gpos c7 h
      refine lv_aload_n hx hb dL_law_970 rfl (lv_at hl 5 rfl) ?_
      refine lv_iconst (v := 0) hx hb dL_law_971 (by decide) ?_
      refine gJld hx hb hK hP (is_193 hfull) dL_law_972 h (fun h => ?_)
      refine lv_iload hx hb dL_law_973 (lv_at hl 0 rfl) ?_
      refine lv_i2l hx hb dL_law_975 rfl ?_
      refine W.lcmp hx hb dL_law_976 ?_
      refine lv_if_eq (tgt := 982) hx hb dL_law_977 (by decide) (fun c9 => ?_) (fun c9 => ?_)
      · replace h := gpos c9 h
        refine lv_goto (tgt := 1727) hx hb dL_law_982 (by decide) ?_
        obtain ⟨x10, ex10⟩ : ∃ y : Int32, y = l4 + (4 : Int32) := ⟨_, rfl⟩
        replace h := gLetI ex10 h
        refine lv_iinc (v := x10) (lv' := [(4, .int x10), (6, .int x4), (5, .int x2), (0, .ref b), (1, .ref (gB Γ + 0)), (2, .ref (gB Γ + 174)), (3, .ref (gB Γ + 193))]) hx hb dL_law_1727 hl (k := 6) rfl (by rw [ex10]; rfl) (by decide) rfl (fun ls hl => ?_)
        refine lv_goto (tgt := 23) hx hb dL_law_1730 (by decide) ?_
        refine W.widen (k := cells + 3) (n := slots + 18) (by omega) (by omega) ?_
        exact hF23 _ _ _ _ _ h hP hS (lv_sub hl [3, 4, 5, 6, 0] rfl)
      · replace h := gneg c9 h
        refine lv_iconst (v := 0) hx hb dL_law_980 (by decide) ?_
        cases h
  · replace h := gneg c6 h
    refine lv_iconst (v := 0) hx hb dL_law_963 (by decide) ?_
    cases h
set_option maxHeartbeats 4000000 in
set_option maxRecDepth 20000 in
theorem bs_L_law_985 {p : Program} {l : Launch} (hst : l.stackTraces = false) {e : Env} {s : State} {m : MethodId} {below : List Frame} {meth : Method} {c : Code} {Γ : gE} (hfull : gFull Γ) {b L : Nat} {xs : Nat → Int32} (C0 : gCx p s m #[Value.ref b] meth c Γ RL code 7 ret) (hXs : va_X b L xs s s.heap) (hbl : b < s.heap.size) (hB : gB Γ = s.heap.size) {z : Unit} {cells slots : Nat} (hc : cells + 3 ≤ 601024) (hs : slots + 18 ≤ 7293034) {F23 : Int32 → gG → Option Unit} (hF23 : ∀ (l4 : Int32) (g : gG) (H : Heap) (locs : List Loc) (ls : Array Slot), F23 l4 g = some z → va_P (gD Γ) gcls (lay Γ g) H → va_S (gA Γ) s.heap H locs → lv_has ls 7 [(0, .ref b), (1, .ref (gB Γ + 0)), (2, .ref (gB Γ + 174)), (3, .ref (gB Γ + 193)), (4, .int l4)] → W p l e room_1 s m #[Value.ref b] below meth c H locs (cells + 3) (slots + 18) (lw_Z below #[Value.ref b] s) (F0 m 23 ls [])) {l4 : Int32} {g : gG} {H : Heap} {locs : List Loc} {ls : Array Slot} (h : fs_L_law_985 L xs F23 l4 g = some z) (hP : va_P (gD Γ) gcls (lay Γ g) H) (hS : va_S (gA Γ) s.heap H locs) (hl : lv_has ls 7 [(0, .ref b), (1, .ref (gB Γ + 0)), (2, .ref (gB Γ + 174)), (3, .ref (gB Γ + 193)), (4, .int l4)]) : W p l e room_1 s m #[Value.ref b] below meth c H locs cells slots (lw_Z below #[Value.ref b] s) (F0 m 985 ls []) := by
  unfold fs_L_law_985 at h
  obtain ⟨hx, hb, hml, hr, hown, hts, hK, hlk, hX⟩ := id C0
  have hbA : ¬ gA Γ b := by unfold gA; omega
  have hr3 : room_1.cells = 601024 := rfl
  have hr4 : room_1.slots = 7293034 := rfl
  refine lv_aload_n hx hb dL_law_985 rfl (lv_at hl 1 rfl) ?_
  refine lv_aload_n hx hb dL_law_986 rfl (lv_at hl 0 rfl) ?_
  refine lv_iload hx hb dL_law_987 (lv_at hl 4 rfl) ?_
  refine lv_iconst (v := 1) hx hb dL_law_989 (by decide) ?_
  refine lv_iadd hx hb dL_law_990 ?_
  refine gSld' (Γ := Γ) hx hb hXs hbl hbA hS dL_law_991 h (fun h => ?_)
  refine lv_aload_n hx hb dL_law_992 rfl (lv_at hl 3 rfl) ?_
  refine gCH (n2 := 3) (mc2 := 1) (ms2 := 6) (rest := []) C0 wcw_L_ease wn_L (by decide +kernel) wl_L_154 wt_L_ease ⟨Nat.le_of_ble_eq_true rfl, Nat.le_of_ble_eq_true rfl⟩ ⟨by rw [hr3]; omega, by rw [hr4]; omega⟩ [.ref (gB Γ + 0), .int (xs (l4 + (1 : Int32)).toNatClampNeg), .ref (gB Γ + 193)] rfl (Nat.le_of_ble_eq_true rfl) hP hS hl.1 dL_law_993 h (fun u hu => m_L_ease l hst Γ hfull (xs (l4 + (1 : Int32)).toNatClampNeg) g u hu) (fun u1 H locs h hP hS => ?_) rfl
  refine lv_topi (fun x2 ex2 => ?_)
  replace h := gLetI ex2 h
  refine lv_istore (lv' := [(5, .int x2), (0, .ref b), (1, .ref (gB Γ + 0)), (2, .ref (gB Γ + 174)), (3, .ref (gB Γ + 193)), (4, .int l4)]) hx hb dL_law_996 hl (by decide) rfl (fun ls hl => ?_)
  refine lv_aload_n hx hb dL_law_998 rfl (lv_at hl 3 rfl) ?_
  refine lv_aload_n hx hb dL_law_999 rfl (lv_at hl 1 rfl) ?_
  refine lv_iload hx hb dL_law_1000 (lv_at hl 5 rfl) ?_
  refine lv_iconst (v := 1) hx hb dL_law_1002 (by decide) ?_
  refine lv_iadd hx hb dL_law_1003 ?_
  refine gSld' (Γ := Γ) hx hb hXs hbl hbA hS dL_law_1004 h (fun h => ?_)
  refine gCVi (rest := []) C0 cal_X10_ease wl_L_156 wi_X10_ease ws_X10_ease ⟨Nat.le_of_ble_eq_true rfl, Nat.le_of_ble_eq_true rfl⟩ ⟨by rw [hr3]; omega, by rw [hr4]; omega⟩ grv_10 [.int (xs (l4 + (1 : Int32)).toNatClampNeg)] rfl (Nat.le_of_ble_eq_true rfl) hP hS hl.1 dL_law_1005 h (fun u hu => m_X10_ease l Γ (xs (l4 + (1 : Int32)).toNatClampNeg) u1.2 u hu) (fun u3 H locs h hP hS => ?_) rfl
  refine lv_topi (fun x4 ex4 => ?_)
  replace h := gLetI ex4 h
  refine lv_istore (lv' := [(6, .int x4), (5, .int x2), (0, .ref b), (1, .ref (gB Γ + 0)), (2, .ref (gB Γ + 174)), (3, .ref (gB Γ + 193)), (4, .int l4)]) hx hb dL_law_1008 hl (by decide) rfl (fun ls hl => ?_)
  refine lv_aload_n hx hb dL_law_1010 rfl (lv_at hl 4 rfl) ?_
  refine gCVi (rest := []) C0 cal_X10_thrown wl_L_104 wi_X10_thrown ws_X10_thrown ⟨Nat.le_of_ble_eq_true rfl, Nat.le_of_ble_eq_true rfl⟩ ⟨by rw [hr3]; omega, by rw [hr4]; omega⟩ grv_10 [] rfl (Nat.le_of_ble_eq_true rfl) hP hS hl.1 dL_law_1011 h (fun u hu => m_X10_thrown l Γ u3.2 u hu) (fun u5 H locs h hP hS => ?_) rfl
  refine lv_iload hx hb dL_law_1014 (lv_at hl 1 rfl) ?_
  refine lv_icmp_eq (tgt := 1021) hx hb dL_law_1016 (by decide) (fun c6 => ?_) (fun c6 => ?_)
  · replace h := gpos c6 h
    refine lv_iload hx hb dL_law_1021 (lv_at hl 1 rfl) ?_
    refine lv_if_ne (tgt := 1038) hx hb dL_law_1023 (by decide) (fun c7 => ?_) (fun c7 => ?_)
    · replace h := gneg c7 h
      refine lv_goto (tgt := 1727) hx hb dL_law_1038 (by decide) ?_
      obtain ⟨x8, ex8⟩ : ∃ y : Int32, y = l4 + (4 : Int32) := ⟨_, rfl⟩
      replace h := gLetI ex8 h
      refine lv_iinc (v := x8) (lv' := [(4, .int x8), (6, .int x4), (5, .int x2), (0, .ref b), (1, .ref (gB Γ + 0)), (2, .ref (gB Γ + 174)), (3, .ref (gB Γ + 193))]) hx hb dL_law_1727 hl (k := 6) rfl (by rw [ex8]; rfl) (by decide) rfl (fun ls hl => ?_)
      refine lv_goto (tgt := 23) hx hb dL_law_1730 (by decide) ?_
      refine W.widen (k := cells + 3) (n := slots + 18) (by omega) (by omega) ?_
      exact hF23 _ _ _ _ _ h hP hS (lv_sub hl [3, 4, 5, 6, 0] rfl)
    · replace h := gpos c7 h
      refine lv_aload_n hx hb dL_law_1026 rfl (lv_at hl 5 rfl) ?_
      refine lv_iconst (v := 0) hx hb dL_law_1027 (by decide) ?_
      refine gJld hx hb hK hP (is_193 hfull) dL_law_1028 h (fun h => ?_)
      refine lv_iload hx hb dL_law_1029 (lv_at hl 0 rfl) ?_
      refine lv_i2l hx hb dL_law_1031 rfl ?_
      refine W.lcmp hx hb dL_law_1032 ?_
      refine lv_if_eq (tgt := 1038) hx hb dL_law_1033 (by decide) (fun c9 => ?_) (fun c9 => ?_)
      · replace h := gpos c9 h
        refine lv_goto (tgt := 1727) hx hb dL_law_1038 (by decide) ?_
        obtain ⟨x10, ex10⟩ : ∃ y : Int32, y = l4 + (4 : Int32) := ⟨_, rfl⟩
        replace h := gLetI ex10 h
        refine lv_iinc (v := x10) (lv' := [(4, .int x10), (6, .int x4), (5, .int x2), (0, .ref b), (1, .ref (gB Γ + 0)), (2, .ref (gB Γ + 174)), (3, .ref (gB Γ + 193))]) hx hb dL_law_1727 hl (k := 6) rfl (by rw [ex10]; rfl) (by decide) rfl (fun ls hl => ?_)
        refine lv_goto (tgt := 23) hx hb dL_law_1730 (by decide) ?_
        refine W.widen (k := cells + 3) (n := slots + 18) (by omega) (by omega) ?_
        exact hF23 _ _ _ _ _ h hP hS (lv_sub hl [3, 4, 5, 6, 0] rfl)
      · replace h := gneg c9 h
        refine lv_iconst (v := 0) hx hb dL_law_1036 (by decide) ?_
        cases h
  · replace h := gneg c6 h
    refine lv_iconst (v := 0) hx hb dL_law_1019 (by decide) ?_
    cases h
set_option maxHeartbeats 4000000 in
set_option maxRecDepth 20000 in
theorem bs_L_law_1041 {p : Program} {l : Launch} (hst : l.stackTraces = false) {e : Env} {s : State} {m : MethodId} {below : List Frame} {meth : Method} {c : Code} {Γ : gE} (hfull : gFull Γ) {b L : Nat} {xs : Nat → Int32} (C0 : gCx p s m #[Value.ref b] meth c Γ RL code 7 ret) (hXs : va_X b L xs s s.heap) (hbl : b < s.heap.size) (hB : gB Γ = s.heap.size) {z : Unit} {cells slots : Nat} (hc : cells + 3 ≤ 601024) (hs : slots + 18 ≤ 7293034) {F23 : Int32 → gG → Option Unit} (hF23 : ∀ (l4 : Int32) (g : gG) (H : Heap) (locs : List Loc) (ls : Array Slot), F23 l4 g = some z → va_P (gD Γ) gcls (lay Γ g) H → va_S (gA Γ) s.heap H locs → lv_has ls 7 [(0, .ref b), (1, .ref (gB Γ + 0)), (2, .ref (gB Γ + 174)), (3, .ref (gB Γ + 193)), (4, .int l4)] → W p l e room_1 s m #[Value.ref b] below meth c H locs (cells + 3) (slots + 18) (lw_Z below #[Value.ref b] s) (F0 m 23 ls [])) {l4 : Int32} {g : gG} {H : Heap} {locs : List Loc} {ls : Array Slot} (h : fs_L_law_1041 L xs F23 l4 g = some z) (hP : va_P (gD Γ) gcls (lay Γ g) H) (hS : va_S (gA Γ) s.heap H locs) (hl : lv_has ls 7 [(0, .ref b), (1, .ref (gB Γ + 0)), (2, .ref (gB Γ + 174)), (3, .ref (gB Γ + 193)), (4, .int l4)]) : W p l e room_1 s m #[Value.ref b] below meth c H locs cells slots (lw_Z below #[Value.ref b] s) (F0 m 1041 ls []) := by
  unfold fs_L_law_1041 at h
  obtain ⟨hx, hb, hml, hr, hown, hts, hK, hlk, hX⟩ := id C0
  have hbA : ¬ gA Γ b := by unfold gA; omega
  have hr3 : room_1.cells = 601024 := rfl
  have hr4 : room_1.slots = 7293034 := rfl
  refine lv_aload_n hx hb dL_law_1041 rfl (lv_at hl 1 rfl) ?_
  refine lv_aload_n hx hb dL_law_1042 rfl (lv_at hl 3 rfl) ?_
  refine gCH (n2 := 2) (mc2 := 1) (ms2 := 6) (rest := []) C0 wcw_L_undo wn_L (by decide +kernel) wl_L_157 wt_L_undo ⟨Nat.le_of_ble_eq_true rfl, Nat.le_of_ble_eq_true rfl⟩ ⟨by rw [hr3]; omega, by rw [hr4]; omega⟩ [.ref (gB Γ + 0), .ref (gB Γ + 193)] rfl (Nat.le_of_ble_eq_true rfl) hP hS hl.1 dL_law_1043 h (fun u hu => m_L_undo l hst Γ hfull g u hu) (fun u1 H locs h hP hS => ?_) rfl
  refine lv_topi (fun x2 ex2 => ?_)
  replace h := gLetI ex2 h
  refine lv_istore (lv' := [(5, .int x2), (0, .ref b), (1, .ref (gB Γ + 0)), (2, .ref (gB Γ + 174)), (3, .ref (gB Γ + 193)), (4, .int l4)]) hx hb dL_law_1046 hl (by decide) rfl (fun ls hl => ?_)
  refine lv_aload_n hx hb dL_law_1048 rfl (lv_at hl 3 rfl) ?_
  refine gCVi (rest := []) C0 cal_X10_undo wl_L_159 wi_X10_undo ws_X10_undo ⟨Nat.le_of_ble_eq_true rfl, Nat.le_of_ble_eq_true rfl⟩ ⟨by rw [hr3]; omega, by rw [hr4]; omega⟩ grv_10 [] rfl (Nat.le_of_ble_eq_true rfl) hP hS hl.1 dL_law_1049 h (fun u hu => m_X10_undo l Γ u1.2 u hu) (fun u3 H locs h hP hS => ?_) rfl
  refine lv_topi (fun x4 ex4 => ?_)
  replace h := gLetI ex4 h
  refine lv_istore (lv' := [(6, .int x4), (5, .int x2), (0, .ref b), (1, .ref (gB Γ + 0)), (2, .ref (gB Γ + 174)), (3, .ref (gB Γ + 193)), (4, .int l4)]) hx hb dL_law_1052 hl (by decide) rfl (fun ls hl => ?_)
  refine lv_aload_n hx hb dL_law_1054 rfl (lv_at hl 4 rfl) ?_
  refine gCVi (rest := []) C0 cal_X10_thrown wl_L_104 wi_X10_thrown ws_X10_thrown ⟨Nat.le_of_ble_eq_true rfl, Nat.le_of_ble_eq_true rfl⟩ ⟨by rw [hr3]; omega, by rw [hr4]; omega⟩ grv_10 [] rfl (Nat.le_of_ble_eq_true rfl) hP hS hl.1 dL_law_1055 h (fun u hu => m_X10_thrown l Γ u3.2 u hu) (fun u5 H locs h hP hS => ?_) rfl
  refine lv_iload hx hb dL_law_1058 (lv_at hl 1 rfl) ?_
  refine lv_icmp_eq (tgt := 1065) hx hb dL_law_1060 (by decide) (fun c6 => ?_) (fun c6 => ?_)
  · replace h := gpos c6 h
    refine lv_iload hx hb dL_law_1065 (lv_at hl 1 rfl) ?_
    refine lv_if_ne (tgt := 1082) hx hb dL_law_1067 (by decide) (fun c7 => ?_) (fun c7 => ?_)
    · replace h := gneg c7 h
      refine lv_goto (tgt := 1727) hx hb dL_law_1082 (by decide) ?_
      obtain ⟨x8, ex8⟩ : ∃ y : Int32, y = l4 + (4 : Int32) := ⟨_, rfl⟩
      replace h := gLetI ex8 h
      refine lv_iinc (v := x8) (lv' := [(4, .int x8), (6, .int x4), (5, .int x2), (0, .ref b), (1, .ref (gB Γ + 0)), (2, .ref (gB Γ + 174)), (3, .ref (gB Γ + 193))]) hx hb dL_law_1727 hl (k := 6) rfl (by rw [ex8]; rfl) (by decide) rfl (fun ls hl => ?_)
      refine lv_goto (tgt := 23) hx hb dL_law_1730 (by decide) ?_
      refine W.widen (k := cells + 3) (n := slots + 18) (by omega) (by omega) ?_
      exact hF23 _ _ _ _ _ h hP hS (lv_sub hl [3, 4, 5, 6, 0] rfl)
    · replace h := gpos c7 h
      refine lv_aload_n hx hb dL_law_1070 rfl (lv_at hl 5 rfl) ?_
      refine lv_iconst (v := 0) hx hb dL_law_1071 (by decide) ?_
      refine gJld hx hb hK hP (is_193 hfull) dL_law_1072 h (fun h => ?_)
      refine lv_iload hx hb dL_law_1073 (lv_at hl 0 rfl) ?_
      refine lv_i2l hx hb dL_law_1075 rfl ?_
      refine W.lcmp hx hb dL_law_1076 ?_
      refine lv_if_eq (tgt := 1082) hx hb dL_law_1077 (by decide) (fun c9 => ?_) (fun c9 => ?_)
      · replace h := gpos c9 h
        refine lv_goto (tgt := 1727) hx hb dL_law_1082 (by decide) ?_
        obtain ⟨x10, ex10⟩ : ∃ y : Int32, y = l4 + (4 : Int32) := ⟨_, rfl⟩
        replace h := gLetI ex10 h
        refine lv_iinc (v := x10) (lv' := [(4, .int x10), (6, .int x4), (5, .int x2), (0, .ref b), (1, .ref (gB Γ + 0)), (2, .ref (gB Γ + 174)), (3, .ref (gB Γ + 193))]) hx hb dL_law_1727 hl (k := 6) rfl (by rw [ex10]; rfl) (by decide) rfl (fun ls hl => ?_)
        refine lv_goto (tgt := 23) hx hb dL_law_1730 (by decide) ?_
        refine W.widen (k := cells + 3) (n := slots + 18) (by omega) (by omega) ?_
        exact hF23 _ _ _ _ _ h hP hS (lv_sub hl [3, 4, 5, 6, 0] rfl)
      · replace h := gneg c9 h
        refine lv_iconst (v := 0) hx hb dL_law_1080 (by decide) ?_
        cases h
  · replace h := gneg c6 h
    refine lv_iconst (v := 0) hx hb dL_law_1063 (by decide) ?_
    cases h
set_option maxHeartbeats 4000000 in
set_option maxRecDepth 20000 in
theorem bs_L_law_1085 {p : Program} {l : Launch} (hst : l.stackTraces = false) {e : Env} {s : State} {m : MethodId} {below : List Frame} {meth : Method} {c : Code} {Γ : gE} (hfull : gFull Γ) {b L : Nat} {xs : Nat → Int32} (C0 : gCx p s m #[Value.ref b] meth c Γ RL code 7 ret) (hXs : va_X b L xs s s.heap) (hbl : b < s.heap.size) (hB : gB Γ = s.heap.size) {z : Unit} {cells slots : Nat} (hc : cells + 3 ≤ 601024) (hs : slots + 18 ≤ 7293034) {F23 : Int32 → gG → Option Unit} (hF23 : ∀ (l4 : Int32) (g : gG) (H : Heap) (locs : List Loc) (ls : Array Slot), F23 l4 g = some z → va_P (gD Γ) gcls (lay Γ g) H → va_S (gA Γ) s.heap H locs → lv_has ls 7 [(0, .ref b), (1, .ref (gB Γ + 0)), (2, .ref (gB Γ + 174)), (3, .ref (gB Γ + 193)), (4, .int l4)] → W p l e room_1 s m #[Value.ref b] below meth c H locs (cells + 3) (slots + 18) (lw_Z below #[Value.ref b] s) (F0 m 23 ls [])) {l4 : Int32} {g : gG} {H : Heap} {locs : List Loc} {ls : Array Slot} (h : fs_L_law_1085 L xs F23 l4 g = some z) (hP : va_P (gD Γ) gcls (lay Γ g) H) (hS : va_S (gA Γ) s.heap H locs) (hl : lv_has ls 7 [(0, .ref b), (1, .ref (gB Γ + 0)), (2, .ref (gB Γ + 174)), (3, .ref (gB Γ + 193)), (4, .int l4)]) : W p l e room_1 s m #[Value.ref b] below meth c H locs cells slots (lw_Z below #[Value.ref b] s) (F0 m 1085 ls []) := by
  unfold fs_L_law_1085 at h
  obtain ⟨hx, hb, hml, hr, hown, hts, hK, hlk, hX⟩ := id C0
  have hbA : ¬ gA Γ b := by unfold gA; omega
  have hr3 : room_1.cells = 601024 := rfl
  have hr4 : room_1.slots = 7293034 := rfl
  refine lv_aload_n hx hb dL_law_1085 rfl (lv_at hl 1 rfl) ?_
  refine lv_aload_n hx hb dL_law_1086 rfl (lv_at hl 0 rfl) ?_
  refine lv_iload hx hb dL_law_1087 (lv_at hl 4 rfl) ?_
  refine lv_iconst (v := 1) hx hb dL_law_1089 (by decide) ?_
  refine lv_iadd hx hb dL_law_1090 ?_
  refine gSld' (Γ := Γ) hx hb hXs hbl hbA hS dL_law_1091 h (fun h => ?_)
  refine lv_aload_n hx hb dL_law_1092 rfl (lv_at hl 0 rfl) ?_
  refine lv_iload hx hb dL_law_1093 (lv_at hl 4 rfl) ?_
  refine lv_iconst (v := 2) hx hb dL_law_1095 (by decide) ?_
  refine lv_iadd hx hb dL_law_1096 ?_
  refine gSld' (Γ := Γ) hx hb hXs hbl hbA hS dL_law_1097 h (fun h => ?_)
  refine lv_aload_n hx hb dL_law_1098 rfl (lv_at hl 3 rfl) ?_
  refine gCH (n2 := 4) (mc2 := 2) (ms2 := 12) (rest := []) C0 wcw_L_shortest wn_L (by decide +kernel) wl_L_160 wt_L_shortest ⟨Nat.le_of_ble_eq_true rfl, Nat.le_of_ble_eq_true rfl⟩ ⟨by rw [hr3]; omega, by rw [hr4]; omega⟩ [.ref (gB Γ + 0), .int (xs (l4 + (1 : Int32)).toNatClampNeg), .int (xs (l4 + (2 : Int32)).toNatClampNeg), .ref (gB Γ + 193)] rfl (Nat.le_of_ble_eq_true rfl) hP hS hl.1 dL_law_1099 h (fun u hu => m_L_shortest l hst Γ hfull (xs (l4 + (1 : Int32)).toNatClampNeg) (xs (l4 + (2 : Int32)).toNatClampNeg) g u hu) (fun u1 H locs h hP hS => ?_) rfl
  refine lv_topi (fun x2 ex2 => ?_)
  replace h := gLetI ex2 h
  refine lv_istore (lv' := [(5, .int x2), (0, .ref b), (1, .ref (gB Γ + 0)), (2, .ref (gB Γ + 174)), (3, .ref (gB Γ + 193)), (4, .int l4)]) hx hb dL_law_1102 hl (by decide) rfl (fun ls hl => ?_)
  refine lv_aload_n hx hb dL_law_1104 rfl (lv_at hl 3 rfl) ?_
  refine lv_aload_n hx hb dL_law_1105 rfl (lv_at hl 1 rfl) ?_
  refine lv_iload hx hb dL_law_1106 (lv_at hl 5 rfl) ?_
  refine lv_iconst (v := 1) hx hb dL_law_1108 (by decide) ?_
  refine lv_iadd hx hb dL_law_1109 ?_
  refine gSld' (Γ := Γ) hx hb hXs hbl hbA hS dL_law_1110 h (fun h => ?_)
  refine lv_aload_n hx hb dL_law_1111 rfl (lv_at hl 1 rfl) ?_
  refine lv_iload hx hb dL_law_1112 (lv_at hl 5 rfl) ?_
  refine lv_iconst (v := 2) hx hb dL_law_1114 (by decide) ?_
  refine lv_iadd hx hb dL_law_1115 ?_
  refine gSld' (Γ := Γ) hx hb hXs hbl hbA hS dL_law_1116 h (fun h => ?_)
  refine gCVi (rest := []) C0 cal_X10_shortest wl_L_162 wi_X10_shortest ws_X10_shortest ⟨Nat.le_of_ble_eq_true rfl, Nat.le_of_ble_eq_true rfl⟩ ⟨by rw [hr3]; omega, by rw [hr4]; omega⟩ grv_10 [.int (xs (l4 + (1 : Int32)).toNatClampNeg), .int (xs (l4 + (2 : Int32)).toNatClampNeg)] rfl (Nat.le_of_ble_eq_true rfl) hP hS hl.1 dL_law_1117 h (fun u hu => m_X10_shortest l Γ (xs (l4 + (1 : Int32)).toNatClampNeg) (xs (l4 + (2 : Int32)).toNatClampNeg) u1.2 u hu) (fun u3 H locs h hP hS => ?_) rfl
  refine lv_topi (fun x4 ex4 => ?_)
  replace h := gLetI ex4 h
  refine lv_istore (lv' := [(6, .int x4), (5, .int x2), (0, .ref b), (1, .ref (gB Γ + 0)), (2, .ref (gB Γ + 174)), (3, .ref (gB Γ + 193)), (4, .int l4)]) hx hb dL_law_1120 hl (by decide) rfl (fun ls hl => ?_)
  refine lv_aload_n hx hb dL_law_1122 rfl (lv_at hl 4 rfl) ?_
  refine gCVi (rest := []) C0 cal_X10_thrown wl_L_104 wi_X10_thrown ws_X10_thrown ⟨Nat.le_of_ble_eq_true rfl, Nat.le_of_ble_eq_true rfl⟩ ⟨by rw [hr3]; omega, by rw [hr4]; omega⟩ grv_10 [] rfl (Nat.le_of_ble_eq_true rfl) hP hS hl.1 dL_law_1123 h (fun u hu => m_X10_thrown l Γ u3.2 u hu) (fun u5 H locs h hP hS => ?_) rfl
  refine lv_iload hx hb dL_law_1126 (lv_at hl 1 rfl) ?_
  refine lv_icmp_eq (tgt := 1133) hx hb dL_law_1128 (by decide) (fun c6 => ?_) (fun c6 => ?_)
  · replace h := gpos c6 h
    refine lv_iload hx hb dL_law_1133 (lv_at hl 1 rfl) ?_
    refine lv_if_ne (tgt := 1150) hx hb dL_law_1135 (by decide) (fun c7 => ?_) (fun c7 => ?_)
    · replace h := gneg c7 h
      refine lv_goto (tgt := 1727) hx hb dL_law_1150 (by decide) ?_
      obtain ⟨x8, ex8⟩ : ∃ y : Int32, y = l4 + (4 : Int32) := ⟨_, rfl⟩
      replace h := gLetI ex8 h
      refine lv_iinc (v := x8) (lv' := [(4, .int x8), (6, .int x4), (5, .int x2), (0, .ref b), (1, .ref (gB Γ + 0)), (2, .ref (gB Γ + 174)), (3, .ref (gB Γ + 193))]) hx hb dL_law_1727 hl (k := 6) rfl (by rw [ex8]; rfl) (by decide) rfl (fun ls hl => ?_)
      refine lv_goto (tgt := 23) hx hb dL_law_1730 (by decide) ?_
      refine W.widen (k := cells + 3) (n := slots + 18) (by omega) (by omega) ?_
      exact hF23 _ _ _ _ _ h hP hS (lv_sub hl [3, 4, 5, 6, 0] rfl)
    · replace h := gpos c7 h
      refine lv_aload_n hx hb dL_law_1138 rfl (lv_at hl 5 rfl) ?_
      refine lv_iconst (v := 0) hx hb dL_law_1139 (by decide) ?_
      refine gJld hx hb hK hP (is_193 hfull) dL_law_1140 h (fun h => ?_)
      refine lv_iload hx hb dL_law_1141 (lv_at hl 0 rfl) ?_
      refine lv_i2l hx hb dL_law_1143 rfl ?_
      refine W.lcmp hx hb dL_law_1144 ?_
      refine lv_if_eq (tgt := 1150) hx hb dL_law_1145 (by decide) (fun c9 => ?_) (fun c9 => ?_)
      · replace h := gpos c9 h
        refine lv_goto (tgt := 1727) hx hb dL_law_1150 (by decide) ?_
        obtain ⟨x10, ex10⟩ : ∃ y : Int32, y = l4 + (4 : Int32) := ⟨_, rfl⟩
        replace h := gLetI ex10 h
        refine lv_iinc (v := x10) (lv' := [(4, .int x10), (6, .int x4), (5, .int x2), (0, .ref b), (1, .ref (gB Γ + 0)), (2, .ref (gB Γ + 174)), (3, .ref (gB Γ + 193))]) hx hb dL_law_1727 hl (k := 6) rfl (by rw [ex10]; rfl) (by decide) rfl (fun ls hl => ?_)
        refine lv_goto (tgt := 23) hx hb dL_law_1730 (by decide) ?_
        refine W.widen (k := cells + 3) (n := slots + 18) (by omega) (by omega) ?_
        exact hF23 _ _ _ _ _ h hP hS (lv_sub hl [3, 4, 5, 6, 0] rfl)
      · replace h := gneg c9 h
        refine lv_iconst (v := 0) hx hb dL_law_1148 (by decide) ?_
        cases h
  · replace h := gneg c6 h
    refine lv_iconst (v := 0) hx hb dL_law_1131 (by decide) ?_
    cases h
set_option maxHeartbeats 4000000 in
set_option maxRecDepth 20000 in
theorem bs_L_law_1153 {p : Program} {l : Launch} (hst : l.stackTraces = false) {e : Env} {s : State} {m : MethodId} {below : List Frame} {meth : Method} {c : Code} {Γ : gE} (hfull : gFull Γ) {b L : Nat} {xs : Nat → Int32} (C0 : gCx p s m #[Value.ref b] meth c Γ RL code 7 ret) (hXs : va_X b L xs s s.heap) (hbl : b < s.heap.size) (hB : gB Γ = s.heap.size) {z : Unit} {cells slots : Nat} (hc : cells + 3 ≤ 601024) (hs : slots + 18 ≤ 7293034) {F23 : Int32 → gG → Option Unit} (hF23 : ∀ (l4 : Int32) (g : gG) (H : Heap) (locs : List Loc) (ls : Array Slot), F23 l4 g = some z → va_P (gD Γ) gcls (lay Γ g) H → va_S (gA Γ) s.heap H locs → lv_has ls 7 [(0, .ref b), (1, .ref (gB Γ + 0)), (2, .ref (gB Γ + 174)), (3, .ref (gB Γ + 193)), (4, .int l4)] → W p l e room_1 s m #[Value.ref b] below meth c H locs (cells + 3) (slots + 18) (lw_Z below #[Value.ref b] s) (F0 m 23 ls [])) {l4 : Int32} {g : gG} {H : Heap} {locs : List Loc} {ls : Array Slot} (h : fs_L_law_1153 L xs F23 l4 g = some z) (hP : va_P (gD Γ) gcls (lay Γ g) H) (hS : va_S (gA Γ) s.heap H locs) (hl : lv_has ls 7 [(0, .ref b), (1, .ref (gB Γ + 0)), (2, .ref (gB Γ + 174)), (3, .ref (gB Γ + 193)), (4, .int l4)]) : W p l e room_1 s m #[Value.ref b] below meth c H locs cells slots (lw_Z below #[Value.ref b] s) (F0 m 1153 ls []) := by
  unfold fs_L_law_1153 at h
  obtain ⟨hx, hb, hml, hr, hown, hts, hK, hlk, hX⟩ := id C0
  have hbA : ¬ gA Γ b := by unfold gA; omega
  have hr3 : room_1.cells = 601024 := rfl
  have hr4 : room_1.slots = 7293034 := rfl
  refine lv_aload_n hx hb dL_law_1153 rfl (lv_at hl 1 rfl) ?_
  refine lv_aload_n hx hb dL_law_1154 rfl (lv_at hl 0 rfl) ?_
  refine lv_iload hx hb dL_law_1155 (lv_at hl 4 rfl) ?_
  refine lv_iconst (v := 1) hx hb dL_law_1157 (by decide) ?_
  refine lv_iadd hx hb dL_law_1158 ?_
  refine gSld' (Γ := Γ) hx hb hXs hbl hbA hS dL_law_1159 h (fun h => ?_)
  refine lv_aload_n hx hb dL_law_1160 rfl (lv_at hl 0 rfl) ?_
  refine lv_iload hx hb dL_law_1161 (lv_at hl 4 rfl) ?_
  refine lv_iconst (v := 2) hx hb dL_law_1163 (by decide) ?_
  refine lv_iadd hx hb dL_law_1164 ?_
  refine gSld' (Γ := Γ) hx hb hXs hbl hbA hS dL_law_1165 h (fun h => ?_)
  refine lv_aload_n hx hb dL_law_1166 rfl (lv_at hl 3 rfl) ?_
  refine gCH (n2 := 4) (mc2 := 2) (ms2 := 12) (rest := []) C0 wcw_L_quickest wn_L (by decide +kernel) wl_L_163 wt_L_quickest ⟨Nat.le_of_ble_eq_true rfl, Nat.le_of_ble_eq_true rfl⟩ ⟨by rw [hr3]; omega, by rw [hr4]; omega⟩ [.ref (gB Γ + 0), .int (xs (l4 + (1 : Int32)).toNatClampNeg), .int (xs (l4 + (2 : Int32)).toNatClampNeg), .ref (gB Γ + 193)] rfl (Nat.le_of_ble_eq_true rfl) hP hS hl.1 dL_law_1167 h (fun u hu => m_L_quickest l hst Γ hfull (xs (l4 + (1 : Int32)).toNatClampNeg) (xs (l4 + (2 : Int32)).toNatClampNeg) g u hu) (fun u1 H locs h hP hS => ?_) rfl
  refine lv_topi (fun x2 ex2 => ?_)
  replace h := gLetI ex2 h
  refine lv_istore (lv' := [(5, .int x2), (0, .ref b), (1, .ref (gB Γ + 0)), (2, .ref (gB Γ + 174)), (3, .ref (gB Γ + 193)), (4, .int l4)]) hx hb dL_law_1170 hl (by decide) rfl (fun ls hl => ?_)
  refine lv_aload_n hx hb dL_law_1172 rfl (lv_at hl 3 rfl) ?_
  refine lv_aload_n hx hb dL_law_1173 rfl (lv_at hl 1 rfl) ?_
  refine lv_iload hx hb dL_law_1174 (lv_at hl 5 rfl) ?_
  refine lv_iconst (v := 1) hx hb dL_law_1176 (by decide) ?_
  refine lv_iadd hx hb dL_law_1177 ?_
  refine gSld' (Γ := Γ) hx hb hXs hbl hbA hS dL_law_1178 h (fun h => ?_)
  refine lv_aload_n hx hb dL_law_1179 rfl (lv_at hl 1 rfl) ?_
  refine lv_iload hx hb dL_law_1180 (lv_at hl 5 rfl) ?_
  refine lv_iconst (v := 2) hx hb dL_law_1182 (by decide) ?_
  refine lv_iadd hx hb dL_law_1183 ?_
  refine gSld' (Γ := Γ) hx hb hXs hbl hbA hS dL_law_1184 h (fun h => ?_)
  refine gCVi (rest := []) C0 cal_X10_quickest wl_L_165 wi_X10_quickest ws_X10_quickest ⟨Nat.le_of_ble_eq_true rfl, Nat.le_of_ble_eq_true rfl⟩ ⟨by rw [hr3]; omega, by rw [hr4]; omega⟩ grv_10 [.int (xs (l4 + (1 : Int32)).toNatClampNeg), .int (xs (l4 + (2 : Int32)).toNatClampNeg)] rfl (Nat.le_of_ble_eq_true rfl) hP hS hl.1 dL_law_1185 h (fun u hu => m_X10_quickest l Γ (xs (l4 + (1 : Int32)).toNatClampNeg) (xs (l4 + (2 : Int32)).toNatClampNeg) u1.2 u hu) (fun u3 H locs h hP hS => ?_) rfl
  refine lv_topi (fun x4 ex4 => ?_)
  replace h := gLetI ex4 h
  refine lv_istore (lv' := [(6, .int x4), (5, .int x2), (0, .ref b), (1, .ref (gB Γ + 0)), (2, .ref (gB Γ + 174)), (3, .ref (gB Γ + 193)), (4, .int l4)]) hx hb dL_law_1188 hl (by decide) rfl (fun ls hl => ?_)
  refine lv_aload_n hx hb dL_law_1190 rfl (lv_at hl 4 rfl) ?_
  refine gCVi (rest := []) C0 cal_X10_thrown wl_L_104 wi_X10_thrown ws_X10_thrown ⟨Nat.le_of_ble_eq_true rfl, Nat.le_of_ble_eq_true rfl⟩ ⟨by rw [hr3]; omega, by rw [hr4]; omega⟩ grv_10 [] rfl (Nat.le_of_ble_eq_true rfl) hP hS hl.1 dL_law_1191 h (fun u hu => m_X10_thrown l Γ u3.2 u hu) (fun u5 H locs h hP hS => ?_) rfl
  refine lv_iload hx hb dL_law_1194 (lv_at hl 1 rfl) ?_
  refine lv_icmp_eq (tgt := 1201) hx hb dL_law_1196 (by decide) (fun c6 => ?_) (fun c6 => ?_)
  · replace h := gpos c6 h
    refine lv_iload hx hb dL_law_1201 (lv_at hl 1 rfl) ?_
    refine lv_if_ne (tgt := 1218) hx hb dL_law_1203 (by decide) (fun c7 => ?_) (fun c7 => ?_)
    · replace h := gneg c7 h
      refine lv_goto (tgt := 1727) hx hb dL_law_1218 (by decide) ?_
      obtain ⟨x8, ex8⟩ : ∃ y : Int32, y = l4 + (4 : Int32) := ⟨_, rfl⟩
      replace h := gLetI ex8 h
      refine lv_iinc (v := x8) (lv' := [(4, .int x8), (6, .int x4), (5, .int x2), (0, .ref b), (1, .ref (gB Γ + 0)), (2, .ref (gB Γ + 174)), (3, .ref (gB Γ + 193))]) hx hb dL_law_1727 hl (k := 6) rfl (by rw [ex8]; rfl) (by decide) rfl (fun ls hl => ?_)
      refine lv_goto (tgt := 23) hx hb dL_law_1730 (by decide) ?_
      refine W.widen (k := cells + 3) (n := slots + 18) (by omega) (by omega) ?_
      exact hF23 _ _ _ _ _ h hP hS (lv_sub hl [3, 4, 5, 6, 0] rfl)
    · replace h := gpos c7 h
      refine lv_aload_n hx hb dL_law_1206 rfl (lv_at hl 5 rfl) ?_
      refine lv_iconst (v := 0) hx hb dL_law_1207 (by decide) ?_
      refine gJld hx hb hK hP (is_193 hfull) dL_law_1208 h (fun h => ?_)
      refine lv_iload hx hb dL_law_1209 (lv_at hl 0 rfl) ?_
      refine lv_i2l hx hb dL_law_1211 rfl ?_
      refine W.lcmp hx hb dL_law_1212 ?_
      refine lv_if_eq (tgt := 1218) hx hb dL_law_1213 (by decide) (fun c9 => ?_) (fun c9 => ?_)
      · replace h := gpos c9 h
        refine lv_goto (tgt := 1727) hx hb dL_law_1218 (by decide) ?_
        obtain ⟨x10, ex10⟩ : ∃ y : Int32, y = l4 + (4 : Int32) := ⟨_, rfl⟩
        replace h := gLetI ex10 h
        refine lv_iinc (v := x10) (lv' := [(4, .int x10), (6, .int x4), (5, .int x2), (0, .ref b), (1, .ref (gB Γ + 0)), (2, .ref (gB Γ + 174)), (3, .ref (gB Γ + 193))]) hx hb dL_law_1727 hl (k := 6) rfl (by rw [ex10]; rfl) (by decide) rfl (fun ls hl => ?_)
        refine lv_goto (tgt := 23) hx hb dL_law_1730 (by decide) ?_
        refine W.widen (k := cells + 3) (n := slots + 18) (by omega) (by omega) ?_
        exact hF23 _ _ _ _ _ h hP hS (lv_sub hl [3, 4, 5, 6, 0] rfl)
      · replace h := gneg c9 h
        refine lv_iconst (v := 0) hx hb dL_law_1216 (by decide) ?_
        cases h
  · replace h := gneg c6 h
    refine lv_iconst (v := 0) hx hb dL_law_1199 (by decide) ?_
    cases h
set_option maxHeartbeats 4000000 in
set_option maxRecDepth 20000 in
theorem bs_L_law_1221 {p : Program} {l : Launch} (hst : l.stackTraces = false) {e : Env} {s : State} {m : MethodId} {below : List Frame} {meth : Method} {c : Code} {Γ : gE} (hfull : gFull Γ) {b L : Nat} {xs : Nat → Int32} (C0 : gCx p s m #[Value.ref b] meth c Γ RL code 7 ret) (hXs : va_X b L xs s s.heap) (hbl : b < s.heap.size) (hB : gB Γ = s.heap.size) {z : Unit} {cells slots : Nat} (hc : cells + 3 ≤ 601024) (hs : slots + 18 ≤ 7293034) {F23 : Int32 → gG → Option Unit} (hF23 : ∀ (l4 : Int32) (g : gG) (H : Heap) (locs : List Loc) (ls : Array Slot), F23 l4 g = some z → va_P (gD Γ) gcls (lay Γ g) H → va_S (gA Γ) s.heap H locs → lv_has ls 7 [(0, .ref b), (1, .ref (gB Γ + 0)), (2, .ref (gB Γ + 174)), (3, .ref (gB Γ + 193)), (4, .int l4)] → W p l e room_1 s m #[Value.ref b] below meth c H locs (cells + 3) (slots + 18) (lw_Z below #[Value.ref b] s) (F0 m 23 ls [])) {l4 : Int32} {g : gG} {H : Heap} {locs : List Loc} {ls : Array Slot} (h : fs_L_law_1221 L xs F23 l4 g = some z) (hP : va_P (gD Γ) gcls (lay Γ g) H) (hS : va_S (gA Γ) s.heap H locs) (hl : lv_has ls 7 [(0, .ref b), (1, .ref (gB Γ + 0)), (2, .ref (gB Γ + 174)), (3, .ref (gB Γ + 193)), (4, .int l4)]) : W p l e room_1 s m #[Value.ref b] below meth c H locs cells slots (lw_Z below #[Value.ref b] s) (F0 m 1221 ls []) := by
  unfold fs_L_law_1221 at h
  obtain ⟨hx, hb, hml, hr, hown, hts, hK, hlk, hX⟩ := id C0
  have hbA : ¬ gA Γ b := by unfold gA; omega
  have hr3 : room_1.cells = 601024 := rfl
  have hr4 : room_1.slots = 7293034 := rfl
  refine lv_aload_n hx hb dL_law_1221 rfl (lv_at hl 1 rfl) ?_
  refine lv_aload_n hx hb dL_law_1222 rfl (lv_at hl 0 rfl) ?_
  refine lv_iload hx hb dL_law_1223 (lv_at hl 4 rfl) ?_
  refine lv_iconst (v := 1) hx hb dL_law_1225 (by decide) ?_
  refine lv_iadd hx hb dL_law_1226 ?_
  refine gSld' (Γ := Γ) hx hb hXs hbl hbA hS dL_law_1227 h (fun h => ?_)
  refine lv_aload_n hx hb dL_law_1228 rfl (lv_at hl 3 rfl) ?_
  refine gCH (n2 := 3) (mc2 := 1) (ms2 := 6) (rest := []) C0 wcw_L_orders wn_L (by decide +kernel) wl_L_166 wt_L_orders ⟨Nat.le_of_ble_eq_true rfl, Nat.le_of_ble_eq_true rfl⟩ ⟨by rw [hr3]; omega, by rw [hr4]; omega⟩ [.ref (gB Γ + 0), .int (xs (l4 + (1 : Int32)).toNatClampNeg), .ref (gB Γ + 193)] rfl (Nat.le_of_ble_eq_true rfl) hP hS hl.1 dL_law_1229 h (fun u hu => m_L_orders l hst Γ hfull (xs (l4 + (1 : Int32)).toNatClampNeg) g u hu) (fun u1 H locs h hP hS => ?_) rfl
  refine lv_topi (fun x2 ex2 => ?_)
  replace h := gLetI ex2 h
  refine lv_istore (lv' := [(5, .int x2), (0, .ref b), (1, .ref (gB Γ + 0)), (2, .ref (gB Γ + 174)), (3, .ref (gB Γ + 193)), (4, .int l4)]) hx hb dL_law_1232 hl (by decide) rfl (fun ls hl => ?_)
  refine lv_aload_n hx hb dL_law_1234 rfl (lv_at hl 3 rfl) ?_
  refine lv_aload_n hx hb dL_law_1235 rfl (lv_at hl 1 rfl) ?_
  refine lv_iload hx hb dL_law_1236 (lv_at hl 5 rfl) ?_
  refine lv_iconst (v := 1) hx hb dL_law_1238 (by decide) ?_
  refine lv_iadd hx hb dL_law_1239 ?_
  refine gSld' (Γ := Γ) hx hb hXs hbl hbA hS dL_law_1240 h (fun h => ?_)
  refine gCVi (rest := []) C0 cal_X10_orders wl_L_168 wi_X10_orders ws_X10_orders ⟨Nat.le_of_ble_eq_true rfl, Nat.le_of_ble_eq_true rfl⟩ ⟨by rw [hr3]; omega, by rw [hr4]; omega⟩ grv_10 [.int (xs (l4 + (1 : Int32)).toNatClampNeg)] rfl (Nat.le_of_ble_eq_true rfl) hP hS hl.1 dL_law_1241 h (fun u hu => m_X10_orders l Γ (xs (l4 + (1 : Int32)).toNatClampNeg) u1.2 u hu) (fun u3 H locs h hP hS => ?_) rfl
  refine lv_topi (fun x4 ex4 => ?_)
  replace h := gLetI ex4 h
  refine lv_istore (lv' := [(6, .int x4), (5, .int x2), (0, .ref b), (1, .ref (gB Γ + 0)), (2, .ref (gB Γ + 174)), (3, .ref (gB Γ + 193)), (4, .int l4)]) hx hb dL_law_1244 hl (by decide) rfl (fun ls hl => ?_)
  refine lv_aload_n hx hb dL_law_1246 rfl (lv_at hl 4 rfl) ?_
  refine gCVi (rest := []) C0 cal_X10_thrown wl_L_104 wi_X10_thrown ws_X10_thrown ⟨Nat.le_of_ble_eq_true rfl, Nat.le_of_ble_eq_true rfl⟩ ⟨by rw [hr3]; omega, by rw [hr4]; omega⟩ grv_10 [] rfl (Nat.le_of_ble_eq_true rfl) hP hS hl.1 dL_law_1247 h (fun u hu => m_X10_thrown l Γ u3.2 u hu) (fun u5 H locs h hP hS => ?_) rfl
  refine lv_iload hx hb dL_law_1250 (lv_at hl 1 rfl) ?_
  refine lv_icmp_eq (tgt := 1257) hx hb dL_law_1252 (by decide) (fun c6 => ?_) (fun c6 => ?_)
  · replace h := gpos c6 h
    refine lv_iload hx hb dL_law_1257 (lv_at hl 1 rfl) ?_
    refine lv_if_ne (tgt := 1274) hx hb dL_law_1259 (by decide) (fun c7 => ?_) (fun c7 => ?_)
    · replace h := gneg c7 h
      refine lv_goto (tgt := 1727) hx hb dL_law_1274 (by decide) ?_
      obtain ⟨x8, ex8⟩ : ∃ y : Int32, y = l4 + (4 : Int32) := ⟨_, rfl⟩
      replace h := gLetI ex8 h
      refine lv_iinc (v := x8) (lv' := [(4, .int x8), (6, .int x4), (5, .int x2), (0, .ref b), (1, .ref (gB Γ + 0)), (2, .ref (gB Γ + 174)), (3, .ref (gB Γ + 193))]) hx hb dL_law_1727 hl (k := 6) rfl (by rw [ex8]; rfl) (by decide) rfl (fun ls hl => ?_)
      refine lv_goto (tgt := 23) hx hb dL_law_1730 (by decide) ?_
      refine W.widen (k := cells + 3) (n := slots + 18) (by omega) (by omega) ?_
      exact hF23 _ _ _ _ _ h hP hS (lv_sub hl [3, 4, 5, 6, 0] rfl)
    · replace h := gpos c7 h
      refine lv_aload_n hx hb dL_law_1262 rfl (lv_at hl 5 rfl) ?_
      refine lv_iconst (v := 0) hx hb dL_law_1263 (by decide) ?_
      refine gJld hx hb hK hP (is_193 hfull) dL_law_1264 h (fun h => ?_)
      refine lv_iload hx hb dL_law_1265 (lv_at hl 0 rfl) ?_
      refine lv_i2l hx hb dL_law_1267 rfl ?_
      refine W.lcmp hx hb dL_law_1268 ?_
      refine lv_if_eq (tgt := 1274) hx hb dL_law_1269 (by decide) (fun c9 => ?_) (fun c9 => ?_)
      · replace h := gpos c9 h
        refine lv_goto (tgt := 1727) hx hb dL_law_1274 (by decide) ?_
        obtain ⟨x10, ex10⟩ : ∃ y : Int32, y = l4 + (4 : Int32) := ⟨_, rfl⟩
        replace h := gLetI ex10 h
        refine lv_iinc (v := x10) (lv' := [(4, .int x10), (6, .int x4), (5, .int x2), (0, .ref b), (1, .ref (gB Γ + 0)), (2, .ref (gB Γ + 174)), (3, .ref (gB Γ + 193))]) hx hb dL_law_1727 hl (k := 6) rfl (by rw [ex10]; rfl) (by decide) rfl (fun ls hl => ?_)
        refine lv_goto (tgt := 23) hx hb dL_law_1730 (by decide) ?_
        refine W.widen (k := cells + 3) (n := slots + 18) (by omega) (by omega) ?_
        exact hF23 _ _ _ _ _ h hP hS (lv_sub hl [3, 4, 5, 6, 0] rfl)
      · replace h := gneg c9 h
        refine lv_iconst (v := 0) hx hb dL_law_1272 (by decide) ?_
        cases h
  · replace h := gneg c6 h
    refine lv_iconst (v := 0) hx hb dL_law_1255 (by decide) ?_
    cases h
set_option maxHeartbeats 4000000 in
set_option maxRecDepth 20000 in
theorem bs_L_law_1277 {p : Program} {l : Launch} (hst : l.stackTraces = false) {e : Env} {s : State} {m : MethodId} {below : List Frame} {meth : Method} {c : Code} {Γ : gE} (hfull : gFull Γ) {b L : Nat} {xs : Nat → Int32} (C0 : gCx p s m #[Value.ref b] meth c Γ RL code 7 ret) (hXs : va_X b L xs s s.heap) (hbl : b < s.heap.size) (hB : gB Γ = s.heap.size) {z : Unit} {cells slots : Nat} (hc : cells + 3 ≤ 601024) (hs : slots + 18 ≤ 7293034) {F23 : Int32 → gG → Option Unit} (hF23 : ∀ (l4 : Int32) (g : gG) (H : Heap) (locs : List Loc) (ls : Array Slot), F23 l4 g = some z → va_P (gD Γ) gcls (lay Γ g) H → va_S (gA Γ) s.heap H locs → lv_has ls 7 [(0, .ref b), (1, .ref (gB Γ + 0)), (2, .ref (gB Γ + 174)), (3, .ref (gB Γ + 193)), (4, .int l4)] → W p l e room_1 s m #[Value.ref b] below meth c H locs (cells + 3) (slots + 18) (lw_Z below #[Value.ref b] s) (F0 m 23 ls [])) {l4 : Int32} {g : gG} {H : Heap} {locs : List Loc} {ls : Array Slot} (h : fs_L_law_1277 L xs F23 l4 g = some z) (hP : va_P (gD Γ) gcls (lay Γ g) H) (hS : va_S (gA Γ) s.heap H locs) (hl : lv_has ls 7 [(0, .ref b), (1, .ref (gB Γ + 0)), (2, .ref (gB Γ + 174)), (3, .ref (gB Γ + 193)), (4, .int l4)]) : W p l e room_1 s m #[Value.ref b] below meth c H locs cells slots (lw_Z below #[Value.ref b] s) (F0 m 1277 ls []) := by
  unfold fs_L_law_1277 at h
  obtain ⟨hx, hb, hml, hr, hown, hts, hK, hlk, hX⟩ := id C0
  have hbA : ¬ gA Γ b := by unfold gA; omega
  have hr3 : room_1.cells = 601024 := rfl
  have hr4 : room_1.slots = 7293034 := rfl
  refine lv_aload_n hx hb dL_law_1277 rfl (lv_at hl 1 rfl) ?_
  refine lv_aload_n hx hb dL_law_1278 rfl (lv_at hl 0 rfl) ?_
  refine lv_iload hx hb dL_law_1279 (lv_at hl 4 rfl) ?_
  refine lv_iconst (v := 1) hx hb dL_law_1281 (by decide) ?_
  refine lv_iadd hx hb dL_law_1282 ?_
  refine gSld' (Γ := Γ) hx hb hXs hbl hbA hS dL_law_1283 h (fun h => ?_)
  refine lv_aload_n hx hb dL_law_1284 rfl (lv_at hl 3 rfl) ?_
  refine gCH (n2 := 3) (mc2 := 1) (ms2 := 6) (rest := []) C0 wcw_L_safe wn_L (by decide +kernel) wl_L_169 wt_L_safe ⟨Nat.le_of_ble_eq_true rfl, Nat.le_of_ble_eq_true rfl⟩ ⟨by rw [hr3]; omega, by rw [hr4]; omega⟩ [.ref (gB Γ + 0), .int (xs (l4 + (1 : Int32)).toNatClampNeg), .ref (gB Γ + 193)] rfl (Nat.le_of_ble_eq_true rfl) hP hS hl.1 dL_law_1285 h (fun u hu => m_L_safe l hst Γ hfull (xs (l4 + (1 : Int32)).toNatClampNeg) g u hu) (fun u1 H locs h hP hS => ?_) rfl
  refine lv_topi (fun x2 ex2 => ?_)
  replace h := gLetI ex2 h
  refine lv_istore (lv' := [(5, .int x2), (0, .ref b), (1, .ref (gB Γ + 0)), (2, .ref (gB Γ + 174)), (3, .ref (gB Γ + 193)), (4, .int l4)]) hx hb dL_law_1288 hl (by decide) rfl (fun ls hl => ?_)
  refine lv_aload_n hx hb dL_law_1290 rfl (lv_at hl 3 rfl) ?_
  refine lv_aload_n hx hb dL_law_1291 rfl (lv_at hl 1 rfl) ?_
  refine lv_iload hx hb dL_law_1292 (lv_at hl 5 rfl) ?_
  refine lv_iconst (v := 1) hx hb dL_law_1294 (by decide) ?_
  refine lv_iadd hx hb dL_law_1295 ?_
  refine gSld' (Γ := Γ) hx hb hXs hbl hbA hS dL_law_1296 h (fun h => ?_)
  refine gCVi (rest := []) C0 cal_X10_safe wl_L_171 wi_X10_safe ws_X10_safe ⟨Nat.le_of_ble_eq_true rfl, Nat.le_of_ble_eq_true rfl⟩ ⟨by rw [hr3]; omega, by rw [hr4]; omega⟩ grv_10 [.int (xs (l4 + (1 : Int32)).toNatClampNeg)] rfl (Nat.le_of_ble_eq_true rfl) hP hS hl.1 dL_law_1297 h (fun u hu => m_X10_safe l Γ (xs (l4 + (1 : Int32)).toNatClampNeg) u1.2 u hu) (fun u3 H locs h hP hS => ?_) rfl
  refine lv_topi (fun x4 ex4 => ?_)
  replace h := gLetI ex4 h
  refine lv_istore (lv' := [(6, .int x4), (5, .int x2), (0, .ref b), (1, .ref (gB Γ + 0)), (2, .ref (gB Γ + 174)), (3, .ref (gB Γ + 193)), (4, .int l4)]) hx hb dL_law_1300 hl (by decide) rfl (fun ls hl => ?_)
  refine lv_aload_n hx hb dL_law_1302 rfl (lv_at hl 4 rfl) ?_
  refine gCVi (rest := []) C0 cal_X10_thrown wl_L_104 wi_X10_thrown ws_X10_thrown ⟨Nat.le_of_ble_eq_true rfl, Nat.le_of_ble_eq_true rfl⟩ ⟨by rw [hr3]; omega, by rw [hr4]; omega⟩ grv_10 [] rfl (Nat.le_of_ble_eq_true rfl) hP hS hl.1 dL_law_1303 h (fun u hu => m_X10_thrown l Γ u3.2 u hu) (fun u5 H locs h hP hS => ?_) rfl
  refine lv_iload hx hb dL_law_1306 (lv_at hl 1 rfl) ?_
  refine lv_icmp_eq (tgt := 1313) hx hb dL_law_1308 (by decide) (fun c6 => ?_) (fun c6 => ?_)
  · replace h := gpos c6 h
    refine lv_iload hx hb dL_law_1313 (lv_at hl 1 rfl) ?_
    refine lv_if_ne (tgt := 1330) hx hb dL_law_1315 (by decide) (fun c7 => ?_) (fun c7 => ?_)
    · replace h := gneg c7 h
      refine lv_goto (tgt := 1727) hx hb dL_law_1330 (by decide) ?_
      obtain ⟨x8, ex8⟩ : ∃ y : Int32, y = l4 + (4 : Int32) := ⟨_, rfl⟩
      replace h := gLetI ex8 h
      refine lv_iinc (v := x8) (lv' := [(4, .int x8), (6, .int x4), (5, .int x2), (0, .ref b), (1, .ref (gB Γ + 0)), (2, .ref (gB Γ + 174)), (3, .ref (gB Γ + 193))]) hx hb dL_law_1727 hl (k := 6) rfl (by rw [ex8]; rfl) (by decide) rfl (fun ls hl => ?_)
      refine lv_goto (tgt := 23) hx hb dL_law_1730 (by decide) ?_
      refine W.widen (k := cells + 3) (n := slots + 18) (by omega) (by omega) ?_
      exact hF23 _ _ _ _ _ h hP hS (lv_sub hl [3, 4, 5, 6, 0] rfl)
    · replace h := gpos c7 h
      refine lv_aload_n hx hb dL_law_1318 rfl (lv_at hl 5 rfl) ?_
      refine lv_iconst (v := 0) hx hb dL_law_1319 (by decide) ?_
      refine gJld hx hb hK hP (is_193 hfull) dL_law_1320 h (fun h => ?_)
      refine lv_iload hx hb dL_law_1321 (lv_at hl 0 rfl) ?_
      refine lv_i2l hx hb dL_law_1323 rfl ?_
      refine W.lcmp hx hb dL_law_1324 ?_
      refine lv_if_eq (tgt := 1330) hx hb dL_law_1325 (by decide) (fun c9 => ?_) (fun c9 => ?_)
      · replace h := gpos c9 h
        refine lv_goto (tgt := 1727) hx hb dL_law_1330 (by decide) ?_
        obtain ⟨x10, ex10⟩ : ∃ y : Int32, y = l4 + (4 : Int32) := ⟨_, rfl⟩
        replace h := gLetI ex10 h
        refine lv_iinc (v := x10) (lv' := [(4, .int x10), (6, .int x4), (5, .int x2), (0, .ref b), (1, .ref (gB Γ + 0)), (2, .ref (gB Γ + 174)), (3, .ref (gB Γ + 193))]) hx hb dL_law_1727 hl (k := 6) rfl (by rw [ex10]; rfl) (by decide) rfl (fun ls hl => ?_)
        refine lv_goto (tgt := 23) hx hb dL_law_1730 (by decide) ?_
        refine W.widen (k := cells + 3) (n := slots + 18) (by omega) (by omega) ?_
        exact hF23 _ _ _ _ _ h hP hS (lv_sub hl [3, 4, 5, 6, 0] rfl)
      · replace h := gneg c9 h
        refine lv_iconst (v := 0) hx hb dL_law_1328 (by decide) ?_
        cases h
  · replace h := gneg c6 h
    refine lv_iconst (v := 0) hx hb dL_law_1311 (by decide) ?_
    cases h
set_option maxHeartbeats 4000000 in
set_option maxRecDepth 20000 in
theorem bs_L_law_1333 {p : Program} {l : Launch} (hst : l.stackTraces = false) {e : Env} {s : State} {m : MethodId} {below : List Frame} {meth : Method} {c : Code} {Γ : gE} (hfull : gFull Γ) {b L : Nat} {xs : Nat → Int32} (C0 : gCx p s m #[Value.ref b] meth c Γ RL code 7 ret) (hXs : va_X b L xs s s.heap) (hbl : b < s.heap.size) (hB : gB Γ = s.heap.size) {z : Unit} {cells slots : Nat} (hc : cells + 3 ≤ 601024) (hs : slots + 18 ≤ 7293034) {F23 : Int32 → gG → Option Unit} (hF23 : ∀ (l4 : Int32) (g : gG) (H : Heap) (locs : List Loc) (ls : Array Slot), F23 l4 g = some z → va_P (gD Γ) gcls (lay Γ g) H → va_S (gA Γ) s.heap H locs → lv_has ls 7 [(0, .ref b), (1, .ref (gB Γ + 0)), (2, .ref (gB Γ + 174)), (3, .ref (gB Γ + 193)), (4, .int l4)] → W p l e room_1 s m #[Value.ref b] below meth c H locs (cells + 3) (slots + 18) (lw_Z below #[Value.ref b] s) (F0 m 23 ls [])) {l4 : Int32} {g : gG} {H : Heap} {locs : List Loc} {ls : Array Slot} (h : fs_L_law_1333 L xs F23 l4 g = some z) (hP : va_P (gD Γ) gcls (lay Γ g) H) (hS : va_S (gA Γ) s.heap H locs) (hl : lv_has ls 7 [(0, .ref b), (1, .ref (gB Γ + 0)), (2, .ref (gB Γ + 174)), (3, .ref (gB Γ + 193)), (4, .int l4)]) : W p l e room_1 s m #[Value.ref b] below meth c H locs cells slots (lw_Z below #[Value.ref b] s) (F0 m 1333 ls []) := by
  unfold fs_L_law_1333 at h
  obtain ⟨hx, hb, hml, hr, hown, hts, hK, hlk, hX⟩ := id C0
  have hbA : ¬ gA Γ b := by unfold gA; omega
  have hr3 : room_1.cells = 601024 := rfl
  have hr4 : room_1.slots = 7293034 := rfl
  refine lv_aload_n hx hb dL_law_1333 rfl (lv_at hl 1 rfl) ?_
  refine lv_aload_n hx hb dL_law_1334 rfl (lv_at hl 0 rfl) ?_
  refine lv_iload hx hb dL_law_1335 (lv_at hl 4 rfl) ?_
  refine lv_iconst (v := 1) hx hb dL_law_1337 (by decide) ?_
  refine lv_iadd hx hb dL_law_1338 ?_
  refine gSld' (Γ := Γ) hx hb hXs hbl hbA hS dL_law_1339 h (fun h => ?_)
  refine lv_aload_n hx hb dL_law_1340 rfl (lv_at hl 3 rfl) ?_
  refine gCH (n2 := 3) (mc2 := 1) (ms2 := 6) (rest := []) C0 wcw_L_needed wn_L (by decide +kernel) wl_L_172 wt_L_needed ⟨Nat.le_of_ble_eq_true rfl, Nat.le_of_ble_eq_true rfl⟩ ⟨by rw [hr3]; omega, by rw [hr4]; omega⟩ [.ref (gB Γ + 0), .int (xs (l4 + (1 : Int32)).toNatClampNeg), .ref (gB Γ + 193)] rfl (Nat.le_of_ble_eq_true rfl) hP hS hl.1 dL_law_1341 h (fun u hu => m_L_needed l hst Γ hfull (xs (l4 + (1 : Int32)).toNatClampNeg) g u hu) (fun u1 H locs h hP hS => ?_) rfl
  refine lv_topi (fun x2 ex2 => ?_)
  replace h := gLetI ex2 h
  refine lv_istore (lv' := [(5, .int x2), (0, .ref b), (1, .ref (gB Γ + 0)), (2, .ref (gB Γ + 174)), (3, .ref (gB Γ + 193)), (4, .int l4)]) hx hb dL_law_1344 hl (by decide) rfl (fun ls hl => ?_)
  refine lv_aload_n hx hb dL_law_1346 rfl (lv_at hl 3 rfl) ?_
  refine lv_aload_n hx hb dL_law_1347 rfl (lv_at hl 1 rfl) ?_
  refine lv_iload hx hb dL_law_1348 (lv_at hl 5 rfl) ?_
  refine lv_iconst (v := 1) hx hb dL_law_1350 (by decide) ?_
  refine lv_iadd hx hb dL_law_1351 ?_
  refine gSld' (Γ := Γ) hx hb hXs hbl hbA hS dL_law_1352 h (fun h => ?_)
  refine gCVi (rest := []) C0 cal_X10_needed wl_L_174 wi_X10_needed ws_X10_needed ⟨Nat.le_of_ble_eq_true rfl, Nat.le_of_ble_eq_true rfl⟩ ⟨by rw [hr3]; omega, by rw [hr4]; omega⟩ grv_10 [.int (xs (l4 + (1 : Int32)).toNatClampNeg)] rfl (Nat.le_of_ble_eq_true rfl) hP hS hl.1 dL_law_1353 h (fun u hu => m_X10_needed l Γ (xs (l4 + (1 : Int32)).toNatClampNeg) u1.2 u hu) (fun u3 H locs h hP hS => ?_) rfl
  refine lv_topi (fun x4 ex4 => ?_)
  replace h := gLetI ex4 h
  refine lv_istore (lv' := [(6, .int x4), (5, .int x2), (0, .ref b), (1, .ref (gB Γ + 0)), (2, .ref (gB Γ + 174)), (3, .ref (gB Γ + 193)), (4, .int l4)]) hx hb dL_law_1356 hl (by decide) rfl (fun ls hl => ?_)
  refine lv_aload_n hx hb dL_law_1358 rfl (lv_at hl 4 rfl) ?_
  refine gCVi (rest := []) C0 cal_X10_thrown wl_L_104 wi_X10_thrown ws_X10_thrown ⟨Nat.le_of_ble_eq_true rfl, Nat.le_of_ble_eq_true rfl⟩ ⟨by rw [hr3]; omega, by rw [hr4]; omega⟩ grv_10 [] rfl (Nat.le_of_ble_eq_true rfl) hP hS hl.1 dL_law_1359 h (fun u hu => m_X10_thrown l Γ u3.2 u hu) (fun u5 H locs h hP hS => ?_) rfl
  refine lv_iload hx hb dL_law_1362 (lv_at hl 1 rfl) ?_
  refine lv_icmp_eq (tgt := 1369) hx hb dL_law_1364 (by decide) (fun c6 => ?_) (fun c6 => ?_)
  · replace h := gpos c6 h
    refine lv_iload hx hb dL_law_1369 (lv_at hl 1 rfl) ?_
    refine lv_if_ne (tgt := 1386) hx hb dL_law_1371 (by decide) (fun c7 => ?_) (fun c7 => ?_)
    · replace h := gneg c7 h
      refine lv_goto (tgt := 1727) hx hb dL_law_1386 (by decide) ?_
      obtain ⟨x8, ex8⟩ : ∃ y : Int32, y = l4 + (4 : Int32) := ⟨_, rfl⟩
      replace h := gLetI ex8 h
      refine lv_iinc (v := x8) (lv' := [(4, .int x8), (6, .int x4), (5, .int x2), (0, .ref b), (1, .ref (gB Γ + 0)), (2, .ref (gB Γ + 174)), (3, .ref (gB Γ + 193))]) hx hb dL_law_1727 hl (k := 6) rfl (by rw [ex8]; rfl) (by decide) rfl (fun ls hl => ?_)
      refine lv_goto (tgt := 23) hx hb dL_law_1730 (by decide) ?_
      refine W.widen (k := cells + 3) (n := slots + 18) (by omega) (by omega) ?_
      exact hF23 _ _ _ _ _ h hP hS (lv_sub hl [3, 4, 5, 6, 0] rfl)
    · replace h := gpos c7 h
      refine lv_aload_n hx hb dL_law_1374 rfl (lv_at hl 5 rfl) ?_
      refine lv_iconst (v := 0) hx hb dL_law_1375 (by decide) ?_
      refine gJld hx hb hK hP (is_193 hfull) dL_law_1376 h (fun h => ?_)
      refine lv_iload hx hb dL_law_1377 (lv_at hl 0 rfl) ?_
      refine lv_i2l hx hb dL_law_1379 rfl ?_
      refine W.lcmp hx hb dL_law_1380 ?_
      refine lv_if_eq (tgt := 1386) hx hb dL_law_1381 (by decide) (fun c9 => ?_) (fun c9 => ?_)
      · replace h := gpos c9 h
        refine lv_goto (tgt := 1727) hx hb dL_law_1386 (by decide) ?_
        obtain ⟨x10, ex10⟩ : ∃ y : Int32, y = l4 + (4 : Int32) := ⟨_, rfl⟩
        replace h := gLetI ex10 h
        refine lv_iinc (v := x10) (lv' := [(4, .int x10), (6, .int x4), (5, .int x2), (0, .ref b), (1, .ref (gB Γ + 0)), (2, .ref (gB Γ + 174)), (3, .ref (gB Γ + 193))]) hx hb dL_law_1727 hl (k := 6) rfl (by rw [ex10]; rfl) (by decide) rfl (fun ls hl => ?_)
        refine lv_goto (tgt := 23) hx hb dL_law_1730 (by decide) ?_
        refine W.widen (k := cells + 3) (n := slots + 18) (by omega) (by omega) ?_
        exact hF23 _ _ _ _ _ h hP hS (lv_sub hl [3, 4, 5, 6, 0] rfl)
      · replace h := gneg c9 h
        refine lv_iconst (v := 0) hx hb dL_law_1384 (by decide) ?_
        cases h
  · replace h := gneg c6 h
    refine lv_iconst (v := 0) hx hb dL_law_1367 (by decide) ?_
    cases h
set_option maxHeartbeats 4000000 in
set_option maxRecDepth 20000 in
theorem bs_L_law_1389 {p : Program} {l : Launch} (hst : l.stackTraces = false) {e : Env} {s : State} {m : MethodId} {below : List Frame} {meth : Method} {c : Code} {Γ : gE} (hfull : gFull Γ) {b L : Nat} {xs : Nat → Int32} (C0 : gCx p s m #[Value.ref b] meth c Γ RL code 7 ret) (hXs : va_X b L xs s s.heap) (hbl : b < s.heap.size) (hB : gB Γ = s.heap.size) {z : Unit} {cells slots : Nat} (hc : cells + 3 ≤ 601024) (hs : slots + 18 ≤ 7293034) {F23 : Int32 → gG → Option Unit} (hF23 : ∀ (l4 : Int32) (g : gG) (H : Heap) (locs : List Loc) (ls : Array Slot), F23 l4 g = some z → va_P (gD Γ) gcls (lay Γ g) H → va_S (gA Γ) s.heap H locs → lv_has ls 7 [(0, .ref b), (1, .ref (gB Γ + 0)), (2, .ref (gB Γ + 174)), (3, .ref (gB Γ + 193)), (4, .int l4)] → W p l e room_1 s m #[Value.ref b] below meth c H locs (cells + 3) (slots + 18) (lw_Z below #[Value.ref b] s) (F0 m 23 ls [])) {l4 : Int32} {g : gG} {H : Heap} {locs : List Loc} {ls : Array Slot} (h : fs_L_law_1389 L xs F23 l4 g = some z) (hP : va_P (gD Γ) gcls (lay Γ g) H) (hS : va_S (gA Γ) s.heap H locs) (hl : lv_has ls 7 [(0, .ref b), (1, .ref (gB Γ + 0)), (2, .ref (gB Γ + 174)), (3, .ref (gB Γ + 193)), (4, .int l4)]) : W p l e room_1 s m #[Value.ref b] below meth c H locs cells slots (lw_Z below #[Value.ref b] s) (F0 m 1389 ls []) := by
  unfold fs_L_law_1389 at h
  obtain ⟨hx, hb, hml, hr, hown, hts, hK, hlk, hX⟩ := id C0
  have hbA : ¬ gA Γ b := by unfold gA; omega
  have hr3 : room_1.cells = 601024 := rfl
  have hr4 : room_1.slots = 7293034 := rfl
  refine lv_aload_n hx hb dL_law_1389 rfl (lv_at hl 1 rfl) ?_
  refine gCVi (rest := []) C0 cal_X9_deadEnds wl_L_175 wi_X9_deadEnds ws_X9_deadEnds ⟨Nat.le_of_ble_eq_true rfl, Nat.le_of_ble_eq_true rfl⟩ ⟨by rw [hr3]; omega, by rw [hr4]; omega⟩ grv_9 [] rfl (Nat.le_of_ble_eq_true rfl) hP hS hl.1 dL_law_1390 h (fun u hu => m_X9_deadEnds l Γ g u hu) (fun u1 H locs h hP hS => ?_) rfl
  refine lv_aload_n hx hb dL_law_1393 rfl (lv_at hl 2 rfl) ?_
  refine gCVi (rest := [.int u1.1]) C0 cal_X10_deadEnds wl_L_178 wi_X10_deadEnds ws_X10_deadEnds ⟨Nat.le_of_ble_eq_true rfl, Nat.le_of_ble_eq_true rfl⟩ ⟨by rw [hr3]; omega, by rw [hr4]; omega⟩ grv_10 [] rfl (Nat.le_of_ble_eq_true rfl) hP hS hl.1 dL_law_1394 h (fun u hu => m_X10_deadEnds l Γ u1.2 u hu) (fun u2 H locs h hP hS => ?_) rfl
  refine lv_icmp_eq (tgt := 1727) hx hb dL_law_1397 (by decide) (fun c3 => ?_) (fun c3 => ?_)
  · replace h := gpos c3 h
    obtain ⟨x4, ex4⟩ : ∃ y : Int32, y = l4 + (4 : Int32) := ⟨_, rfl⟩
    replace h := gLetI ex4 h
    refine lv_iinc (v := x4) (lv' := [(4, .int x4), (0, .ref b), (1, .ref (gB Γ + 0)), (2, .ref (gB Γ + 174)), (3, .ref (gB Γ + 193))]) hx hb dL_law_1727 hl (k := 4) rfl (by rw [ex4]; rfl) (by decide) rfl (fun ls hl => ?_)
    refine lv_goto (tgt := 23) hx hb dL_law_1730 (by decide) ?_
    refine W.widen (k := cells + 3) (n := slots + 18) (by omega) (by omega) ?_
    exact hF23 _ _ _ _ _ h hP hS (lv_sub hl [1, 2, 3, 4, 0] rfl)
  · replace h := gneg c3 h
    refine lv_iconst (v := 0) hx hb dL_law_1400 (by decide) ?_
    cases h
set_option maxHeartbeats 4000000 in
set_option maxRecDepth 20000 in
theorem bs_L_law_1402 {p : Program} {l : Launch} (hst : l.stackTraces = false) {e : Env} {s : State} {m : MethodId} {below : List Frame} {meth : Method} {c : Code} {Γ : gE} (hfull : gFull Γ) {b L : Nat} {xs : Nat → Int32} (C0 : gCx p s m #[Value.ref b] meth c Γ RL code 7 ret) (hXs : va_X b L xs s s.heap) (hbl : b < s.heap.size) (hB : gB Γ = s.heap.size) {z : Unit} {cells slots : Nat} (hc : cells + 3 ≤ 601024) (hs : slots + 18 ≤ 7293034) {F23 : Int32 → gG → Option Unit} (hF23 : ∀ (l4 : Int32) (g : gG) (H : Heap) (locs : List Loc) (ls : Array Slot), F23 l4 g = some z → va_P (gD Γ) gcls (lay Γ g) H → va_S (gA Γ) s.heap H locs → lv_has ls 7 [(0, .ref b), (1, .ref (gB Γ + 0)), (2, .ref (gB Γ + 174)), (3, .ref (gB Γ + 193)), (4, .int l4)] → W p l e room_1 s m #[Value.ref b] below meth c H locs (cells + 3) (slots + 18) (lw_Z below #[Value.ref b] s) (F0 m 23 ls [])) {l4 : Int32} {g : gG} {H : Heap} {locs : List Loc} {ls : Array Slot} (h : fs_L_law_1402 L xs F23 l4 g = some z) (hP : va_P (gD Γ) gcls (lay Γ g) H) (hS : va_S (gA Γ) s.heap H locs) (hl : lv_has ls 7 [(0, .ref b), (1, .ref (gB Γ + 0)), (2, .ref (gB Γ + 174)), (3, .ref (gB Γ + 193)), (4, .int l4)]) : W p l e room_1 s m #[Value.ref b] below meth c H locs cells slots (lw_Z below #[Value.ref b] s) (F0 m 1402 ls []) := by
  unfold fs_L_law_1402 at h
  obtain ⟨hx, hb, hml, hr, hown, hts, hK, hlk, hX⟩ := id C0
  have hbA : ¬ gA Γ b := by unfold gA; omega
  have hr3 : room_1.cells = 601024 := rfl
  have hr4 : room_1.slots = 7293034 := rfl
  refine lv_aload_n hx hb dL_law_1402 rfl (lv_at hl 1 rfl) ?_
  refine gCVi (rest := []) C0 cal_X9_easeBy wl_L_179 wi_X9_easeBy ws_X9_easeBy ⟨Nat.le_of_ble_eq_true rfl, Nat.le_of_ble_eq_true rfl⟩ ⟨by rw [hr3]; omega, by rw [hr4]; omega⟩ grv_9 [] rfl (Nat.le_of_ble_eq_true rfl) hP hS hl.1 dL_law_1403 h (fun u hu => m_X9_easeBy l Γ g u hu) (fun u1 H locs h hP hS => ?_) rfl
  refine lv_aload_n hx hb dL_law_1406 rfl (lv_at hl 2 rfl) ?_
  refine gCVi (rest := [.int u1.1]) C0 cal_X10_easeBy wl_L_182 wi_X10_easeBy ws_X10_easeBy ⟨Nat.le_of_ble_eq_true rfl, Nat.le_of_ble_eq_true rfl⟩ ⟨by rw [hr3]; omega, by rw [hr4]; omega⟩ grv_10 [] rfl (Nat.le_of_ble_eq_true rfl) hP hS hl.1 dL_law_1407 h (fun u hu => m_X10_easeBy l Γ u1.2 u hu) (fun u2 H locs h hP hS => ?_) rfl
  refine lv_icmp_eq (tgt := 1727) hx hb dL_law_1410 (by decide) (fun c3 => ?_) (fun c3 => ?_)
  · replace h := gpos c3 h
    obtain ⟨x4, ex4⟩ : ∃ y : Int32, y = l4 + (4 : Int32) := ⟨_, rfl⟩
    replace h := gLetI ex4 h
    refine lv_iinc (v := x4) (lv' := [(4, .int x4), (0, .ref b), (1, .ref (gB Γ + 0)), (2, .ref (gB Γ + 174)), (3, .ref (gB Γ + 193))]) hx hb dL_law_1727 hl (k := 4) rfl (by rw [ex4]; rfl) (by decide) rfl (fun ls hl => ?_)
    refine lv_goto (tgt := 23) hx hb dL_law_1730 (by decide) ?_
    refine W.widen (k := cells + 3) (n := slots + 18) (by omega) (by omega) ?_
    exact hF23 _ _ _ _ _ h hP hS (lv_sub hl [1, 2, 3, 4, 0] rfl)
  · replace h := gneg c3 h
    refine lv_iconst (v := 0) hx hb dL_law_1413 (by decide) ?_
    cases h
set_option maxHeartbeats 4000000 in
set_option maxRecDepth 20000 in
theorem bs_L_law_1415 {p : Program} {l : Launch} (hst : l.stackTraces = false) {e : Env} {s : State} {m : MethodId} {below : List Frame} {meth : Method} {c : Code} {Γ : gE} (hfull : gFull Γ) {b L : Nat} {xs : Nat → Int32} (C0 : gCx p s m #[Value.ref b] meth c Γ RL code 7 ret) (hXs : va_X b L xs s s.heap) (hbl : b < s.heap.size) (hB : gB Γ = s.heap.size) {z : Unit} {cells slots : Nat} (hc : cells + 3 ≤ 601024) (hs : slots + 18 ≤ 7293034) {F23 : Int32 → gG → Option Unit} (hF23 : ∀ (l4 : Int32) (g : gG) (H : Heap) (locs : List Loc) (ls : Array Slot), F23 l4 g = some z → va_P (gD Γ) gcls (lay Γ g) H → va_S (gA Γ) s.heap H locs → lv_has ls 7 [(0, .ref b), (1, .ref (gB Γ + 0)), (2, .ref (gB Γ + 174)), (3, .ref (gB Γ + 193)), (4, .int l4)] → W p l e room_1 s m #[Value.ref b] below meth c H locs (cells + 3) (slots + 18) (lw_Z below #[Value.ref b] s) (F0 m 23 ls [])) {l4 : Int32} {g : gG} {H : Heap} {locs : List Loc} {ls : Array Slot} (h : fs_L_law_1415 L xs F23 l4 g = some z) (hP : va_P (gD Γ) gcls (lay Γ g) H) (hS : va_S (gA Γ) s.heap H locs) (hl : lv_has ls 7 [(0, .ref b), (1, .ref (gB Γ + 0)), (2, .ref (gB Γ + 174)), (3, .ref (gB Γ + 193)), (4, .int l4)]) : W p l e room_1 s m #[Value.ref b] below meth c H locs cells slots (lw_Z below #[Value.ref b] s) (F0 m 1415 ls []) := by
  unfold fs_L_law_1415 at h
  obtain ⟨hx, hb, hml, hr, hown, hts, hK, hlk, hX⟩ := id C0
  have hbA : ¬ gA Γ b := by unfold gA; omega
  have hr3 : room_1.cells = 601024 := rfl
  have hr4 : room_1.slots = 7293034 := rfl
  refine lv_aload_n hx hb dL_law_1415 rfl (lv_at hl 1 rfl) ?_
  refine lv_aload_n hx hb dL_law_1416 rfl (lv_at hl 0 rfl) ?_
  refine lv_iload hx hb dL_law_1417 (lv_at hl 4 rfl) ?_
  refine lv_iconst (v := 1) hx hb dL_law_1419 (by decide) ?_
  refine lv_iadd hx hb dL_law_1420 ?_
  refine gSld' (Γ := Γ) hx hb hXs hbl hbA hS dL_law_1421 h (fun h => ?_)
  refine lv_aload_n hx hb dL_law_1422 rfl (lv_at hl 0 rfl) ?_
  refine lv_iload hx hb dL_law_1423 (lv_at hl 4 rfl) ?_
  refine lv_iconst (v := 2) hx hb dL_law_1425 (by decide) ?_
  refine lv_iadd hx hb dL_law_1426 ?_
  refine gSld' (Γ := Γ) hx hb hXs hbl hbA hS dL_law_1427 h (fun h => ?_)
  refine lv_i2l hx hb dL_law_1428 rfl ?_
  refine lv_bipush (v := 32) hx hb dL_law_1429 (by decide) ?_
  refine lv_lshl hx hb dL_law_1431 rfl ?_
  refine lv_aload_n hx hb dL_law_1432 rfl (lv_at hl 0 rfl) ?_
  refine lv_iload hx hb dL_law_1433 (lv_at hl 4 rfl) ?_
  refine lv_iconst (v := 3) hx hb dL_law_1435 (by decide) ?_
  refine lv_iadd hx hb dL_law_1436 ?_
  refine gSld' (Γ := Γ) hx hb hXs hbl hbA hS dL_law_1437 h (fun h => ?_)
  refine lv_i2l hx hb dL_law_1438 rfl ?_
  refine lv_ldc2 (v := 4294967295) hx hb hown (hts _ wkl_L_183) dL_law_1439 ?_
  refine lv_land hx hb dL_law_1442 ?_
  refine lv_lor hx hb dL_law_1443 ?_
  refine lv_aload_n hx hb dL_law_1444 rfl (lv_at hl 3 rfl) ?_
  refine gCH (n2 := 4) (mc2 := 1) (ms2 := 6) (rest := []) C0 wcw_L_runScript wn_L (by decide +kernel) wl_L_185 wt_L_runScript ⟨Nat.le_of_ble_eq_true rfl, Nat.le_of_ble_eq_true rfl⟩ ⟨by rw [hr3]; omega, by rw [hr4]; omega⟩ [.ref (gB Γ + 0), .int (xs (l4 + (1 : Int32)).toNatClampNeg), .long (((xs (l4 + (2 : Int32)).toNatClampNeg).toInt64 <<< ((32 : Int32).toInt64 &&& 63)) ||| ((xs (l4 + (3 : Int32)).toNatClampNeg).toInt64 &&& (4294967295 : Int64))), .ref (gB Γ + 193)] rfl (Nat.le_of_ble_eq_true rfl) hP hS hl.1 dL_law_1445 h (fun u hu => m_L_runScript l hst Γ hfull (xs (l4 + (1 : Int32)).toNatClampNeg) (((xs (l4 + (2 : Int32)).toNatClampNeg).toInt64 <<< ((32 : Int32).toInt64 &&& 63)) ||| ((xs (l4 + (3 : Int32)).toNatClampNeg).toInt64 &&& (4294967295 : Int64))) g u hu) (fun u1 H locs h hP hS => ?_) rfl
  refine lv_topi (fun x2 ex2 => ?_)
  replace h := gLetI ex2 h
  refine lv_istore (lv' := [(5, .int x2), (0, .ref b), (1, .ref (gB Γ + 0)), (2, .ref (gB Γ + 174)), (3, .ref (gB Γ + 193)), (4, .int l4)]) hx hb dL_law_1448 hl (by decide) rfl (fun ls hl => ?_)
  refine lv_aload_n hx hb dL_law_1450 rfl (lv_at hl 3 rfl) ?_
  refine lv_aload_n hx hb dL_law_1451 rfl (lv_at hl 1 rfl) ?_
  refine lv_iload hx hb dL_law_1452 (lv_at hl 5 rfl) ?_
  refine lv_iconst (v := 1) hx hb dL_law_1454 (by decide) ?_
  refine lv_iadd hx hb dL_law_1455 ?_
  refine gSld' (Γ := Γ) hx hb hXs hbl hbA hS dL_law_1456 h (fun h => ?_)
  refine lv_aload_n hx hb dL_law_1457 rfl (lv_at hl 1 rfl) ?_
  refine lv_iload hx hb dL_law_1458 (lv_at hl 5 rfl) ?_
  refine lv_iconst (v := 2) hx hb dL_law_1460 (by decide) ?_
  refine lv_iadd hx hb dL_law_1461 ?_
  refine gSld' (Γ := Γ) hx hb hXs hbl hbA hS dL_law_1462 h (fun h => ?_)
  refine lv_i2l hx hb dL_law_1463 rfl ?_
  refine lv_bipush (v := 32) hx hb dL_law_1464 (by decide) ?_
  refine lv_lshl hx hb dL_law_1466 rfl ?_
  refine lv_aload_n hx hb dL_law_1467 rfl (lv_at hl 1 rfl) ?_
  refine lv_iload hx hb dL_law_1468 (lv_at hl 5 rfl) ?_
  refine lv_iconst (v := 3) hx hb dL_law_1470 (by decide) ?_
  refine lv_iadd hx hb dL_law_1471 ?_
  refine gSld' (Γ := Γ) hx hb hXs hbl hbA hS dL_law_1472 h (fun h => ?_)
  refine lv_i2l hx hb dL_law_1473 rfl ?_
  refine lv_ldc2 (v := 4294967295) hx hb hown (hts _ wkl_L_183) dL_law_1474 ?_
  refine lv_land hx hb dL_law_1477 ?_
  refine lv_lor hx hb dL_law_1478 ?_
  refine gCVi (rest := []) C0 cal_X10_runScript wl_L_188 wi_X10_runScript ws_X10_runScript ⟨Nat.le_of_ble_eq_true rfl, Nat.le_of_ble_eq_true rfl⟩ ⟨by rw [hr3]; omega, by rw [hr4]; omega⟩ grv_10 [.int (xs (l4 + (1 : Int32)).toNatClampNeg), .long (((xs (l4 + (2 : Int32)).toNatClampNeg).toInt64 <<< ((32 : Int32).toInt64 &&& 63)) ||| ((xs (l4 + (3 : Int32)).toNatClampNeg).toInt64 &&& (4294967295 : Int64)))] rfl (Nat.le_of_ble_eq_true rfl) hP hS hl.1 dL_law_1479 h (fun u hu => m_X10_runScript l Γ (xs (l4 + (1 : Int32)).toNatClampNeg) (((xs (l4 + (2 : Int32)).toNatClampNeg).toInt64 <<< ((32 : Int32).toInt64 &&& 63)) ||| ((xs (l4 + (3 : Int32)).toNatClampNeg).toInt64 &&& (4294967295 : Int64))) u1.2 u hu) (fun u3 H locs h hP hS => ?_) rfl
  refine lv_topi (fun x4 ex4 => ?_)
  replace h := gLetI ex4 h
  refine lv_istore (lv' := [(6, .int x4), (5, .int x2), (0, .ref b), (1, .ref (gB Γ + 0)), (2, .ref (gB Γ + 174)), (3, .ref (gB Γ + 193)), (4, .int l4)]) hx hb dL_law_1482 hl (by decide) rfl (fun ls hl => ?_)
  refine lv_aload_n hx hb dL_law_1484 rfl (lv_at hl 4 rfl) ?_
  refine gCVi (rest := []) C0 cal_X10_thrown wl_L_104 wi_X10_thrown ws_X10_thrown ⟨Nat.le_of_ble_eq_true rfl, Nat.le_of_ble_eq_true rfl⟩ ⟨by rw [hr3]; omega, by rw [hr4]; omega⟩ grv_10 [] rfl (Nat.le_of_ble_eq_true rfl) hP hS hl.1 dL_law_1485 h (fun u hu => m_X10_thrown l Γ u3.2 u hu) (fun u5 H locs h hP hS => ?_) rfl
  refine lv_iload hx hb dL_law_1488 (lv_at hl 1 rfl) ?_
  refine lv_icmp_eq (tgt := 1495) hx hb dL_law_1490 (by decide) (fun c6 => ?_) (fun c6 => ?_)
  · replace h := gpos c6 h
    refine lv_iload hx hb dL_law_1495 (lv_at hl 1 rfl) ?_
    refine lv_if_ne (tgt := 1512) hx hb dL_law_1497 (by decide) (fun c7 => ?_) (fun c7 => ?_)
    · replace h := gneg c7 h
      refine lv_goto (tgt := 1727) hx hb dL_law_1512 (by decide) ?_
      obtain ⟨x8, ex8⟩ : ∃ y : Int32, y = l4 + (4 : Int32) := ⟨_, rfl⟩
      replace h := gLetI ex8 h
      refine lv_iinc (v := x8) (lv' := [(4, .int x8), (6, .int x4), (5, .int x2), (0, .ref b), (1, .ref (gB Γ + 0)), (2, .ref (gB Γ + 174)), (3, .ref (gB Γ + 193))]) hx hb dL_law_1727 hl (k := 6) rfl (by rw [ex8]; rfl) (by decide) rfl (fun ls hl => ?_)
      refine lv_goto (tgt := 23) hx hb dL_law_1730 (by decide) ?_
      refine W.widen (k := cells + 3) (n := slots + 18) (by omega) (by omega) ?_
      exact hF23 _ _ _ _ _ h hP hS (lv_sub hl [3, 4, 5, 6, 0] rfl)
    · replace h := gpos c7 h
      refine lv_aload_n hx hb dL_law_1500 rfl (lv_at hl 5 rfl) ?_
      refine lv_iconst (v := 0) hx hb dL_law_1501 (by decide) ?_
      refine gJld hx hb hK hP (is_193 hfull) dL_law_1502 h (fun h => ?_)
      refine lv_iload hx hb dL_law_1503 (lv_at hl 0 rfl) ?_
      refine lv_i2l hx hb dL_law_1505 rfl ?_
      refine W.lcmp hx hb dL_law_1506 ?_
      refine lv_if_eq (tgt := 1512) hx hb dL_law_1507 (by decide) (fun c9 => ?_) (fun c9 => ?_)
      · replace h := gpos c9 h
        refine lv_goto (tgt := 1727) hx hb dL_law_1512 (by decide) ?_
        obtain ⟨x10, ex10⟩ : ∃ y : Int32, y = l4 + (4 : Int32) := ⟨_, rfl⟩
        replace h := gLetI ex10 h
        refine lv_iinc (v := x10) (lv' := [(4, .int x10), (6, .int x4), (5, .int x2), (0, .ref b), (1, .ref (gB Γ + 0)), (2, .ref (gB Γ + 174)), (3, .ref (gB Γ + 193))]) hx hb dL_law_1727 hl (k := 6) rfl (by rw [ex10]; rfl) (by decide) rfl (fun ls hl => ?_)
        refine lv_goto (tgt := 23) hx hb dL_law_1730 (by decide) ?_
        refine W.widen (k := cells + 3) (n := slots + 18) (by omega) (by omega) ?_
        exact hF23 _ _ _ _ _ h hP hS (lv_sub hl [3, 4, 5, 6, 0] rfl)
      · replace h := gneg c9 h
        refine lv_iconst (v := 0) hx hb dL_law_1510 (by decide) ?_
        cases h
  · replace h := gneg c6 h
    refine lv_iconst (v := 0) hx hb dL_law_1493 (by decide) ?_
    cases h
set_option maxHeartbeats 4000000 in
set_option maxRecDepth 20000 in
theorem bs_L_law_1515 {p : Program} {l : Launch} (hst : l.stackTraces = false) {e : Env} {s : State} {m : MethodId} {below : List Frame} {meth : Method} {c : Code} {Γ : gE} (hfull : gFull Γ) {b L : Nat} {xs : Nat → Int32} (C0 : gCx p s m #[Value.ref b] meth c Γ RL code 7 ret) (hXs : va_X b L xs s s.heap) (hbl : b < s.heap.size) (hB : gB Γ = s.heap.size) {z : Unit} {cells slots : Nat} (hc : cells + 3 ≤ 601024) (hs : slots + 18 ≤ 7293034) {F23 : Int32 → gG → Option Unit} (hF23 : ∀ (l4 : Int32) (g : gG) (H : Heap) (locs : List Loc) (ls : Array Slot), F23 l4 g = some z → va_P (gD Γ) gcls (lay Γ g) H → va_S (gA Γ) s.heap H locs → lv_has ls 7 [(0, .ref b), (1, .ref (gB Γ + 0)), (2, .ref (gB Γ + 174)), (3, .ref (gB Γ + 193)), (4, .int l4)] → W p l e room_1 s m #[Value.ref b] below meth c H locs (cells + 3) (slots + 18) (lw_Z below #[Value.ref b] s) (F0 m 23 ls [])) {l4 : Int32} {g : gG} {H : Heap} {locs : List Loc} {ls : Array Slot} (h : fs_L_law_1515 L xs F23 l4 g = some z) (hP : va_P (gD Γ) gcls (lay Γ g) H) (hS : va_S (gA Γ) s.heap H locs) (hl : lv_has ls 7 [(0, .ref b), (1, .ref (gB Γ + 0)), (2, .ref (gB Γ + 174)), (3, .ref (gB Γ + 193)), (4, .int l4)]) : W p l e room_1 s m #[Value.ref b] below meth c H locs cells slots (lw_Z below #[Value.ref b] s) (F0 m 1515 ls []) := by
  unfold fs_L_law_1515 at h
  obtain ⟨hx, hb, hml, hr, hown, hts, hK, hlk, hX⟩ := id C0
  have hbA : ¬ gA Γ b := by unfold gA; omega
  have hr3 : room_1.cells = 601024 := rfl
  have hr4 : room_1.slots = 7293034 := rfl
  refine lv_aload_n hx hb dL_law_1515 rfl (lv_at hl 1 rfl) ?_
  refine lv_aload_n hx hb dL_law_1516 rfl (lv_at hl 0 rfl) ?_
  refine lv_iload hx hb dL_law_1517 (lv_at hl 4 rfl) ?_
  refine lv_iconst (v := 1) hx hb dL_law_1519 (by decide) ?_
  refine lv_iadd hx hb dL_law_1520 ?_
  refine gSld' (Γ := Γ) hx hb hXs hbl hbA hS dL_law_1521 h (fun h => ?_)
  refine lv_i2l hx hb dL_law_1522 rfl ?_
  refine lv_bipush (v := 32) hx hb dL_law_1523 (by decide) ?_
  refine lv_lshl hx hb dL_law_1525 rfl ?_
  refine lv_aload_n hx hb dL_law_1526 rfl (lv_at hl 0 rfl) ?_
  refine lv_iload hx hb dL_law_1527 (lv_at hl 4 rfl) ?_
  refine lv_iconst (v := 2) hx hb dL_law_1529 (by decide) ?_
  refine lv_iadd hx hb dL_law_1530 ?_
  refine gSld' (Γ := Γ) hx hb hXs hbl hbA hS dL_law_1531 h (fun h => ?_)
  refine lv_i2l hx hb dL_law_1532 rfl ?_
  refine lv_ldc2 (v := 4294967295) hx hb hown (hts _ wkl_L_183) dL_law_1533 ?_
  refine lv_land hx hb dL_law_1536 ?_
  refine lv_lor hx hb dL_law_1537 ?_
  refine lv_aload_n hx hb dL_law_1538 rfl (lv_at hl 0 rfl) ?_
  refine lv_iload hx hb dL_law_1539 (lv_at hl 4 rfl) ?_
  refine lv_iconst (v := 3) hx hb dL_law_1541 (by decide) ?_
  refine lv_iadd hx hb dL_law_1542 ?_
  refine gSld' (Γ := Γ) hx hb hXs hbl hbA hS dL_law_1543 h (fun h => ?_)
  refine lv_aload_n hx hb dL_law_1544 rfl (lv_at hl 3 rfl) ?_
  refine gCH (n2 := 4) (mc2 := 1) (ms2 := 6) (rest := []) C0 wcw_L_simulate wn_L (by decide +kernel) wl_L_189 wt_L_simulate ⟨Nat.le_of_ble_eq_true rfl, Nat.le_of_ble_eq_true rfl⟩ ⟨by rw [hr3]; omega, by rw [hr4]; omega⟩ [.ref (gB Γ + 0), .long (((xs (l4 + (1 : Int32)).toNatClampNeg).toInt64 <<< ((32 : Int32).toInt64 &&& 63)) ||| ((xs (l4 + (2 : Int32)).toNatClampNeg).toInt64 &&& (4294967295 : Int64))), .int (xs (l4 + (3 : Int32)).toNatClampNeg), .ref (gB Γ + 193)] rfl (Nat.le_of_ble_eq_true rfl) hP hS hl.1 dL_law_1545 h (fun u hu => m_L_simulate l hst Γ hfull (((xs (l4 + (1 : Int32)).toNatClampNeg).toInt64 <<< ((32 : Int32).toInt64 &&& 63)) ||| ((xs (l4 + (2 : Int32)).toNatClampNeg).toInt64 &&& (4294967295 : Int64))) (xs (l4 + (3 : Int32)).toNatClampNeg) g u hu) (fun u1 H locs h hP hS => ?_) rfl
  refine lv_topi (fun x2 ex2 => ?_)
  replace h := gLetI ex2 h
  refine lv_istore (lv' := [(5, .int x2), (0, .ref b), (1, .ref (gB Γ + 0)), (2, .ref (gB Γ + 174)), (3, .ref (gB Γ + 193)), (4, .int l4)]) hx hb dL_law_1548 hl (by decide) rfl (fun ls hl => ?_)
  refine lv_aload_n hx hb dL_law_1550 rfl (lv_at hl 3 rfl) ?_
  refine lv_aload_n hx hb dL_law_1551 rfl (lv_at hl 1 rfl) ?_
  refine lv_iload hx hb dL_law_1552 (lv_at hl 5 rfl) ?_
  refine lv_iconst (v := 1) hx hb dL_law_1554 (by decide) ?_
  refine lv_iadd hx hb dL_law_1555 ?_
  refine gSld' (Γ := Γ) hx hb hXs hbl hbA hS dL_law_1556 h (fun h => ?_)
  refine lv_i2l hx hb dL_law_1557 rfl ?_
  refine lv_bipush (v := 32) hx hb dL_law_1558 (by decide) ?_
  refine lv_lshl hx hb dL_law_1560 rfl ?_
  refine lv_aload_n hx hb dL_law_1561 rfl (lv_at hl 1 rfl) ?_
  refine lv_iload hx hb dL_law_1562 (lv_at hl 5 rfl) ?_
  refine lv_iconst (v := 2) hx hb dL_law_1564 (by decide) ?_
  refine lv_iadd hx hb dL_law_1565 ?_
  refine gSld' (Γ := Γ) hx hb hXs hbl hbA hS dL_law_1566 h (fun h => ?_)
  refine lv_i2l hx hb dL_law_1567 rfl ?_
  refine lv_ldc2 (v := 4294967295) hx hb hown (hts _ wkl_L_183) dL_law_1568 ?_
  refine lv_land hx hb dL_law_1571 ?_
  refine lv_lor hx hb dL_law_1572 ?_
  refine lv_aload_n hx hb dL_law_1573 rfl (lv_at hl 1 rfl) ?_
  refine lv_iload hx hb dL_law_1574 (lv_at hl 5 rfl) ?_
  refine lv_iconst (v := 3) hx hb dL_law_1576 (by decide) ?_
  refine lv_iadd hx hb dL_law_1577 ?_
  refine gSld' (Γ := Γ) hx hb hXs hbl hbA hS dL_law_1578 h (fun h => ?_)
  refine gCVi (rest := []) C0 cal_X10_simulate wl_L_192 wi_X10_simulate ws_X10_simulate ⟨Nat.le_of_ble_eq_true rfl, Nat.le_of_ble_eq_true rfl⟩ ⟨by rw [hr3]; omega, by rw [hr4]; omega⟩ grv_10 [.long (((xs (l4 + (1 : Int32)).toNatClampNeg).toInt64 <<< ((32 : Int32).toInt64 &&& 63)) ||| ((xs (l4 + (2 : Int32)).toNatClampNeg).toInt64 &&& (4294967295 : Int64))), .int (xs (l4 + (3 : Int32)).toNatClampNeg)] rfl (Nat.le_of_ble_eq_true rfl) hP hS hl.1 dL_law_1579 h (fun u hu => m_X10_simulate l Γ (((xs (l4 + (1 : Int32)).toNatClampNeg).toInt64 <<< ((32 : Int32).toInt64 &&& 63)) ||| ((xs (l4 + (2 : Int32)).toNatClampNeg).toInt64 &&& (4294967295 : Int64))) (xs (l4 + (3 : Int32)).toNatClampNeg) u1.2 u hu) (fun u3 H locs h hP hS => ?_) rfl
  refine lv_topi (fun x4 ex4 => ?_)
  replace h := gLetI ex4 h
  refine lv_istore (lv' := [(6, .int x4), (5, .int x2), (0, .ref b), (1, .ref (gB Γ + 0)), (2, .ref (gB Γ + 174)), (3, .ref (gB Γ + 193)), (4, .int l4)]) hx hb dL_law_1582 hl (by decide) rfl (fun ls hl => ?_)
  refine lv_aload_n hx hb dL_law_1584 rfl (lv_at hl 4 rfl) ?_
  refine gCVi (rest := []) C0 cal_X10_thrown wl_L_104 wi_X10_thrown ws_X10_thrown ⟨Nat.le_of_ble_eq_true rfl, Nat.le_of_ble_eq_true rfl⟩ ⟨by rw [hr3]; omega, by rw [hr4]; omega⟩ grv_10 [] rfl (Nat.le_of_ble_eq_true rfl) hP hS hl.1 dL_law_1585 h (fun u hu => m_X10_thrown l Γ u3.2 u hu) (fun u5 H locs h hP hS => ?_) rfl
  refine lv_iload hx hb dL_law_1588 (lv_at hl 1 rfl) ?_
  refine lv_icmp_eq (tgt := 1595) hx hb dL_law_1590 (by decide) (fun c6 => ?_) (fun c6 => ?_)
  · replace h := gpos c6 h
    refine lv_iload hx hb dL_law_1595 (lv_at hl 1 rfl) ?_
    refine lv_if_ne (tgt := 1612) hx hb dL_law_1597 (by decide) (fun c7 => ?_) (fun c7 => ?_)
    · replace h := gneg c7 h
      refine lv_goto (tgt := 1727) hx hb dL_law_1612 (by decide) ?_
      obtain ⟨x8, ex8⟩ : ∃ y : Int32, y = l4 + (4 : Int32) := ⟨_, rfl⟩
      replace h := gLetI ex8 h
      refine lv_iinc (v := x8) (lv' := [(4, .int x8), (6, .int x4), (5, .int x2), (0, .ref b), (1, .ref (gB Γ + 0)), (2, .ref (gB Γ + 174)), (3, .ref (gB Γ + 193))]) hx hb dL_law_1727 hl (k := 6) rfl (by rw [ex8]; rfl) (by decide) rfl (fun ls hl => ?_)
      refine lv_goto (tgt := 23) hx hb dL_law_1730 (by decide) ?_
      refine W.widen (k := cells + 3) (n := slots + 18) (by omega) (by omega) ?_
      exact hF23 _ _ _ _ _ h hP hS (lv_sub hl [3, 4, 5, 6, 0] rfl)
    · replace h := gpos c7 h
      refine lv_aload_n hx hb dL_law_1600 rfl (lv_at hl 5 rfl) ?_
      refine lv_iconst (v := 0) hx hb dL_law_1601 (by decide) ?_
      refine gJld hx hb hK hP (is_193 hfull) dL_law_1602 h (fun h => ?_)
      refine lv_iload hx hb dL_law_1603 (lv_at hl 0 rfl) ?_
      refine lv_i2l hx hb dL_law_1605 rfl ?_
      refine W.lcmp hx hb dL_law_1606 ?_
      refine lv_if_eq (tgt := 1612) hx hb dL_law_1607 (by decide) (fun c9 => ?_) (fun c9 => ?_)
      · replace h := gpos c9 h
        refine lv_goto (tgt := 1727) hx hb dL_law_1612 (by decide) ?_
        obtain ⟨x10, ex10⟩ : ∃ y : Int32, y = l4 + (4 : Int32) := ⟨_, rfl⟩
        replace h := gLetI ex10 h
        refine lv_iinc (v := x10) (lv' := [(4, .int x10), (6, .int x4), (5, .int x2), (0, .ref b), (1, .ref (gB Γ + 0)), (2, .ref (gB Γ + 174)), (3, .ref (gB Γ + 193))]) hx hb dL_law_1727 hl (k := 6) rfl (by rw [ex10]; rfl) (by decide) rfl (fun ls hl => ?_)
        refine lv_goto (tgt := 23) hx hb dL_law_1730 (by decide) ?_
        refine W.widen (k := cells + 3) (n := slots + 18) (by omega) (by omega) ?_
        exact hF23 _ _ _ _ _ h hP hS (lv_sub hl [3, 4, 5, 6, 0] rfl)
      · replace h := gneg c9 h
        refine lv_iconst (v := 0) hx hb dL_law_1610 (by decide) ?_
        cases h
  · replace h := gneg c6 h
    refine lv_iconst (v := 0) hx hb dL_law_1593 (by decide) ?_
    cases h
set_option maxHeartbeats 4000000 in
set_option maxRecDepth 20000 in
theorem bs_L_law_1615 {p : Program} {l : Launch} (hst : l.stackTraces = false) {e : Env} {s : State} {m : MethodId} {below : List Frame} {meth : Method} {c : Code} {Γ : gE} (hfull : gFull Γ) {b L : Nat} {xs : Nat → Int32} (C0 : gCx p s m #[Value.ref b] meth c Γ RL code 7 ret) (hXs : va_X b L xs s s.heap) (hbl : b < s.heap.size) (hB : gB Γ = s.heap.size) {z : Unit} {cells slots : Nat} (hc : cells + 3 ≤ 601024) (hs : slots + 18 ≤ 7293034) {F23 : Int32 → gG → Option Unit} (hF23 : ∀ (l4 : Int32) (g : gG) (H : Heap) (locs : List Loc) (ls : Array Slot), F23 l4 g = some z → va_P (gD Γ) gcls (lay Γ g) H → va_S (gA Γ) s.heap H locs → lv_has ls 7 [(0, .ref b), (1, .ref (gB Γ + 0)), (2, .ref (gB Γ + 174)), (3, .ref (gB Γ + 193)), (4, .int l4)] → W p l e room_1 s m #[Value.ref b] below meth c H locs (cells + 3) (slots + 18) (lw_Z below #[Value.ref b] s) (F0 m 23 ls [])) {l4 : Int32} {g : gG} {H : Heap} {locs : List Loc} {ls : Array Slot} (h : fs_L_law_1615 L xs F23 l4 g = some z) (hP : va_P (gD Γ) gcls (lay Γ g) H) (hS : va_S (gA Γ) s.heap H locs) (hl : lv_has ls 7 [(0, .ref b), (1, .ref (gB Γ + 0)), (2, .ref (gB Γ + 174)), (3, .ref (gB Γ + 193)), (4, .int l4)]) : W p l e room_1 s m #[Value.ref b] below meth c H locs cells slots (lw_Z below #[Value.ref b] s) (F0 m 1615 ls []) := by
  unfold fs_L_law_1615 at h
  obtain ⟨hx, hb, hml, hr, hown, hts, hK, hlk, hX⟩ := id C0
  have hbA : ¬ gA Γ b := by unfold gA; omega
  have hr3 : room_1.cells = 601024 := rfl
  have hr4 : room_1.slots = 7293034 := rfl
  refine lv_aload_n hx hb dL_law_1615 rfl (lv_at hl 1 rfl) ?_
  refine lv_aload_n hx hb dL_law_1616 rfl (lv_at hl 0 rfl) ?_
  refine lv_iload hx hb dL_law_1617 (lv_at hl 4 rfl) ?_
  refine lv_iconst (v := 1) hx hb dL_law_1619 (by decide) ?_
  refine lv_iadd hx hb dL_law_1620 ?_
  refine gSld' (Γ := Γ) hx hb hXs hbl hbA hS dL_law_1621 h (fun h => ?_)
  refine lv_aload_n hx hb dL_law_1622 rfl (lv_at hl 3 rfl) ?_
  refine gCH (n2 := 3) (mc2 := 1) (ms2 := 6) (rest := []) C0 wcw_L_save wn_L (by decide +kernel) wl_L_193 wt_L_save ⟨Nat.le_of_ble_eq_true rfl, Nat.le_of_ble_eq_true rfl⟩ ⟨by rw [hr3]; omega, by rw [hr4]; omega⟩ [.ref (gB Γ + 0), .int (xs (l4 + (1 : Int32)).toNatClampNeg), .ref (gB Γ + 193)] rfl (Nat.le_of_ble_eq_true rfl) hP hS hl.1 dL_law_1623 h (fun u hu => m_L_save l hst Γ hfull (xs (l4 + (1 : Int32)).toNatClampNeg) g u hu) (fun u1 H locs h hP hS => ?_) rfl
  refine lv_topi (fun x2 ex2 => ?_)
  replace h := gLetI ex2 h
  refine lv_istore (lv' := [(5, .int x2), (0, .ref b), (1, .ref (gB Γ + 0)), (2, .ref (gB Γ + 174)), (3, .ref (gB Γ + 193)), (4, .int l4)]) hx hb dL_law_1626 hl (by decide) rfl (fun ls hl => ?_)
  refine lv_aload_n hx hb dL_law_1628 rfl (lv_at hl 3 rfl) ?_
  refine lv_aload_n hx hb dL_law_1629 rfl (lv_at hl 1 rfl) ?_
  refine lv_iload hx hb dL_law_1630 (lv_at hl 5 rfl) ?_
  refine lv_iconst (v := 1) hx hb dL_law_1632 (by decide) ?_
  refine lv_iadd hx hb dL_law_1633 ?_
  refine gSld' (Γ := Γ) hx hb hXs hbl hbA hS dL_law_1634 h (fun h => ?_)
  refine gCVi (rest := []) C0 cal_X10_save wl_L_195 wi_X10_save ws_X10_save ⟨Nat.le_of_ble_eq_true rfl, Nat.le_of_ble_eq_true rfl⟩ ⟨by rw [hr3]; omega, by rw [hr4]; omega⟩ grv_10 [.int (xs (l4 + (1 : Int32)).toNatClampNeg)] rfl (Nat.le_of_ble_eq_true rfl) hP hS hl.1 dL_law_1635 h (fun u hu => m_X10_save l Γ (xs (l4 + (1 : Int32)).toNatClampNeg) u1.2 u hu) (fun u3 H locs h hP hS => ?_) rfl
  refine lv_topi (fun x4 ex4 => ?_)
  replace h := gLetI ex4 h
  refine lv_istore (lv' := [(6, .int x4), (5, .int x2), (0, .ref b), (1, .ref (gB Γ + 0)), (2, .ref (gB Γ + 174)), (3, .ref (gB Γ + 193)), (4, .int l4)]) hx hb dL_law_1638 hl (by decide) rfl (fun ls hl => ?_)
  refine lv_aload_n hx hb dL_law_1640 rfl (lv_at hl 4 rfl) ?_
  refine gCVi (rest := []) C0 cal_X10_thrown wl_L_104 wi_X10_thrown ws_X10_thrown ⟨Nat.le_of_ble_eq_true rfl, Nat.le_of_ble_eq_true rfl⟩ ⟨by rw [hr3]; omega, by rw [hr4]; omega⟩ grv_10 [] rfl (Nat.le_of_ble_eq_true rfl) hP hS hl.1 dL_law_1641 h (fun u hu => m_X10_thrown l Γ u3.2 u hu) (fun u5 H locs h hP hS => ?_) rfl
  refine lv_iload hx hb dL_law_1644 (lv_at hl 1 rfl) ?_
  refine lv_icmp_eq (tgt := 1651) hx hb dL_law_1646 (by decide) (fun c6 => ?_) (fun c6 => ?_)
  · replace h := gpos c6 h
    refine lv_iload hx hb dL_law_1651 (lv_at hl 1 rfl) ?_
    refine lv_if_ne (tgt := 1668) hx hb dL_law_1653 (by decide) (fun c7 => ?_) (fun c7 => ?_)
    · replace h := gneg c7 h
      refine lv_goto (tgt := 1727) hx hb dL_law_1668 (by decide) ?_
      obtain ⟨x8, ex8⟩ : ∃ y : Int32, y = l4 + (4 : Int32) := ⟨_, rfl⟩
      replace h := gLetI ex8 h
      refine lv_iinc (v := x8) (lv' := [(4, .int x8), (6, .int x4), (5, .int x2), (0, .ref b), (1, .ref (gB Γ + 0)), (2, .ref (gB Γ + 174)), (3, .ref (gB Γ + 193))]) hx hb dL_law_1727 hl (k := 6) rfl (by rw [ex8]; rfl) (by decide) rfl (fun ls hl => ?_)
      refine lv_goto (tgt := 23) hx hb dL_law_1730 (by decide) ?_
      refine W.widen (k := cells + 3) (n := slots + 18) (by omega) (by omega) ?_
      exact hF23 _ _ _ _ _ h hP hS (lv_sub hl [3, 4, 5, 6, 0] rfl)
    · replace h := gpos c7 h
      refine lv_aload_n hx hb dL_law_1656 rfl (lv_at hl 5 rfl) ?_
      refine lv_iconst (v := 0) hx hb dL_law_1657 (by decide) ?_
      refine gJld hx hb hK hP (is_193 hfull) dL_law_1658 h (fun h => ?_)
      refine lv_iload hx hb dL_law_1659 (lv_at hl 0 rfl) ?_
      refine lv_i2l hx hb dL_law_1661 rfl ?_
      refine W.lcmp hx hb dL_law_1662 ?_
      refine lv_if_eq (tgt := 1668) hx hb dL_law_1663 (by decide) (fun c9 => ?_) (fun c9 => ?_)
      · replace h := gpos c9 h
        refine lv_goto (tgt := 1727) hx hb dL_law_1668 (by decide) ?_
        obtain ⟨x10, ex10⟩ : ∃ y : Int32, y = l4 + (4 : Int32) := ⟨_, rfl⟩
        replace h := gLetI ex10 h
        refine lv_iinc (v := x10) (lv' := [(4, .int x10), (6, .int x4), (5, .int x2), (0, .ref b), (1, .ref (gB Γ + 0)), (2, .ref (gB Γ + 174)), (3, .ref (gB Γ + 193))]) hx hb dL_law_1727 hl (k := 6) rfl (by rw [ex10]; rfl) (by decide) rfl (fun ls hl => ?_)
        refine lv_goto (tgt := 23) hx hb dL_law_1730 (by decide) ?_
        refine W.widen (k := cells + 3) (n := slots + 18) (by omega) (by omega) ?_
        exact hF23 _ _ _ _ _ h hP hS (lv_sub hl [3, 4, 5, 6, 0] rfl)
      · replace h := gneg c9 h
        refine lv_iconst (v := 0) hx hb dL_law_1666 (by decide) ?_
        cases h
  · replace h := gneg c6 h
    refine lv_iconst (v := 0) hx hb dL_law_1649 (by decide) ?_
    cases h
set_option maxHeartbeats 4000000 in
set_option maxRecDepth 20000 in
theorem bs_L_law_1671 {p : Program} {l : Launch} (hst : l.stackTraces = false) {e : Env} {s : State} {m : MethodId} {below : List Frame} {meth : Method} {c : Code} {Γ : gE} (hfull : gFull Γ) {b L : Nat} {xs : Nat → Int32} (C0 : gCx p s m #[Value.ref b] meth c Γ RL code 7 ret) (hXs : va_X b L xs s s.heap) (hbl : b < s.heap.size) (hB : gB Γ = s.heap.size) {z : Unit} {cells slots : Nat} (hc : cells + 3 ≤ 601024) (hs : slots + 18 ≤ 7293034) {F23 : Int32 → gG → Option Unit} (hF23 : ∀ (l4 : Int32) (g : gG) (H : Heap) (locs : List Loc) (ls : Array Slot), F23 l4 g = some z → va_P (gD Γ) gcls (lay Γ g) H → va_S (gA Γ) s.heap H locs → lv_has ls 7 [(0, .ref b), (1, .ref (gB Γ + 0)), (2, .ref (gB Γ + 174)), (3, .ref (gB Γ + 193)), (4, .int l4)] → W p l e room_1 s m #[Value.ref b] below meth c H locs (cells + 3) (slots + 18) (lw_Z below #[Value.ref b] s) (F0 m 23 ls [])) {l4 : Int32} {g : gG} {H : Heap} {locs : List Loc} {ls : Array Slot} (h : fs_L_law_1671 L xs F23 l4 g = some z) (hP : va_P (gD Γ) gcls (lay Γ g) H) (hS : va_S (gA Γ) s.heap H locs) (hl : lv_has ls 7 [(0, .ref b), (1, .ref (gB Γ + 0)), (2, .ref (gB Γ + 174)), (3, .ref (gB Γ + 193)), (4, .int l4)]) : W p l e room_1 s m #[Value.ref b] below meth c H locs cells slots (lw_Z below #[Value.ref b] s) (F0 m 1671 ls []) := by
  unfold fs_L_law_1671 at h
  obtain ⟨hx, hb, hml, hr, hown, hts, hK, hlk, hX⟩ := id C0
  have hbA : ¬ gA Γ b := by unfold gA; omega
  have hr3 : room_1.cells = 601024 := rfl
  have hr4 : room_1.slots = 7293034 := rfl
  refine lv_aload_n hx hb dL_law_1671 rfl (lv_at hl 1 rfl) ?_
  refine lv_aload_n hx hb dL_law_1672 rfl (lv_at hl 0 rfl) ?_
  refine lv_iload hx hb dL_law_1673 (lv_at hl 4 rfl) ?_
  refine lv_iconst (v := 1) hx hb dL_law_1675 (by decide) ?_
  refine lv_iadd hx hb dL_law_1676 ?_
  refine gSld' (Γ := Γ) hx hb hXs hbl hbA hS dL_law_1677 h (fun h => ?_)
  refine lv_aload_n hx hb dL_law_1678 rfl (lv_at hl 3 rfl) ?_
  refine gCH (n2 := 3) (mc2 := 2) (ms2 := 12) (rest := []) C0 wcw_L_restore wn_L (by decide +kernel) wl_L_196 wt_L_restore ⟨Nat.le_of_ble_eq_true rfl, Nat.le_of_ble_eq_true rfl⟩ ⟨by rw [hr3]; omega, by rw [hr4]; omega⟩ [.ref (gB Γ + 0), .int (xs (l4 + (1 : Int32)).toNatClampNeg), .ref (gB Γ + 193)] rfl (Nat.le_of_ble_eq_true rfl) hP hS hl.1 dL_law_1679 h (fun u hu => m_L_restore l hst Γ hfull (xs (l4 + (1 : Int32)).toNatClampNeg) g u hu) (fun u1 H locs h hP hS => ?_) rfl
  refine lv_topi (fun x2 ex2 => ?_)
  replace h := gLetI ex2 h
  refine lv_istore (lv' := [(5, .int x2), (0, .ref b), (1, .ref (gB Γ + 0)), (2, .ref (gB Γ + 174)), (3, .ref (gB Γ + 193)), (4, .int l4)]) hx hb dL_law_1682 hl (by decide) rfl (fun ls hl => ?_)
  refine lv_aload_n hx hb dL_law_1684 rfl (lv_at hl 3 rfl) ?_
  refine lv_aload_n hx hb dL_law_1685 rfl (lv_at hl 1 rfl) ?_
  refine lv_iload hx hb dL_law_1686 (lv_at hl 5 rfl) ?_
  refine lv_iconst (v := 1) hx hb dL_law_1688 (by decide) ?_
  refine lv_iadd hx hb dL_law_1689 ?_
  refine gSld' (Γ := Γ) hx hb hXs hbl hbA hS dL_law_1690 h (fun h => ?_)
  refine gCVi (rest := []) C0 cal_X10_restore wl_L_198 wi_X10_restore ws_X10_restore ⟨Nat.le_of_ble_eq_true rfl, Nat.le_of_ble_eq_true rfl⟩ ⟨by rw [hr3]; omega, by rw [hr4]; omega⟩ grv_10 [.int (xs (l4 + (1 : Int32)).toNatClampNeg)] rfl (Nat.le_of_ble_eq_true rfl) hP hS hl.1 dL_law_1691 h (fun u hu => m_X10_restore l Γ (xs (l4 + (1 : Int32)).toNatClampNeg) u1.2 u hu) (fun u3 H locs h hP hS => ?_) rfl
  refine lv_topi (fun x4 ex4 => ?_)
  replace h := gLetI ex4 h
  refine lv_istore (lv' := [(6, .int x4), (5, .int x2), (0, .ref b), (1, .ref (gB Γ + 0)), (2, .ref (gB Γ + 174)), (3, .ref (gB Γ + 193)), (4, .int l4)]) hx hb dL_law_1694 hl (by decide) rfl (fun ls hl => ?_)
  refine lv_aload_n hx hb dL_law_1696 rfl (lv_at hl 4 rfl) ?_
  refine gCVi (rest := []) C0 cal_X10_thrown wl_L_104 wi_X10_thrown ws_X10_thrown ⟨Nat.le_of_ble_eq_true rfl, Nat.le_of_ble_eq_true rfl⟩ ⟨by rw [hr3]; omega, by rw [hr4]; omega⟩ grv_10 [] rfl (Nat.le_of_ble_eq_true rfl) hP hS hl.1 dL_law_1697 h (fun u hu => m_X10_thrown l Γ u3.2 u hu) (fun u5 H locs h hP hS => ?_) rfl
  refine lv_iload hx hb dL_law_1700 (lv_at hl 1 rfl) ?_
  refine lv_icmp_eq (tgt := 1707) hx hb dL_law_1702 (by decide) (fun c6 => ?_) (fun c6 => ?_)
  · replace h := gpos c6 h
    refine lv_iload hx hb dL_law_1707 (lv_at hl 1 rfl) ?_
    refine lv_if_ne (tgt := 1724) hx hb dL_law_1709 (by decide) (fun c7 => ?_) (fun c7 => ?_)
    · replace h := gneg c7 h
      refine lv_goto (tgt := 1727) hx hb dL_law_1724 (by decide) ?_
      obtain ⟨x8, ex8⟩ : ∃ y : Int32, y = l4 + (4 : Int32) := ⟨_, rfl⟩
      replace h := gLetI ex8 h
      refine lv_iinc (v := x8) (lv' := [(4, .int x8), (6, .int x4), (5, .int x2), (0, .ref b), (1, .ref (gB Γ + 0)), (2, .ref (gB Γ + 174)), (3, .ref (gB Γ + 193))]) hx hb dL_law_1727 hl (k := 6) rfl (by rw [ex8]; rfl) (by decide) rfl (fun ls hl => ?_)
      refine lv_goto (tgt := 23) hx hb dL_law_1730 (by decide) ?_
      refine W.widen (k := cells + 3) (n := slots + 18) (by omega) (by omega) ?_
      exact hF23 _ _ _ _ _ h hP hS (lv_sub hl [3, 4, 5, 6, 0] rfl)
    · replace h := gpos c7 h
      refine lv_aload_n hx hb dL_law_1712 rfl (lv_at hl 5 rfl) ?_
      refine lv_iconst (v := 0) hx hb dL_law_1713 (by decide) ?_
      refine gJld hx hb hK hP (is_193 hfull) dL_law_1714 h (fun h => ?_)
      refine lv_iload hx hb dL_law_1715 (lv_at hl 0 rfl) ?_
      refine lv_i2l hx hb dL_law_1717 rfl ?_
      refine W.lcmp hx hb dL_law_1718 ?_
      refine lv_if_eq (tgt := 1724) hx hb dL_law_1719 (by decide) (fun c9 => ?_) (fun c9 => ?_)
      · replace h := gpos c9 h
        refine lv_goto (tgt := 1727) hx hb dL_law_1724 (by decide) ?_
        obtain ⟨x10, ex10⟩ : ∃ y : Int32, y = l4 + (4 : Int32) := ⟨_, rfl⟩
        replace h := gLetI ex10 h
        refine lv_iinc (v := x10) (lv' := [(4, .int x10), (6, .int x4), (5, .int x2), (0, .ref b), (1, .ref (gB Γ + 0)), (2, .ref (gB Γ + 174)), (3, .ref (gB Γ + 193))]) hx hb dL_law_1727 hl (k := 6) rfl (by rw [ex10]; rfl) (by decide) rfl (fun ls hl => ?_)
        refine lv_goto (tgt := 23) hx hb dL_law_1730 (by decide) ?_
        refine W.widen (k := cells + 3) (n := slots + 18) (by omega) (by omega) ?_
        exact hF23 _ _ _ _ _ h hP hS (lv_sub hl [3, 4, 5, 6, 0] rfl)
      · replace h := gneg c9 h
        refine lv_iconst (v := 0) hx hb dL_law_1722 (by decide) ?_
        cases h
  · replace h := gneg c6 h
    refine lv_iconst (v := 0) hx hb dL_law_1705 (by decide) ?_
    cases h
set_option maxHeartbeats 4000000 in
set_option maxRecDepth 20000 in
theorem bs_L_law_23 {p : Program} {l : Launch} (hst : l.stackTraces = false) {e : Env} {s : State} {m : MethodId} {below : List Frame} {meth : Method} {c : Code} {Γ : gE} (hfull : gFull Γ) {b L : Nat} {xs : Nat → Int32} (C0 : gCx p s m #[Value.ref b] meth c Γ RL code 7 ret) (hXs : va_X b L xs s s.heap) (hbl : b < s.heap.size) (hB : gB Γ = s.heap.size) {z : Unit} {cells slots : Nat} (hc : cells + 3 ≤ 601024) (hs : slots + 18 ≤ 7293034) {F23 : Int32 → gG → Option Unit} (hF23 : ∀ (l4 : Int32) (g : gG) (H : Heap) (locs : List Loc) (ls : Array Slot), F23 l4 g = some z → va_P (gD Γ) gcls (lay Γ g) H → va_S (gA Γ) s.heap H locs → lv_has ls 7 [(0, .ref b), (1, .ref (gB Γ + 0)), (2, .ref (gB Γ + 174)), (3, .ref (gB Γ + 193)), (4, .int l4)] → W p l e room_1 s m #[Value.ref b] below meth c H locs (cells + 3) (slots + 18) (lw_Z below #[Value.ref b] s) (F0 m 23 ls [])) {l4 : Int32} {g : gG} {H : Heap} {locs : List Loc} {ls : Array Slot} (h : fs_L_law_23 L xs F23 l4 g = some z) (hP : va_P (gD Γ) gcls (lay Γ g) H) (hS : va_S (gA Γ) s.heap H locs) (hl : lv_has ls 7 [(0, .ref b), (1, .ref (gB Γ + 0)), (2, .ref (gB Γ + 174)), (3, .ref (gB Γ + 193)), (4, .int l4)]) : W p l e room_1 s m #[Value.ref b] below meth c H locs cells slots (lw_Z below #[Value.ref b] s) (F0 m 23 ls []) := by
  unfold fs_L_law_23 at h
  obtain ⟨hx, hb, hml, hr, hown, hts, hK, hlk, hX⟩ := id C0
  have hbA : ¬ gA Γ b := by unfold gA; omega
  have hr3 : room_1.cells = 601024 := rfl
  have hr4 : room_1.slots = 7293034 := rfl
  refine lv_iload hx hb dL_law_23 (lv_at hl 4 rfl) ?_
  refine lv_aload_n hx hb dL_law_25 rfl (lv_at hl 0 rfl) ?_
  refine va_slen hx hb hXs hbl hbA hS dL_law_26 ?_
  refine lv_iconst (v := 4) hx hb dL_law_27 (by decide) ?_
  refine lv_isub hx hb dL_law_28 ?_
  refine lv_icmp_gt (tgt := 1733) hx hb dL_law_29 (by decide) (fun c1 => ?_) (fun c1 => ?_)
  · replace h := gpos c1 h
    refine lv_iconst (v := 1) hx hb dL_law_1733 (by decide) ?_
    refine va_forget (fun q hq => by have := hS.2.2 q hq; unfold gA at this; omega) ?_
    refine W.widen (k := 601024) (n := 7293034) (by omega) (by omega) ?_
    exact lw_ret hx hb hr hlk dL_law_1734
  · replace h := gneg c1 h
    refine lv_aload_n hx hb dL_law_32 rfl (lv_at hl 0 rfl) ?_
    refine lv_iload hx hb dL_law_33 (lv_at hl 4 rfl) ?_
    refine gSld' (Γ := Γ) hx hb hXs hbl hbA hS dL_law_35 h (fun h => ?_)
    refine lv_bipush (v := 31) hx hb dL_law_36 (by decide) ?_
    refine lv_iand hx hb dL_law_38 ?_
    by_cases c2 : ((xs l4.toNatClampNeg) &&& (31 : Int32)) = (0 : Int32)
    · replace h := gpos c2 h
      refine lv_tableIn (tgt := 164) hx hb dL_law_39 (by rw [c2]; decide) (by rw [c2]; decide) (by rw [c2]; rfl) (by decide) ?_
      exact bs_L_law_164 hst hfull C0 hXs hbl hB hc hs hF23 h hP hS (lv_sub hl [0, 1, 2, 3, 4] rfl)
    replace h := gneg c2 h
    by_cases c3 : ((xs l4.toNatClampNeg) &&& (31 : Int32)) = (1 : Int32)
    · replace h := gpos c3 h
      refine lv_tableIn (tgt := 220) hx hb dL_law_39 (by rw [c3]; decide) (by rw [c3]; decide) (by rw [c3]; rfl) (by decide) ?_
      exact bs_L_law_220 hst hfull C0 hXs hbl hB hc hs hF23 h hP hS (lv_sub hl [0, 1, 2, 3, 4] rfl)
    replace h := gneg c3 h
    by_cases c4 : ((xs l4.toNatClampNeg) &&& (31 : Int32)) = (2 : Int32)
    · replace h := gpos c4 h
      refine lv_tableIn (tgt := 233) hx hb dL_law_39 (by rw [c4]; decide) (by rw [c4]; decide) (by rw [c4]; rfl) (by decide) ?_
      exact bs_L_law_233 hst hfull C0 hXs hbl hB hc hs hF23 h hP hS (lv_sub hl [0, 1, 2, 3, 4] rfl)
    replace h := gneg c4 h
    by_cases c5 : ((xs l4.toNatClampNeg) &&& (31 : Int32)) = (3 : Int32)
    · replace h := gpos c5 h
      refine lv_tableIn (tgt := 246) hx hb dL_law_39 (by rw [c5]; decide) (by rw [c5]; decide) (by rw [c5]; rfl) (by decide) ?_
      exact bs_L_law_246 hst hfull C0 hXs hbl hB hc hs hF23 h hP hS (lv_sub hl [0, 1, 2, 3, 4] rfl)
    replace h := gneg c5 h
    by_cases c6 : ((xs l4.toNatClampNeg) &&& (31 : Int32)) = (4 : Int32)
    · replace h := gpos c6 h
      refine lv_tableIn (tgt := 290) hx hb dL_law_39 (by rw [c6]; decide) (by rw [c6]; decide) (by rw [c6]; rfl) (by decide) ?_
      exact bs_L_law_290 hst hfull C0 hXs hbl hB hc hs hF23 h hP hS (lv_sub hl [0, 1, 2, 3, 4] rfl)
    replace h := gneg c6 h
    by_cases c7 : ((xs l4.toNatClampNeg) &&& (31 : Int32)) = (5 : Int32)
    · replace h := gpos c7 h
      refine lv_tableIn (tgt := 346) hx hb dL_law_39 (by rw [c7]; decide) (by rw [c7]; decide) (by rw [c7]; rfl) (by decide) ?_
      exact bs_L_law_346 hst hfull C0 hXs hbl hB hc hs hF23 h hP hS (lv_sub hl [0, 1, 2, 3, 4] rfl)
    replace h := gneg c7 h
    by_cases c8 : ((xs l4.toNatClampNeg) &&& (31 : Int32)) = (6 : Int32)
    · replace h := gpos c8 h
      refine lv_tableIn (tgt := 414) hx hb dL_law_39 (by rw [c8]; decide) (by rw [c8]; decide) (by rw [c8]; rfl) (by decide) ?_
      exact bs_L_law_414 hst hfull C0 hXs hbl hB hc hs hF23 h hP hS (lv_sub hl [0, 1, 2, 3, 4] rfl)
    replace h := gneg c8 h
    by_cases c9 : ((xs l4.toNatClampNeg) &&& (31 : Int32)) = (7 : Int32)
    · replace h := gpos c9 h
      refine lv_tableIn (tgt := 489) hx hb dL_law_39 (by rw [c9]; decide) (by rw [c9]; decide) (by rw [c9]; rfl) (by decide) ?_
      exact bs_L_law_489 hst hfull C0 hXs hbl hB hc hs hF23 h hP hS (lv_sub hl [0, 1, 2, 3, 4] rfl)
    replace h := gneg c9 h
    by_cases c10 : ((xs l4.toNatClampNeg) &&& (31 : Int32)) = (8 : Int32)
    · replace h := gpos c10 h
      refine lv_tableIn (tgt := 557) hx hb dL_law_39 (by rw [c10]; decide) (by rw [c10]; decide) (by rw [c10]; rfl) (by decide) ?_
      exact bs_L_law_557 hst hfull C0 hXs hbl hB hc hs hF23 h hP hS (lv_sub hl [0, 1, 2, 3, 4] rfl)
    replace h := gneg c10 h
    by_cases c11 : ((xs l4.toNatClampNeg) &&& (31 : Int32)) = (9 : Int32)
    · replace h := gpos c11 h
      refine lv_tableIn (tgt := 625) hx hb dL_law_39 (by rw [c11]; decide) (by rw [c11]; decide) (by rw [c11]; rfl) (by decide) ?_
      exact bs_L_law_625 hst hfull C0 hXs hbl hB hc hs hF23 h hP hS (lv_sub hl [0, 1, 2, 3, 4] rfl)
    replace h := gneg c11 h
    by_cases c12 : ((xs l4.toNatClampNeg) &&& (31 : Int32)) = (10 : Int32)
    · replace h := gpos c12 h
      refine lv_tableIn (tgt := 681) hx hb dL_law_39 (by rw [c12]; decide) (by rw [c12]; decide) (by rw [c12]; rfl) (by decide) ?_
      exact bs_L_law_681 hst hfull C0 hXs hbl hB hc hs hF23 h hP hS (lv_sub hl [0, 1, 2, 3, 4] rfl)
    replace h := gneg c12 h
    by_cases c13 : ((xs l4.toNatClampNeg) &&& (31 : Int32)) = (11 : Int32)
    · replace h := gpos c13 h
      refine lv_tableIn (tgt := 725) hx hb dL_law_39 (by rw [c13]; decide) (by rw [c13]; decide) (by rw [c13]; rfl) (by decide) ?_
      exact bs_L_law_725 hst hfull C0 hXs hbl hB hc hs hF23 h hP hS (lv_sub hl [0, 1, 2, 3, 4] rfl)
    replace h := gneg c13 h
    by_cases c14 : ((xs l4.toNatClampNeg) &&& (31 : Int32)) = (12 : Int32)
    · replace h := gpos c14 h
      refine lv_tableIn (tgt := 793) hx hb dL_law_39 (by rw [c14]; decide) (by rw [c14]; decide) (by rw [c14]; rfl) (by decide) ?_
      exact bs_L_law_793 hst hfull C0 hXs hbl hB hc hs hF23 h hP hS (lv_sub hl [0, 1, 2, 3, 4] rfl)
    replace h := gneg c14 h
    by_cases c15 : ((xs l4.toNatClampNeg) &&& (31 : Int32)) = (13 : Int32)
    · replace h := gpos c15 h
      refine lv_tableIn (tgt := 849) hx hb dL_law_39 (by rw [c15]; decide) (by rw [c15]; decide) (by rw [c15]; rfl) (by decide) ?_
      exact bs_L_law_849 hst hfull C0 hXs hbl hB hc hs hF23 h hP hS (lv_sub hl [0, 1, 2, 3, 4] rfl)
    replace h := gneg c15 h
    by_cases c16 : ((xs l4.toNatClampNeg) &&& (31 : Int32)) = (14 : Int32)
    · replace h := gpos c16 h
      refine lv_tableIn (tgt := 905) hx hb dL_law_39 (by rw [c16]; decide) (by rw [c16]; decide) (by rw [c16]; rfl) (by decide) ?_
      exact bs_L_law_905 hst hfull C0 hXs hbl hB hc hs hF23 h hP hS (lv_sub hl [0, 1, 2, 3, 4] rfl)
    replace h := gneg c16 h
    by_cases c17 : ((xs l4.toNatClampNeg) &&& (31 : Int32)) = (15 : Int32)
    · replace h := gpos c17 h
      refine lv_tableIn (tgt := 985) hx hb dL_law_39 (by rw [c17]; decide) (by rw [c17]; decide) (by rw [c17]; rfl) (by decide) ?_
      exact bs_L_law_985 hst hfull C0 hXs hbl hB hc hs hF23 h hP hS (lv_sub hl [0, 1, 2, 3, 4] rfl)
    replace h := gneg c17 h
    by_cases c18 : ((xs l4.toNatClampNeg) &&& (31 : Int32)) = (16 : Int32)
    · replace h := gpos c18 h
      refine lv_tableIn (tgt := 1041) hx hb dL_law_39 (by rw [c18]; decide) (by rw [c18]; decide) (by rw [c18]; rfl) (by decide) ?_
      exact bs_L_law_1041 hst hfull C0 hXs hbl hB hc hs hF23 h hP hS (lv_sub hl [0, 1, 2, 3, 4] rfl)
    replace h := gneg c18 h
    by_cases c19 : ((xs l4.toNatClampNeg) &&& (31 : Int32)) = (17 : Int32)
    · replace h := gpos c19 h
      refine lv_tableIn (tgt := 1085) hx hb dL_law_39 (by rw [c19]; decide) (by rw [c19]; decide) (by rw [c19]; rfl) (by decide) ?_
      exact bs_L_law_1085 hst hfull C0 hXs hbl hB hc hs hF23 h hP hS (lv_sub hl [0, 1, 2, 3, 4] rfl)
    replace h := gneg c19 h
    by_cases c20 : ((xs l4.toNatClampNeg) &&& (31 : Int32)) = (18 : Int32)
    · replace h := gpos c20 h
      refine lv_tableIn (tgt := 1153) hx hb dL_law_39 (by rw [c20]; decide) (by rw [c20]; decide) (by rw [c20]; rfl) (by decide) ?_
      exact bs_L_law_1153 hst hfull C0 hXs hbl hB hc hs hF23 h hP hS (lv_sub hl [0, 1, 2, 3, 4] rfl)
    replace h := gneg c20 h
    by_cases c21 : ((xs l4.toNatClampNeg) &&& (31 : Int32)) = (19 : Int32)
    · replace h := gpos c21 h
      refine lv_tableIn (tgt := 1221) hx hb dL_law_39 (by rw [c21]; decide) (by rw [c21]; decide) (by rw [c21]; rfl) (by decide) ?_
      exact bs_L_law_1221 hst hfull C0 hXs hbl hB hc hs hF23 h hP hS (lv_sub hl [0, 1, 2, 3, 4] rfl)
    replace h := gneg c21 h
    by_cases c22 : ((xs l4.toNatClampNeg) &&& (31 : Int32)) = (20 : Int32)
    · replace h := gpos c22 h
      refine lv_tableIn (tgt := 1277) hx hb dL_law_39 (by rw [c22]; decide) (by rw [c22]; decide) (by rw [c22]; rfl) (by decide) ?_
      exact bs_L_law_1277 hst hfull C0 hXs hbl hB hc hs hF23 h hP hS (lv_sub hl [0, 1, 2, 3, 4] rfl)
    replace h := gneg c22 h
    by_cases c23 : ((xs l4.toNatClampNeg) &&& (31 : Int32)) = (21 : Int32)
    · replace h := gpos c23 h
      refine lv_tableIn (tgt := 1333) hx hb dL_law_39 (by rw [c23]; decide) (by rw [c23]; decide) (by rw [c23]; rfl) (by decide) ?_
      exact bs_L_law_1333 hst hfull C0 hXs hbl hB hc hs hF23 h hP hS (lv_sub hl [0, 1, 2, 3, 4] rfl)
    replace h := gneg c23 h
    by_cases c24 : ((xs l4.toNatClampNeg) &&& (31 : Int32)) = (22 : Int32)
    · replace h := gpos c24 h
      refine lv_tableIn (tgt := 1389) hx hb dL_law_39 (by rw [c24]; decide) (by rw [c24]; decide) (by rw [c24]; rfl) (by decide) ?_
      exact bs_L_law_1389 hst hfull C0 hXs hbl hB hc hs hF23 h hP hS (lv_sub hl [0, 1, 2, 3, 4] rfl)
    replace h := gneg c24 h
    by_cases c25 : ((xs l4.toNatClampNeg) &&& (31 : Int32)) = (23 : Int32)
    · replace h := gpos c25 h
      refine lv_tableIn (tgt := 1402) hx hb dL_law_39 (by rw [c25]; decide) (by rw [c25]; decide) (by rw [c25]; rfl) (by decide) ?_
      exact bs_L_law_1402 hst hfull C0 hXs hbl hB hc hs hF23 h hP hS (lv_sub hl [0, 1, 2, 3, 4] rfl)
    replace h := gneg c25 h
    by_cases c26 : ((xs l4.toNatClampNeg) &&& (31 : Int32)) = (24 : Int32)
    · replace h := gpos c26 h
      refine lv_tableIn (tgt := 1415) hx hb dL_law_39 (by rw [c26]; decide) (by rw [c26]; decide) (by rw [c26]; rfl) (by decide) ?_
      exact bs_L_law_1415 hst hfull C0 hXs hbl hB hc hs hF23 h hP hS (lv_sub hl [0, 1, 2, 3, 4] rfl)
    replace h := gneg c26 h
    by_cases c27 : ((xs l4.toNatClampNeg) &&& (31 : Int32)) = (25 : Int32)
    · replace h := gpos c27 h
      refine lv_tableIn (tgt := 1515) hx hb dL_law_39 (by rw [c27]; decide) (by rw [c27]; decide) (by rw [c27]; rfl) (by decide) ?_
      exact bs_L_law_1515 hst hfull C0 hXs hbl hB hc hs hF23 h hP hS (lv_sub hl [0, 1, 2, 3, 4] rfl)
    replace h := gneg c27 h
    by_cases c28 : ((xs l4.toNatClampNeg) &&& (31 : Int32)) = (26 : Int32)
    · replace h := gpos c28 h
      refine lv_tableIn (tgt := 1615) hx hb dL_law_39 (by rw [c28]; decide) (by rw [c28]; decide) (by rw [c28]; rfl) (by decide) ?_
      exact bs_L_law_1615 hst hfull C0 hXs hbl hB hc hs hF23 h hP hS (lv_sub hl [0, 1, 2, 3, 4] rfl)
    replace h := gneg c28 h
    by_cases c29 : ((xs l4.toNatClampNeg) &&& (31 : Int32)) = (27 : Int32)
    · replace h := gpos c29 h
      refine lv_tableIn (tgt := 1671) hx hb dL_law_39 (by rw [c29]; decide) (by rw [c29]; decide) (by rw [c29]; rfl) (by decide) ?_
      exact bs_L_law_1671 hst hfull C0 hXs hbl hB hc hs hF23 h hP hS (lv_sub hl [0, 1, 2, 3, 4] rfl)
    replace h := gneg c29 h
    have nc2 := gNe c2
    simp only [show ((0 : Int32)).toInt = 0 from by decide] at nc2
    have nc3 := gNe c3
    simp only [show ((1 : Int32)).toInt = 1 from by decide] at nc3
    have nc4 := gNe c4
    simp only [show ((2 : Int32)).toInt = 2 from by decide] at nc4
    have nc5 := gNe c5
    simp only [show ((3 : Int32)).toInt = 3 from by decide] at nc5
    have nc6 := gNe c6
    simp only [show ((4 : Int32)).toInt = 4 from by decide] at nc6
    have nc7 := gNe c7
    simp only [show ((5 : Int32)).toInt = 5 from by decide] at nc7
    have nc8 := gNe c8
    simp only [show ((6 : Int32)).toInt = 6 from by decide] at nc8
    have nc9 := gNe c9
    simp only [show ((7 : Int32)).toInt = 7 from by decide] at nc9
    have nc10 := gNe c10
    simp only [show ((8 : Int32)).toInt = 8 from by decide] at nc10
    have nc11 := gNe c11
    simp only [show ((9 : Int32)).toInt = 9 from by decide] at nc11
    have nc12 := gNe c12
    simp only [show ((10 : Int32)).toInt = 10 from by decide] at nc12
    have nc13 := gNe c13
    simp only [show ((11 : Int32)).toInt = 11 from by decide] at nc13
    have nc14 := gNe c14
    simp only [show ((12 : Int32)).toInt = 12 from by decide] at nc14
    have nc15 := gNe c15
    simp only [show ((13 : Int32)).toInt = 13 from by decide] at nc15
    have nc16 := gNe c16
    simp only [show ((14 : Int32)).toInt = 14 from by decide] at nc16
    have nc17 := gNe c17
    simp only [show ((15 : Int32)).toInt = 15 from by decide] at nc17
    have nc18 := gNe c18
    simp only [show ((16 : Int32)).toInt = 16 from by decide] at nc18
    have nc19 := gNe c19
    simp only [show ((17 : Int32)).toInt = 17 from by decide] at nc19
    have nc20 := gNe c20
    simp only [show ((18 : Int32)).toInt = 18 from by decide] at nc20
    have nc21 := gNe c21
    simp only [show ((19 : Int32)).toInt = 19 from by decide] at nc21
    have nc22 := gNe c22
    simp only [show ((20 : Int32)).toInt = 20 from by decide] at nc22
    have nc23 := gNe c23
    simp only [show ((21 : Int32)).toInt = 21 from by decide] at nc23
    have nc24 := gNe c24
    simp only [show ((22 : Int32)).toInt = 22 from by decide] at nc24
    have nc25 := gNe c25
    simp only [show ((23 : Int32)).toInt = 23 from by decide] at nc25
    have nc26 := gNe c26
    simp only [show ((24 : Int32)).toInt = 24 from by decide] at nc26
    have nc27 := gNe c27
    simp only [show ((25 : Int32)).toInt = 25 from by decide] at nc27
    have nc28 := gNe c28
    simp only [show ((26 : Int32)).toInt = 26 from by decide] at nc28
    have nc29 := gNe c29
    simp only [show ((27 : Int32)).toInt = 27 from by decide] at nc29
    refine lv_tableOut (tgt := 1727) hx hb dL_law_39 (gTabOut (by omega)) (by decide) ?_
    obtain ⟨x30, ex30⟩ : ∃ y : Int32, y = l4 + (4 : Int32) := ⟨_, rfl⟩
    replace h := gLetI ex30 h
    refine lv_iinc (v := x30) (lv' := [(4, .int x30), (0, .ref b), (1, .ref (gB Γ + 0)), (2, .ref (gB Γ + 174)), (3, .ref (gB Γ + 193))]) hx hb dL_law_1727 hl (k := 4) rfl (by rw [ex30]; rfl) (by decide) rfl (fun ls hl => ?_)
    refine lv_goto (tgt := 23) hx hb dL_law_1730 (by decide) ?_
    refine W.widen (k := cells + 3) (n := slots + 18) (by omega) (by omega) ?_
    exact hF23 _ _ _ _ _ h hP hS (lv_sub hl [1, 2, 3, 4, 0] rfl)
set_option maxHeartbeats 4000000 in
set_option maxRecDepth 20000 in
theorem bk_L_law_23 {p : Program} {l : Launch} (hst : l.stackTraces = false) {e : Env} {s : State} {m : MethodId} {below : List Frame} {meth : Method} {c : Code} {Γ : gE} (hfull : gFull Γ) {b L : Nat} {xs : Nat → Int32} (C0 : gCx p s m #[Value.ref b] meth c Γ RL code 7 ret) (hXs : va_X b L xs s s.heap) (hbl : b < s.heap.size) (hB : gB Γ = s.heap.size) {z : Unit} : ∀ (n cells slots : Nat) (hc : cells + 3 * n ≤ 601024) (hs : slots + 18 * n ≤ 7293034) (l4 : Int32) (g : gG) (H : Heap) (locs : List Loc) (ls : Array Slot), fb_L_law_23 L xs n l4 g = some z → va_P (gD Γ) gcls (lay Γ g) H → va_S (gA Γ) s.heap H locs → lv_has ls 7 [(0, .ref b), (1, .ref (gB Γ + 0)), (2, .ref (gB Γ + 174)), (3, .ref (gB Γ + 193)), (4, .int l4)] → W p l e room_1 s m #[Value.ref b] below meth c H locs cells slots (lw_Z below #[Value.ref b] s) (F0 m 23 ls []) := by
  intro n
  induction n with
  | zero => intro cells slots hc hs l4 g H locs ls h hP hS hl; cases h
  | succ n ih => intro cells slots hc hs l4 g H locs ls h hP hS hl; exact bs_L_law_23 hst hfull C0 hXs hbl hB (by omega) (by omega) (ih (cells + 3) (slots + 18) (by omega) (by omega)) h hP hS hl
