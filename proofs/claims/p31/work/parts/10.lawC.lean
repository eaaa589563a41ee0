def fs_L_law_277 (L : Nat) (xs : Nat → Int32)  (l3 : Int32) (g h0 : gG) : Option (Unit) :=
  if l3 = (0 : Int32) then (none) else ((f_L_alike (83003 : Int32) g h0).bind (fun u2 => if u2.1 = (0 : Int32) then (none) else (some ())))
def fs_L_law_270 (L : Nat) (xs : Nat → Int32) (F52 : Int32 → Int32 → gG → gG → Option (Unit)) (l4 : Int32) (s0 : Int32) (g h0 : gG) : Option (Unit) :=
  gLet (l4 + (1 : Int32)) (fun x1 => F52 s0 x1 g h0)
def fs_L_law_269 (L : Nat) (xs : Nat → Int32) (F52 : Int32 → Int32 → gG → gG → Option (Unit)) (l4 : Int32) (g h0 : gG) : Option (Unit) :=
  fs_L_law_270 L xs F52 l4 (0 : Int32) g h0
def fs_L_law_265 (L : Nat) (xs : Nat → Int32) (F52 : Int32 → Int32 → gG → gG → Option (Unit)) (l4 : Int32) (g h0 : gG) : Option (Unit) :=
  fs_L_law_270 L xs F52 l4 (1 : Int32) g h0
def fs_L_law_243 (L : Nat) (xs : Nat → Int32) (F52 : Int32 → Int32 → gG → gG → Option (Unit)) (l3 : Int32) (l4 : Int32) (l6 : Int32) (g h0 : gG) : Option (Unit) :=
  if l3 = (0 : Int32) then (fs_L_law_269 L xs F52 l4 g h0) else (if (0 : Int32) < (l4 - l4 / (6 : Int32) * (6 : Int32)) then (fs_L_law_265 L xs F52 l4 g h0) else ((f_L_alike l6 g h0).bind (fun u3 => if u3.1 = (0 : Int32) then (fs_L_law_269 L xs F52 l4 u3.2.1 u3.2.2) else (fs_L_law_265 L xs F52 l4 u3.2.1 u3.2.2))))
def fs_L_law_242 (L : Nat) (xs : Nat → Int32) (F52 : Int32 → Int32 → gG → gG → Option (Unit)) (l4 : Int32) (l6 : Int32) (s0 : Int32) (g h0 : gG) : Option (Unit) :=
  fs_L_law_243 L xs F52 s0 l4 l6 g h0
def fs_L_law_241 (L : Nat) (xs : Nat → Int32) (F52 : Int32 → Int32 → gG → gG → Option (Unit)) (l4 : Int32) (l6 : Int32) (g h0 : gG) : Option (Unit) :=
  fs_L_law_242 L xs F52 l4 l6 (0 : Int32) g h0
def fs_L_law_194 (L : Nat) (xs : Nat → Int32) (F52 : Int32 → Int32 → gG → gG → Option (Unit)) (l3 : Int32) (l4 : Int32) (l6 : Int32) (g h0 : gG) : Option (Unit) :=
  if (l4 - l4 / (9 : Int32) * (9 : Int32)) = (8 : Int32) then (if l3 = (0 : Int32) then (fs_L_law_241 L xs F52 l4 l6 g h0) else ((f_L_follows l6 h0).bind (fun u3 => if u3.1 = (0 : Int32) then (fs_L_law_241 L xs F52 l4 l6 g u3.2) else ((f_L_save (1 : Int32) g).bind (fun u5 => if (lg_cmp u5.1 (0 : Int64)) < (0 : Int32) then (fs_L_law_241 L xs F52 l4 l6 u5.2 u3.2) else ((f_L_restore (1 : Int32) u5.2).bind (fun u7 => if (lg_cmp u7.1 (0 : Int64)) < (0 : Int32) then (fs_L_law_241 L xs F52 l4 l6 u7.2 u3.2) else (fs_L_law_242 L xs F52 l4 l6 (1 : Int32) u7.2 u3.2)))))))) else (fs_L_law_243 L xs F52 l3 l4 l6 g h0)
def fs_L_law_193 (L : Nat) (xs : Nat → Int32) (F52 : Int32 → Int32 → gG → gG → Option (Unit)) (l4 : Int32) (l6 : Int32) (s0 : Int32) (g h0 : gG) : Option (Unit) :=
  fs_L_law_194 L xs F52 s0 l4 l6 g h0
def fs_L_law_192 (L : Nat) (xs : Nat → Int32) (F52 : Int32 → Int32 → gG → gG → Option (Unit)) (l4 : Int32) (l6 : Int32) (g h0 : gG) : Option (Unit) :=
  fs_L_law_193 L xs F52 l4 l6 (0 : Int32) g h0
def fs_L_law_161 (L : Nat) (xs : Nat → Int32) (F52 : Int32 → Int32 → gG → gG → Option (Unit)) (l4 : Int32) (l6 : Int32) (s0 : Int32) (g h0 : gG) : Option (Unit) :=
  if (l4 - l4 / (6 : Int32) * (6 : Int32)) = (0 : Int32) then (if s0 = (0 : Int32) then (fs_L_law_192 L xs F52 l4 l6 g h0) else ((f_L_errors h0).bind (fun u3 => if u3.1 = (0 : Int32) then (fs_L_law_192 L xs F52 l4 l6 g u3.2) else ((f_L_kept u3.2).bind (fun u5 => if u5.1 = (0 : Int32) then (fs_L_law_192 L xs F52 l4 l6 g u5.2) else (fs_L_law_193 L xs F52 l4 l6 (1 : Int32) g u5.2)))))) else (fs_L_law_194 L xs F52 s0 l4 l6 g h0)
def fs_L_law_132 (L : Nat) (xs : Nat → Int32) (F52 : Int32 → Int32 → gG → gG → Option (Unit)) (l4 : Int32) (s0 : Int32) (g h0 : gG) : Option (Unit) :=
  gLet (l4 + (1 : Int32)) (fun x1 => F52 s0 x1 g h0)
def fs_L_law_131 (L : Nat) (xs : Nat → Int32) (F52 : Int32 → Int32 → gG → gG → Option (Unit)) (l4 : Int32) (g h0 : gG) : Option (Unit) :=
  fs_L_law_132 L xs F52 l4 (0 : Int32) g h0
def fs_L_law_52 (L : Nat) (xs : Nat → Int32) (F52 : Int32 → Int32 → gG → gG → Option (Unit)) (l3 : Int32) (l4 : Int32) (g h0 : gG) : Option (Unit) :=
  if (54 : Int32) ≤ l4 then (fs_L_law_277 L xs l3 g h0) else (if l3 = (0 : Int32) then (fs_L_law_277 L xs l3 g h0) else ((sdr L xs ((2 : Int32) * l4)).bind (fun u3 => (sdr L xs (((2 : Int32) * l4) + (1 : Int32))).bind (fun u4 => if (l4 - l4 / (27 : Int32) * (27 : Int32)) = (0 : Int32) then ((f_L_tells u3 u4 g).bind (fun u9 => if u9.1 = (0 : Int32) then (fs_L_law_131 L xs F52 l4 u9.2 h0) else ((f_L_tells u3 u4 h0).bind (fun u11 => if u11.1 = (0 : Int32) then (fs_L_law_131 L xs F52 l4 u9.2 u11.2) else ((f_L_load u9.2).bind (fun u13 => (f_L_load u11.2).bind (fun u14 => if (lg_cmp u13.1 u14.1) = (0 : Int32) then (fs_L_law_132 L xs F52 l4 (1 : Int32) u13.2 u14.2) else (fs_L_law_131 L xs F52 l4 u13.2 u14.2)))))))) else ((f_L_act u3 u4 g).bind (fun u6 => (f_L_act u3 u4 h0).bind (fun u7 => if (lg_cmp u6.1 u7.1) = (0 : Int32) then (fs_L_law_161 L xs F52 l4 u4 (1 : Int32) u6.2 u7.2) else (fs_L_law_161 L xs F52 l4 u4 (0 : Int32) u6.2 u7.2))))))))
def fb_L_law_52 (L : Nat) (xs : Nat → Int32) : Nat → Int32 → Int32 → gG → gG → Option (Unit)
  | 0 => fun _ _ _ _ => none
  | n + 1 => fs_L_law_52 L xs  (fb_L_law_52 L xs n)
def fs_L_law_48 (L : Nat) (xs : Nat → Int32)  (s0 : Int32) (g h0 : gG) : Option (Unit) :=
  fb_L_law_52 L xs gFuelW s0 (0 : Int32) g h0
def fs_L_law_47 (L : Nat) (xs : Nat → Int32)   (g h0 : gG) : Option (Unit) :=
  fs_L_law_48 L xs (0 : Int32) g h0
def f_L_law (L : Nat) (xs : Nat → Int32) (g h0 : gG) : Option Unit :=
  (sdr L xs (0 : Int32)).bind (fun u1 => (f_L_alike u1 g h0).bind (fun u2 => if u2.1 = (0 : Int32) then (fs_L_law_47 L xs u2.2.1 u2.2.2) else ((f_L_errors u2.2.1).bind (fun u4 => if u4.1 = (0 : Int32) then (fs_L_law_47 L xs u4.2 u2.2.2) else ((f_L_kept u4.2).bind (fun u6 => if u6.1 = (0 : Int32) then (fs_L_law_47 L xs u6.2 u2.2.2) else (fs_L_law_48 L xs (1 : Int32) u6.2 u2.2.2)))))))
set_option maxHeartbeats 4000000 in
set_option maxRecDepth 20000 in
theorem bs_L_law_277 {p : Program} {l : Launch} {e : Env} {s : State} {m : MethodId} {below : List Frame} {meth : Method} {c : Code} {A : Nat → Prop} {Γ Γ' : gE} (hT : gTw Γ Γ') {b L : Nat} {xs : Nat → Int32} (C0 : gCa A p s m #[Value.ref b] meth c Γ RL code 7 ret) (C1 : gCa A p s m #[Value.ref b] meth c Γ' RL code 7 ret) (hst : l.stackTraces = false) (hXs : va_X b L xs s s.heap) (hbl : b < s.heap.size) (hbA : ¬ A b) (hAf : ∀ q, A q → s.heap.size ≤ q) {z : Unit}  {l3 : Int32} {g h0 : gG} {H : Heap} {locs : List Loc} {ls : Array Slot}  {cells slots N : Nat} (hr1 : cells + N ≤ 600130) (hr2 : slots + 6 * N ≤ 7301080) (hn_ret : 466 ≤ N) (h : fs_L_law_277 L xs l3 g h0 = some z) (hP : va_P (gD Γ) gcls (lay Γ g) H) (hQ : va_P (gD Γ') gcls (lay Γ' h0) H) (hS : va_S A s.heap H locs) (hl : lv_has ls 7 [(1, .ref (gB Γ + 0)), (2, .ref (gB Γ' + 0)), (3, .int l3)]) : W p l e room_1 s m #[Value.ref b] below meth c H locs cells slots (lw_Z below #[Value.ref b] s) (F0 m 277 ls []) := by
  unfold fs_L_law_277 at h
  obtain ⟨hx, hb, hml, hr, hown, hts, hK, hlk, hX, hA⟩ := id C0
  have hr3 : room_1.cells = 600130 := rfl
  have hr4 : room_1.slots = 7301080 := rfl
  refine lv_iload_n hx hb dL_law_277 rfl (lv_at hl 2 rfl) ?_
  refine lv_if_eq (tgt := 295) hx hb dL_law_278 (by decide) (fun c1 => ?_) (fun c1 => ?_)
  · replace h := gpos c1 h
    refine lv_iconst (v := 0) hx hb dL_law_295 (by decide) ?_
    cases h
  · replace h := gneg c1 h
    refine lv_aload_n hx hb dL_law_281 rfl (lv_at hl 0 rfl) ?_
    refine lv_aload_n hx hb dL_law_282 rfl (lv_at hl 1 rfl) ?_
    refine lv_ldc (v := 83003) hx hb hown (hts _ wk_L_243) dL_law_283 ?_
    refine dAl (rest := []) hT C0 C1.2.2.2.2.2.2.2.2.2 cal_L_alike wl_L_220 wt_L_alike ⟨Nat.le_of_ble_eq_true rfl, Nat.le_of_ble_eq_true rfl⟩ ⟨by rw [hr3]; omega, by rw [hr4]; omega⟩ [.ref (gB Γ + 0), .ref (gB Γ' + 0), .int (83003 : Int32)] rfl (Nat.le_of_ble_eq_true rfl) hP hQ hS hl.1 dL_law_285 h (fun u hu => m_L_alike l hst Γ Γ' hT (83003 : Int32) g h0 u hu) (fun u2 H locs h hP hQ hS => ?_) rfl
    refine lv_if_eq (tgt := 295) hx hb dL_law_288 (by decide) (fun c3 => ?_) (fun c3 => ?_)
    · replace h := gpos c3 h
      refine lv_iconst (v := 0) hx hb dL_law_295 (by decide) ?_
      cases h
    · replace h := gneg c3 h
      refine lv_iconst (v := 1) hx hb dL_law_291 (by decide) ?_
      refine lv_goto (tgt := 296) hx hb dL_law_292 (by decide) ?_
      refine va_forget (fun q hq => hAf _ (hS.2.2 q hq)) ?_
      refine W.widen (k := 600130) (n := 7301080) (by omega) (by omega) ?_
      exact lw_ret hx hb hr hlk dL_law_296
set_option maxHeartbeats 4000000 in
set_option maxRecDepth 20000 in
theorem bs_L_law_270 {p : Program} {l : Launch} {e : Env} {s : State} {m : MethodId} {below : List Frame} {meth : Method} {c : Code} {A : Nat → Prop} {Γ Γ' : gE} (hT : gTw Γ Γ') {b L : Nat} {xs : Nat → Int32} (C0 : gCa A p s m #[Value.ref b] meth c Γ RL code 7 ret) (C1 : gCa A p s m #[Value.ref b] meth c Γ' RL code 7 ret) (hst : l.stackTraces = false) (hXs : va_X b L xs s s.heap) (hbl : b < s.heap.size) (hbA : ¬ A b) (hAf : ∀ q, A q → s.heap.size ≤ q) {z : Unit} {F52 : Int32 → Int32 → gG → gG → Option (Unit)} {l4 : Int32} {s0 : Int32} {g h0 : gG} {H : Heap} {locs : List Loc} {ls : Array Slot} {N52 : Nat} (hF52 : ∀ (cells slots : Nat) (l3 : Int32) (l4 : Int32) (g h0 : gG) (H : Heap) (locs : List Loc) (ls : Array Slot), F52 l3 l4 g h0 = some z → va_P (gD Γ) gcls (lay Γ g) H → va_P (gD Γ') gcls (lay Γ' h0) H → va_S A s.heap H locs → lv_has ls 7 [(0, .ref b), (1, .ref (gB Γ + 0)), (2, .ref (gB Γ' + 0)), (3, .int l3), (4, .int l4)] → cells + N52 ≤ 600130 → slots + 6 * N52 ≤ 7301080 → W p l e room_1 s m #[Value.ref b] below meth c H locs cells slots (lw_Z below #[Value.ref b] s) (F0 m 52 ls [])) {cells slots N : Nat} (hr1 : cells + N ≤ 600130) (hr2 : slots + 6 * N ≤ 7301080) (hn_52 : 0 + N52 ≤ N) (h : fs_L_law_270 L xs F52 l4 s0 g h0 = some z) (hP : va_P (gD Γ) gcls (lay Γ g) H) (hQ : va_P (gD Γ') gcls (lay Γ' h0) H) (hS : va_S A s.heap H locs) (hl : lv_has ls 7 [(0, .ref b), (1, .ref (gB Γ + 0)), (2, .ref (gB Γ' + 0)), (4, .int l4)]) : W p l e room_1 s m #[Value.ref b] below meth c H locs cells slots (lw_Z below #[Value.ref b] s) (F0 m 270 ls [.int s0]) := by
  unfold fs_L_law_270 at h
  obtain ⟨hx, hb, hml, hr, hown, hts, hK, hlk, hX, hA⟩ := id C0
  have hr3 : room_1.cells = 600130 := rfl
  have hr4 : room_1.slots = 7301080 := rfl
  refine lv_istore_n (lv' := [(3, .int s0), (0, .ref b), (1, .ref (gB Γ + 0)), (2, .ref (gB Γ' + 0)), (4, .int l4)]) hx hb dL_law_270 rfl hl (by decide) rfl (fun ls hl => ?_)
  obtain ⟨x1, ex1⟩ : ∃ y : Int32, y = l4 + (1 : Int32) := ⟨_, rfl⟩
  replace h := gLetI ex1 h
  refine lv_iinc (v := x1) (lv' := [(4, .int x1), (3, .int s0), (0, .ref b), (1, .ref (gB Γ + 0)), (2, .ref (gB Γ' + 0))]) hx hb dL_law_271 hl (k := 4) rfl (by rw [ex1]; rfl) (by decide) rfl (fun ls hl => ?_)
  refine lv_goto (tgt := 52) hx hb dL_law_274 (by decide) ?_
  exact hF52 _ _ _ _ _ _ _ _ _ h hP hQ hS (lv_sub hl [2, 3, 4, 1, 0] rfl) (by omega) (by omega)
set_option maxHeartbeats 4000000 in
set_option maxRecDepth 20000 in
theorem bs_L_law_269 {p : Program} {l : Launch} {e : Env} {s : State} {m : MethodId} {below : List Frame} {meth : Method} {c : Code} {A : Nat → Prop} {Γ Γ' : gE} (hT : gTw Γ Γ') {b L : Nat} {xs : Nat → Int32} (C0 : gCa A p s m #[Value.ref b] meth c Γ RL code 7 ret) (C1 : gCa A p s m #[Value.ref b] meth c Γ' RL code 7 ret) (hst : l.stackTraces = false) (hXs : va_X b L xs s s.heap) (hbl : b < s.heap.size) (hbA : ¬ A b) (hAf : ∀ q, A q → s.heap.size ≤ q) {z : Unit} {F52 : Int32 → Int32 → gG → gG → Option (Unit)} {l4 : Int32} {g h0 : gG} {H : Heap} {locs : List Loc} {ls : Array Slot} {N52 : Nat} (hF52 : ∀ (cells slots : Nat) (l3 : Int32) (l4 : Int32) (g h0 : gG) (H : Heap) (locs : List Loc) (ls : Array Slot), F52 l3 l4 g h0 = some z → va_P (gD Γ) gcls (lay Γ g) H → va_P (gD Γ') gcls (lay Γ' h0) H → va_S A s.heap H locs → lv_has ls 7 [(0, .ref b), (1, .ref (gB Γ + 0)), (2, .ref (gB Γ' + 0)), (3, .int l3), (4, .int l4)] → cells + N52 ≤ 600130 → slots + 6 * N52 ≤ 7301080 → W p l e room_1 s m #[Value.ref b] below meth c H locs cells slots (lw_Z below #[Value.ref b] s) (F0 m 52 ls [])) {cells slots N : Nat} (hr1 : cells + N ≤ 600130) (hr2 : slots + 6 * N ≤ 7301080) (hn_52 : 0 + N52 ≤ N) (h : fs_L_law_269 L xs F52 l4 g h0 = some z) (hP : va_P (gD Γ) gcls (lay Γ g) H) (hQ : va_P (gD Γ') gcls (lay Γ' h0) H) (hS : va_S A s.heap H locs) (hl : lv_has ls 7 [(0, .ref b), (1, .ref (gB Γ + 0)), (2, .ref (gB Γ' + 0)), (4, .int l4)]) : W p l e room_1 s m #[Value.ref b] below meth c H locs cells slots (lw_Z below #[Value.ref b] s) (F0 m 269 ls []) := by
  unfold fs_L_law_269 at h
  obtain ⟨hx, hb, hml, hr, hown, hts, hK, hlk, hX, hA⟩ := id C0
  have hr3 : room_1.cells = 600130 := rfl
  have hr4 : room_1.slots = 7301080 := rfl
  refine lv_iconst (v := 0) hx hb dL_law_269 (by decide) ?_
  exact bs_L_law_270 hT C0 C1 hst hXs hbl hbA hAf hF52 (N := (N - 0)) (by omega) (by omega) (by omega) h hP hQ hS (lv_sub hl [0, 1, 2, 3] rfl)
set_option maxHeartbeats 4000000 in
set_option maxRecDepth 20000 in
theorem bs_L_law_265 {p : Program} {l : Launch} {e : Env} {s : State} {m : MethodId} {below : List Frame} {meth : Method} {c : Code} {A : Nat → Prop} {Γ Γ' : gE} (hT : gTw Γ Γ') {b L : Nat} {xs : Nat → Int32} (C0 : gCa A p s m #[Value.ref b] meth c Γ RL code 7 ret) (C1 : gCa A p s m #[Value.ref b] meth c Γ' RL code 7 ret) (hst : l.stackTraces = false) (hXs : va_X b L xs s s.heap) (hbl : b < s.heap.size) (hbA : ¬ A b) (hAf : ∀ q, A q → s.heap.size ≤ q) {z : Unit} {F52 : Int32 → Int32 → gG → gG → Option (Unit)} {l4 : Int32} {g h0 : gG} {H : Heap} {locs : List Loc} {ls : Array Slot} {N52 : Nat} (hF52 : ∀ (cells slots : Nat) (l3 : Int32) (l4 : Int32) (g h0 : gG) (H : Heap) (locs : List Loc) (ls : Array Slot), F52 l3 l4 g h0 = some z → va_P (gD Γ) gcls (lay Γ g) H → va_P (gD Γ') gcls (lay Γ' h0) H → va_S A s.heap H locs → lv_has ls 7 [(0, .ref b), (1, .ref (gB Γ + 0)), (2, .ref (gB Γ' + 0)), (3, .int l3), (4, .int l4)] → cells + N52 ≤ 600130 → slots + 6 * N52 ≤ 7301080 → W p l e room_1 s m #[Value.ref b] below meth c H locs cells slots (lw_Z below #[Value.ref b] s) (F0 m 52 ls [])) {cells slots N : Nat} (hr1 : cells + N ≤ 600130) (hr2 : slots + 6 * N ≤ 7301080) (hn_52 : 0 + N52 ≤ N) (h : fs_L_law_265 L xs F52 l4 g h0 = some z) (hP : va_P (gD Γ) gcls (lay Γ g) H) (hQ : va_P (gD Γ') gcls (lay Γ' h0) H) (hS : va_S A s.heap H locs) (hl : lv_has ls 7 [(0, .ref b), (1, .ref (gB Γ + 0)), (2, .ref (gB Γ' + 0)), (4, .int l4)]) : W p l e room_1 s m #[Value.ref b] below meth c H locs cells slots (lw_Z below #[Value.ref b] s) (F0 m 265 ls []) := by
  unfold fs_L_law_265 at h
  obtain ⟨hx, hb, hml, hr, hown, hts, hK, hlk, hX, hA⟩ := id C0
  have hr3 : room_1.cells = 600130 := rfl
  have hr4 : room_1.slots = 7301080 := rfl
  refine lv_iconst (v := 1) hx hb dL_law_265 (by decide) ?_
  refine lv_goto (tgt := 270) hx hb dL_law_266 (by decide) ?_
  exact bs_L_law_270 hT C0 C1 hst hXs hbl hbA hAf hF52 (N := (N - 0)) (by omega) (by omega) (by omega) h hP hQ hS (lv_sub hl [0, 1, 2, 3] rfl)
set_option maxHeartbeats 4000000 in
set_option maxRecDepth 20000 in
theorem bs_L_law_243 {p : Program} {l : Launch} {e : Env} {s : State} {m : MethodId} {below : List Frame} {meth : Method} {c : Code} {A : Nat → Prop} {Γ Γ' : gE} (hT : gTw Γ Γ') {b L : Nat} {xs : Nat → Int32} (C0 : gCa A p s m #[Value.ref b] meth c Γ RL code 7 ret) (C1 : gCa A p s m #[Value.ref b] meth c Γ' RL code 7 ret) (hst : l.stackTraces = false) (hXs : va_X b L xs s s.heap) (hbl : b < s.heap.size) (hbA : ¬ A b) (hAf : ∀ q, A q → s.heap.size ≤ q) {z : Unit} {F52 : Int32 → Int32 → gG → gG → Option (Unit)} {l3 : Int32} {l4 : Int32} {l6 : Int32} {g h0 : gG} {H : Heap} {locs : List Loc} {ls : Array Slot} {N52 : Nat} (hF52 : ∀ (cells slots : Nat) (l3 : Int32) (l4 : Int32) (g h0 : gG) (H : Heap) (locs : List Loc) (ls : Array Slot), F52 l3 l4 g h0 = some z → va_P (gD Γ) gcls (lay Γ g) H → va_P (gD Γ') gcls (lay Γ' h0) H → va_S A s.heap H locs → lv_has ls 7 [(0, .ref b), (1, .ref (gB Γ + 0)), (2, .ref (gB Γ' + 0)), (3, .int l3), (4, .int l4)] → cells + N52 ≤ 600130 → slots + 6 * N52 ≤ 7301080 → W p l e room_1 s m #[Value.ref b] below meth c H locs cells slots (lw_Z below #[Value.ref b] s) (F0 m 52 ls [])) {cells slots N : Nat} (hr1 : cells + N ≤ 600130) (hr2 : slots + 6 * N ≤ 7301080) (hn_52 : 466 + N52 ≤ N) (h : fs_L_law_243 L xs F52 l3 l4 l6 g h0 = some z) (hP : va_P (gD Γ) gcls (lay Γ g) H) (hQ : va_P (gD Γ') gcls (lay Γ' h0) H) (hS : va_S A s.heap H locs) (hl : lv_has ls 7 [(0, .ref b), (1, .ref (gB Γ + 0)), (2, .ref (gB Γ' + 0)), (3, .int l3), (4, .int l4), (6, .int l6)]) : W p l e room_1 s m #[Value.ref b] below meth c H locs cells slots (lw_Z below #[Value.ref b] s) (F0 m 243 ls []) := by
  unfold fs_L_law_243 at h
  obtain ⟨hx, hb, hml, hr, hown, hts, hK, hlk, hX, hA⟩ := id C0
  have hr3 : room_1.cells = 600130 := rfl
  have hr4 : room_1.slots = 7301080 := rfl
  refine lv_iload_n hx hb dL_law_243 rfl (lv_at hl 3 rfl) ?_
  refine lv_if_eq (tgt := 269) hx hb dL_law_244 (by decide) (fun c1 => ?_) (fun c1 => ?_)
  · replace h := gpos c1 h
    exact bs_L_law_269 hT C0 C1 hst hXs hbl hbA hAf hF52 (N := (N - 0)) (by omega) (by omega) (by omega) h hP hQ hS (lv_sub hl [0, 1, 2, 4] rfl)
  · replace h := gneg c1 h
    refine lv_iload hx hb dL_law_247 (lv_at hl 4 rfl) ?_
    refine lv_bipush (v := 6) hx hb dL_law_249 (by decide) ?_
    refine lv_irem hx hb dL_law_251 (by decide) ?_
    refine lv_if_gt (tgt := 265) hx hb dL_law_252 (by decide) (fun c2 => ?_) (fun c2 => ?_)
    · replace h := gpos c2 h
      exact bs_L_law_265 hT C0 C1 hst hXs hbl hbA hAf hF52 (N := (N - 0)) (by omega) (by omega) (by omega) h hP hQ hS (lv_sub hl [0, 1, 2, 4] rfl)
    · replace h := gneg c2 h
      refine lv_aload_n hx hb dL_law_255 rfl (lv_at hl 1 rfl) ?_
      refine lv_aload_n hx hb dL_law_256 rfl (lv_at hl 2 rfl) ?_
      refine lv_iload hx hb dL_law_257 (lv_at hl 5 rfl) ?_
      refine dAl (rest := []) hT C0 C1.2.2.2.2.2.2.2.2.2 cal_L_alike wl_L_220 wt_L_alike ⟨Nat.le_of_ble_eq_true rfl, Nat.le_of_ble_eq_true rfl⟩ ⟨by rw [hr3]; omega, by rw [hr4]; omega⟩ [.ref (gB Γ + 0), .ref (gB Γ' + 0), .int l6] rfl (Nat.le_of_ble_eq_true rfl) hP hQ hS hl.1 dL_law_259 h (fun u hu => m_L_alike l hst Γ Γ' hT l6 g h0 u hu) (fun u3 H locs h hP hQ hS => ?_) rfl
      refine lv_if_eq (tgt := 269) hx hb dL_law_262 (by decide) (fun c4 => ?_) (fun c4 => ?_)
      · replace h := gpos c4 h
        exact bs_L_law_269 hT C0 C1 hst hXs hbl hbA hAf hF52 (N := (N - 466)) (by omega) (by omega) (by omega) h hP hQ hS (lv_sub hl [0, 1, 2, 4] rfl)
      · replace h := gneg c4 h
        exact bs_L_law_265 hT C0 C1 hst hXs hbl hbA hAf hF52 (N := (N - 466)) (by omega) (by omega) (by omega) h hP hQ hS (lv_sub hl [0, 1, 2, 4] rfl)
set_option maxHeartbeats 4000000 in
set_option maxRecDepth 20000 in
theorem bs_L_law_242 {p : Program} {l : Launch} {e : Env} {s : State} {m : MethodId} {below : List Frame} {meth : Method} {c : Code} {A : Nat → Prop} {Γ Γ' : gE} (hT : gTw Γ Γ') {b L : Nat} {xs : Nat → Int32} (C0 : gCa A p s m #[Value.ref b] meth c Γ RL code 7 ret) (C1 : gCa A p s m #[Value.ref b] meth c Γ' RL code 7 ret) (hst : l.stackTraces = false) (hXs : va_X b L xs s s.heap) (hbl : b < s.heap.size) (hbA : ¬ A b) (hAf : ∀ q, A q → s.heap.size ≤ q) {z : Unit} {F52 : Int32 → Int32 → gG → gG → Option (Unit)} {l4 : Int32} {l6 : Int32} {s0 : Int32} {g h0 : gG} {H : Heap} {locs : List Loc} {ls : Array Slot} {N52 : Nat} (hF52 : ∀ (cells slots : Nat) (l3 : Int32) (l4 : Int32) (g h0 : gG) (H : Heap) (locs : List Loc) (ls : Array Slot), F52 l3 l4 g h0 = some z → va_P (gD Γ) gcls (lay Γ g) H → va_P (gD Γ') gcls (lay Γ' h0) H → va_S A s.heap H locs → lv_has ls 7 [(0, .ref b), (1, .ref (gB Γ + 0)), (2, .ref (gB Γ' + 0)), (3, .int l3), (4, .int l4)] → cells + N52 ≤ 600130 → slots + 6 * N52 ≤ 7301080 → W p l e room_1 s m #[Value.ref b] below meth c H locs cells slots (lw_Z below #[Value.ref b] s) (F0 m 52 ls [])) {cells slots N : Nat} (hr1 : cells + N ≤ 600130) (hr2 : slots + 6 * N ≤ 7301080) (hn_52 : 466 + N52 ≤ N) (h : fs_L_law_242 L xs F52 l4 l6 s0 g h0 = some z) (hP : va_P (gD Γ) gcls (lay Γ g) H) (hQ : va_P (gD Γ') gcls (lay Γ' h0) H) (hS : va_S A s.heap H locs) (hl : lv_has ls 7 [(0, .ref b), (1, .ref (gB Γ + 0)), (2, .ref (gB Γ' + 0)), (4, .int l4), (6, .int l6)]) : W p l e room_1 s m #[Value.ref b] below meth c H locs cells slots (lw_Z below #[Value.ref b] s) (F0 m 242 ls [.int s0]) := by
  unfold fs_L_law_242 at h
  obtain ⟨hx, hb, hml, hr, hown, hts, hK, hlk, hX, hA⟩ := id C0
  have hr3 : room_1.cells = 600130 := rfl
  have hr4 : room_1.slots = 7301080 := rfl
  refine lv_istore_n (lv' := [(3, .int s0), (0, .ref b), (1, .ref (gB Γ + 0)), (2, .ref (gB Γ' + 0)), (4, .int l4), (6, .int l6)]) hx hb dL_law_242 rfl hl (by decide) rfl (fun ls hl => ?_)
  exact bs_L_law_243 hT C0 C1 hst hXs hbl hbA hAf hF52 (N := (N - 0)) (by omega) (by omega) (by omega) h hP hQ hS (lv_sub hl [1, 2, 3, 0, 4, 5] rfl)
set_option maxHeartbeats 4000000 in
set_option maxRecDepth 20000 in
theorem bs_L_law_241 {p : Program} {l : Launch} {e : Env} {s : State} {m : MethodId} {below : List Frame} {meth : Method} {c : Code} {A : Nat → Prop} {Γ Γ' : gE} (hT : gTw Γ Γ') {b L : Nat} {xs : Nat → Int32} (C0 : gCa A p s m #[Value.ref b] meth c Γ RL code 7 ret) (C1 : gCa A p s m #[Value.ref b] meth c Γ' RL code 7 ret) (hst : l.stackTraces = false) (hXs : va_X b L xs s s.heap) (hbl : b < s.heap.size) (hbA : ¬ A b) (hAf : ∀ q, A q → s.heap.size ≤ q) {z : Unit} {F52 : Int32 → Int32 → gG → gG → Option (Unit)} {l4 : Int32} {l6 : Int32} {g h0 : gG} {H : Heap} {locs : List Loc} {ls : Array Slot} {N52 : Nat} (hF52 : ∀ (cells slots : Nat) (l3 : Int32) (l4 : Int32) (g h0 : gG) (H : Heap) (locs : List Loc) (ls : Array Slot), F52 l3 l4 g h0 = some z → va_P (gD Γ) gcls (lay Γ g) H → va_P (gD Γ') gcls (lay Γ' h0) H → va_S A s.heap H locs → lv_has ls 7 [(0, .ref b), (1, .ref (gB Γ + 0)), (2, .ref (gB Γ' + 0)), (3, .int l3), (4, .int l4)] → cells + N52 ≤ 600130 → slots + 6 * N52 ≤ 7301080 → W p l e room_1 s m #[Value.ref b] below meth c H locs cells slots (lw_Z below #[Value.ref b] s) (F0 m 52 ls [])) {cells slots N : Nat} (hr1 : cells + N ≤ 600130) (hr2 : slots + 6 * N ≤ 7301080) (hn_52 : 466 + N52 ≤ N) (h : fs_L_law_241 L xs F52 l4 l6 g h0 = some z) (hP : va_P (gD Γ) gcls (lay Γ g) H) (hQ : va_P (gD Γ') gcls (lay Γ' h0) H) (hS : va_S A s.heap H locs) (hl : lv_has ls 7 [(0, .ref b), (1, .ref (gB Γ + 0)), (2, .ref (gB Γ' + 0)), (4, .int l4), (6, .int l6)]) : W p l e room_1 s m #[Value.ref b] below meth c H locs cells slots (lw_Z below #[Value.ref b] s) (F0 m 241 ls []) := by
  unfold fs_L_law_241 at h
  obtain ⟨hx, hb, hml, hr, hown, hts, hK, hlk, hX, hA⟩ := id C0
  have hr3 : room_1.cells = 600130 := rfl
  have hr4 : room_1.slots = 7301080 := rfl
  refine lv_iconst (v := 0) hx hb dL_law_241 (by decide) ?_
  exact bs_L_law_242 hT C0 C1 hst hXs hbl hbA hAf hF52 (N := (N - 0)) (by omega) (by omega) (by omega) h hP hQ hS (lv_sub hl [0, 1, 2, 3, 4] rfl)
set_option maxHeartbeats 4000000 in
set_option maxRecDepth 20000 in
theorem bs_L_law_194 {p : Program} {l : Launch} {e : Env} {s : State} {m : MethodId} {below : List Frame} {meth : Method} {c : Code} {A : Nat → Prop} {Γ Γ' : gE} (hT : gTw Γ Γ') {b L : Nat} {xs : Nat → Int32} (C0 : gCa A p s m #[Value.ref b] meth c Γ RL code 7 ret) (C1 : gCa A p s m #[Value.ref b] meth c Γ' RL code 7 ret) (hst : l.stackTraces = false) (hXs : va_X b L xs s s.heap) (hbl : b < s.heap.size) (hbA : ¬ A b) (hAf : ∀ q, A q → s.heap.size ≤ q) {z : Unit} {F52 : Int32 → Int32 → gG → gG → Option (Unit)} {l3 : Int32} {l4 : Int32} {l6 : Int32} {g h0 : gG} {H : Heap} {locs : List Loc} {ls : Array Slot} {N52 : Nat} (hF52 : ∀ (cells slots : Nat) (l3 : Int32) (l4 : Int32) (g h0 : gG) (H : Heap) (locs : List Loc) (ls : Array Slot), F52 l3 l4 g h0 = some z → va_P (gD Γ) gcls (lay Γ g) H → va_P (gD Γ') gcls (lay Γ' h0) H → va_S A s.heap H locs → lv_has ls 7 [(0, .ref b), (1, .ref (gB Γ + 0)), (2, .ref (gB Γ' + 0)), (3, .int l3), (4, .int l4)] → cells + N52 ≤ 600130 → slots + 6 * N52 ≤ 7301080 → W p l e room_1 s m #[Value.ref b] below meth c H locs cells slots (lw_Z below #[Value.ref b] s) (F0 m 52 ls [])) {cells slots N : Nat} (hr1 : cells + N ≤ 600130) (hr2 : slots + 6 * N ≤ 7301080) (hn_52 : 2583 + N52 ≤ N) (h : fs_L_law_194 L xs F52 l3 l4 l6 g h0 = some z) (hP : va_P (gD Γ) gcls (lay Γ g) H) (hQ : va_P (gD Γ') gcls (lay Γ' h0) H) (hS : va_S A s.heap H locs) (hl : lv_has ls 7 [(0, .ref b), (1, .ref (gB Γ + 0)), (2, .ref (gB Γ' + 0)), (3, .int l3), (4, .int l4), (6, .int l6)]) : W p l e room_1 s m #[Value.ref b] below meth c H locs cells slots (lw_Z below #[Value.ref b] s) (F0 m 194 ls []) := by
  unfold fs_L_law_194 at h
  obtain ⟨hx, hb, hml, hr, hown, hts, hK, hlk, hX, hA⟩ := id C0
  have hr3 : room_1.cells = 600130 := rfl
  have hr4 : room_1.slots = 7301080 := rfl
  refine lv_iload hx hb dL_law_194 (lv_at hl 4 rfl) ?_
  refine lv_bipush (v := 9) hx hb dL_law_196 (by decide) ?_
  refine lv_irem hx hb dL_law_198 (by decide) ?_
  refine lv_bipush (v := 8) hx hb dL_law_199 (by decide) ?_
  refine lv_icmp_ne (tgt := 243) hx hb dL_law_201 (by decide) (fun c1 => ?_) (fun c1 => ?_)
  · replace h := gneg c1 h
    exact bs_L_law_243 hT C0 C1 hst hXs hbl hbA hAf hF52 (N := (N - 0)) (by omega) (by omega) (by omega) h hP hQ hS (lv_sub hl [0, 1, 2, 3, 4, 5] rfl)
  · replace h := gpos c1 h
    refine lv_iload_n hx hb dL_law_204 rfl (lv_at hl 3 rfl) ?_
    refine lv_if_eq (tgt := 241) hx hb dL_law_205 (by decide) (fun c2 => ?_) (fun c2 => ?_)
    · replace h := gpos c2 h
      exact bs_L_law_241 hT C0 C1 hst hXs hbl hbA hAf hF52 (N := (N - 0)) (by omega) (by omega) (by omega) h hP hQ hS (lv_sub hl [0, 1, 2, 4, 5] rfl)
    · replace h := gneg c2 h
      refine lv_aload_n hx hb dL_law_208 rfl (lv_at hl 2 rfl) ?_
      refine lv_iload hx hb dL_law_209 (lv_at hl 5 rfl) ?_
      refine dKi (rest := []) C1 cal_L_follows wl_L_240 wt_L_follows ⟨Nat.le_of_ble_eq_true rfl, Nat.le_of_ble_eq_true rfl⟩ ⟨by rw [hr3]; omega, by rw [hr4]; omega⟩ [.ref (gB Γ' + 0), .int l6] rfl (Nat.le_of_ble_eq_true rfl) hQ hS hl.1 dL_law_211 h (fun u hu => m_L_follows l hst Γ' l6 h0 u hu) (fun u3 H locs h hQ1 hk hS => ?_) rfl
      replace hP := dkeep' hT hP hk
      replace hQ := hQ1
      clear hQ1 hk
      refine lv_if_eq (tgt := 241) hx hb dL_law_214 (by decide) (fun c4 => ?_) (fun c4 => ?_)
      · replace h := gpos c4 h
        exact bs_L_law_241 hT C0 C1 hst hXs hbl hbA hAf hF52 (N := (N - 2114)) (by omega) (by omega) (by omega) h hP hQ hS (lv_sub hl [0, 1, 2, 4, 5] rfl)
      · replace h := gneg c4 h
        refine lv_aload_n hx hb dL_law_217 rfl (lv_at hl 1 rfl) ?_
        refine lv_iconst (v := 1) hx hb dL_law_218 (by decide) ?_
        refine dHl (n2 := 2) (rest := []) C0 wcw_L_save wn_L (by decide +kernel) wl_L_162 wt_L_save ⟨Nat.le_of_ble_eq_true rfl, Nat.le_of_ble_eq_true rfl⟩ ⟨by rw [hr3]; omega, by rw [hr4]; omega⟩ [.ref (gB Γ + 0), .int (1 : Int32)] rfl (Nat.le_of_ble_eq_true rfl) hP hS hl.1 dL_law_219 h (fun u hu => m_L_save l hst Γ (1 : Int32) g u hu) (fun u5 H locs h hP1 hk hS => ?_) rfl
        replace hQ := dkeep hT hQ hk
        replace hP := hP1
        clear hP1 hk
        refine lv_lconst (v := 0) hx hb dL_law_222 (by decide) ?_
        refine W.lcmp hx hb dL_law_223 ?_
        refine lv_if_lt (tgt := 241) hx hb dL_law_224 (by decide) (fun c6 => ?_) (fun c6 => ?_)
        · replace h := gpos c6 h
          exact bs_L_law_241 hT C0 C1 hst hXs hbl hbA hAf hF52 (N := (N - 2115)) (by omega) (by omega) (by omega) h hP hQ hS (lv_sub hl [0, 1, 2, 4, 5] rfl)
        · replace h := gneg c6 h
          refine lv_aload_n hx hb dL_law_227 rfl (lv_at hl 1 rfl) ?_
          refine lv_iconst (v := 1) hx hb dL_law_228 (by decide) ?_
          refine dHl (n2 := 2) (rest := []) C0 wcw_L_restore wn_L (by decide +kernel) wl_L_164 wt_L_restore ⟨Nat.le_of_ble_eq_true rfl, Nat.le_of_ble_eq_true rfl⟩ ⟨by rw [hr3]; omega, by rw [hr4]; omega⟩ [.ref (gB Γ + 0), .int (1 : Int32)] rfl (Nat.le_of_ble_eq_true rfl) hP hS hl.1 dL_law_229 h (fun u hu => m_L_restore l hst Γ (1 : Int32) u5.2 u hu) (fun u7 H locs h hP1 hk hS => ?_) rfl
          replace hQ := dkeep hT hQ hk
          replace hP := hP1
          clear hP1 hk
          refine lv_lconst (v := 0) hx hb dL_law_232 (by decide) ?_
          refine W.lcmp hx hb dL_law_233 ?_
          refine lv_if_lt (tgt := 241) hx hb dL_law_234 (by decide) (fun c8 => ?_) (fun c8 => ?_)
          · replace h := gpos c8 h
            exact bs_L_law_241 hT C0 C1 hst hXs hbl hbA hAf hF52 (N := (N - 2117)) (by omega) (by omega) (by omega) h hP hQ hS (lv_sub hl [0, 1, 2, 4, 5] rfl)
          · replace h := gneg c8 h
            refine lv_iconst (v := 1) hx hb dL_law_237 (by decide) ?_
            refine lv_goto (tgt := 242) hx hb dL_law_238 (by decide) ?_
            exact bs_L_law_242 hT C0 C1 hst hXs hbl hbA hAf hF52 (N := (N - 2117)) (by omega) (by omega) (by omega) h hP hQ hS (lv_sub hl [0, 1, 2, 4, 5] rfl)
set_option maxHeartbeats 4000000 in
set_option maxRecDepth 20000 in
theorem bs_L_law_193 {p : Program} {l : Launch} {e : Env} {s : State} {m : MethodId} {below : List Frame} {meth : Method} {c : Code} {A : Nat → Prop} {Γ Γ' : gE} (hT : gTw Γ Γ') {b L : Nat} {xs : Nat → Int32} (C0 : gCa A p s m #[Value.ref b] meth c Γ RL code 7 ret) (C1 : gCa A p s m #[Value.ref b] meth c Γ' RL code 7 ret) (hst : l.stackTraces = false) (hXs : va_X b L xs s s.heap) (hbl : b < s.heap.size) (hbA : ¬ A b) (hAf : ∀ q, A q → s.heap.size ≤ q) {z : Unit} {F52 : Int32 → Int32 → gG → gG → Option (Unit)} {l4 : Int32} {l6 : Int32} {s0 : Int32} {g h0 : gG} {H : Heap} {locs : List Loc} {ls : Array Slot} {N52 : Nat} (hF52 : ∀ (cells slots : Nat) (l3 : Int32) (l4 : Int32) (g h0 : gG) (H : Heap) (locs : List Loc) (ls : Array Slot), F52 l3 l4 g h0 = some z → va_P (gD Γ) gcls (lay Γ g) H → va_P (gD Γ') gcls (lay Γ' h0) H → va_S A s.heap H locs → lv_has ls 7 [(0, .ref b), (1, .ref (gB Γ + 0)), (2, .ref (gB Γ' + 0)), (3, .int l3), (4, .int l4)] → cells + N52 ≤ 600130 → slots + 6 * N52 ≤ 7301080 → W p l e room_1 s m #[Value.ref b] below meth c H locs cells slots (lw_Z below #[Value.ref b] s) (F0 m 52 ls [])) {cells slots N : Nat} (hr1 : cells + N ≤ 600130) (hr2 : slots + 6 * N ≤ 7301080) (hn_52 : 2583 + N52 ≤ N) (h : fs_L_law_193 L xs F52 l4 l6 s0 g h0 = some z) (hP : va_P (gD Γ) gcls (lay Γ g) H) (hQ : va_P (gD Γ') gcls (lay Γ' h0) H) (hS : va_S A s.heap H locs) (hl : lv_has ls 7 [(0, .ref b), (1, .ref (gB Γ + 0)), (2, .ref (gB Γ' + 0)), (4, .int l4), (6, .int l6)]) : W p l e room_1 s m #[Value.ref b] below meth c H locs cells slots (lw_Z below #[Value.ref b] s) (F0 m 193 ls [.int s0]) := by
  unfold fs_L_law_193 at h
  obtain ⟨hx, hb, hml, hr, hown, hts, hK, hlk, hX, hA⟩ := id C0
  have hr3 : room_1.cells = 600130 := rfl
  have hr4 : room_1.slots = 7301080 := rfl
  refine lv_istore_n (lv' := [(3, .int s0), (0, .ref b), (1, .ref (gB Γ + 0)), (2, .ref (gB Γ' + 0)), (4, .int l4), (6, .int l6)]) hx hb dL_law_193 rfl hl (by decide) rfl (fun ls hl => ?_)
  exact bs_L_law_194 hT C0 C1 hst hXs hbl hbA hAf hF52 (N := (N - 0)) (by omega) (by omega) (by omega) h hP hQ hS (lv_sub hl [1, 2, 3, 0, 4, 5] rfl)
set_option maxHeartbeats 4000000 in
set_option maxRecDepth 20000 in
theorem bs_L_law_192 {p : Program} {l : Launch} {e : Env} {s : State} {m : MethodId} {below : List Frame} {meth : Method} {c : Code} {A : Nat → Prop} {Γ Γ' : gE} (hT : gTw Γ Γ') {b L : Nat} {xs : Nat → Int32} (C0 : gCa A p s m #[Value.ref b] meth c Γ RL code 7 ret) (C1 : gCa A p s m #[Value.ref b] meth c Γ' RL code 7 ret) (hst : l.stackTraces = false) (hXs : va_X b L xs s s.heap) (hbl : b < s.heap.size) (hbA : ¬ A b) (hAf : ∀ q, A q → s.heap.size ≤ q) {z : Unit} {F52 : Int32 → Int32 → gG → gG → Option (Unit)} {l4 : Int32} {l6 : Int32} {g h0 : gG} {H : Heap} {locs : List Loc} {ls : Array Slot} {N52 : Nat} (hF52 : ∀ (cells slots : Nat) (l3 : Int32) (l4 : Int32) (g h0 : gG) (H : Heap) (locs : List Loc) (ls : Array Slot), F52 l3 l4 g h0 = some z → va_P (gD Γ) gcls (lay Γ g) H → va_P (gD Γ') gcls (lay Γ' h0) H → va_S A s.heap H locs → lv_has ls 7 [(0, .ref b), (1, .ref (gB Γ + 0)), (2, .ref (gB Γ' + 0)), (3, .int l3), (4, .int l4)] → cells + N52 ≤ 600130 → slots + 6 * N52 ≤ 7301080 → W p l e room_1 s m #[Value.ref b] below meth c H locs cells slots (lw_Z below #[Value.ref b] s) (F0 m 52 ls [])) {cells slots N : Nat} (hr1 : cells + N ≤ 600130) (hr2 : slots + 6 * N ≤ 7301080) (hn_52 : 2583 + N52 ≤ N) (h : fs_L_law_192 L xs F52 l4 l6 g h0 = some z) (hP : va_P (gD Γ) gcls (lay Γ g) H) (hQ : va_P (gD Γ') gcls (lay Γ' h0) H) (hS : va_S A s.heap H locs) (hl : lv_has ls 7 [(0, .ref b), (1, .ref (gB Γ + 0)), (2, .ref (gB Γ' + 0)), (4, .int l4), (6, .int l6)]) : W p l e room_1 s m #[Value.ref b] below meth c H locs cells slots (lw_Z below #[Value.ref b] s) (F0 m 192 ls []) := by
  unfold fs_L_law_192 at h
  obtain ⟨hx, hb, hml, hr, hown, hts, hK, hlk, hX, hA⟩ := id C0
  have hr3 : room_1.cells = 600130 := rfl
  have hr4 : room_1.slots = 7301080 := rfl
  refine lv_iconst (v := 0) hx hb dL_law_192 (by decide) ?_
  exact bs_L_law_193 hT C0 C1 hst hXs hbl hbA hAf hF52 (N := (N - 0)) (by omega) (by omega) (by omega) h hP hQ hS (lv_sub hl [0, 1, 2, 3, 4] rfl)
set_option maxHeartbeats 4000000 in
set_option maxRecDepth 20000 in
theorem bs_L_law_161 {p : Program} {l : Launch} {e : Env} {s : State} {m : MethodId} {below : List Frame} {meth : Method} {c : Code} {A : Nat → Prop} {Γ Γ' : gE} (hT : gTw Γ Γ') {b L : Nat} {xs : Nat → Int32} (C0 : gCa A p s m #[Value.ref b] meth c Γ RL code 7 ret) (C1 : gCa A p s m #[Value.ref b] meth c Γ' RL code 7 ret) (hst : l.stackTraces = false) (hXs : va_X b L xs s s.heap) (hbl : b < s.heap.size) (hbA : ¬ A b) (hAf : ∀ q, A q → s.heap.size ≤ q) {z : Unit} {F52 : Int32 → Int32 → gG → gG → Option (Unit)} {l4 : Int32} {l6 : Int32} {s0 : Int32} {g h0 : gG} {H : Heap} {locs : List Loc} {ls : Array Slot} {N52 : Nat} (hF52 : ∀ (cells slots : Nat) (l3 : Int32) (l4 : Int32) (g h0 : gG) (H : Heap) (locs : List Loc) (ls : Array Slot), F52 l3 l4 g h0 = some z → va_P (gD Γ) gcls (lay Γ g) H → va_P (gD Γ') gcls (lay Γ' h0) H → va_S A s.heap H locs → lv_has ls 7 [(0, .ref b), (1, .ref (gB Γ + 0)), (2, .ref (gB Γ' + 0)), (3, .int l3), (4, .int l4)] → cells + N52 ≤ 600130 → slots + 6 * N52 ≤ 7301080 → W p l e room_1 s m #[Value.ref b] below meth c H locs cells slots (lw_Z below #[Value.ref b] s) (F0 m 52 ls [])) {cells slots N : Nat} (hr1 : cells + N ≤ 600130) (hr2 : slots + 6 * N ≤ 7301080) (hn_52 : 4328 + N52 ≤ N) (h : fs_L_law_161 L xs F52 l4 l6 s0 g h0 = some z) (hP : va_P (gD Γ) gcls (lay Γ g) H) (hQ : va_P (gD Γ') gcls (lay Γ' h0) H) (hS : va_S A s.heap H locs) (hl : lv_has ls 7 [(0, .ref b), (1, .ref (gB Γ + 0)), (2, .ref (gB Γ' + 0)), (4, .int l4), (6, .int l6)]) : W p l e room_1 s m #[Value.ref b] below meth c H locs cells slots (lw_Z below #[Value.ref b] s) (F0 m 161 ls [.int s0]) := by
  unfold fs_L_law_161 at h
  obtain ⟨hx, hb, hml, hr, hown, hts, hK, hlk, hX, hA⟩ := id C0
  have hr3 : room_1.cells = 600130 := rfl
  have hr4 : room_1.slots = 7301080 := rfl
  refine lv_istore_n (lv' := [(3, .int s0), (0, .ref b), (1, .ref (gB Γ + 0)), (2, .ref (gB Γ' + 0)), (4, .int l4), (6, .int l6)]) hx hb dL_law_161 rfl hl (by decide) rfl (fun ls hl => ?_)
  refine lv_iload hx hb dL_law_162 (lv_at hl 4 rfl) ?_
  refine lv_bipush (v := 6) hx hb dL_law_164 (by decide) ?_
  refine lv_irem hx hb dL_law_166 (by decide) ?_
  refine lv_if_ne (tgt := 194) hx hb dL_law_167 (by decide) (fun c1 => ?_) (fun c1 => ?_)
  · replace h := gneg c1 h
    exact bs_L_law_194 hT C0 C1 hst hXs hbl hbA hAf hF52 (N := (N - 0)) (by omega) (by omega) (by omega) h hP hQ hS (lv_sub hl [1, 2, 3, 0, 4, 5] rfl)
  · replace h := gpos c1 h
    refine lv_iload_n hx hb dL_law_170 rfl (lv_at hl 0 rfl) ?_
    refine lv_if_eq (tgt := 192) hx hb dL_law_171 (by decide) (fun c2 => ?_) (fun c2 => ?_)
    · replace h := gpos c2 h
      exact bs_L_law_192 hT C0 C1 hst hXs hbl hbA hAf hF52 (N := (N - 0)) (by omega) (by omega) (by omega) h hP hQ hS (lv_sub hl [1, 2, 3, 4, 5] rfl)
    · replace h := gneg c2 h
      refine lv_aload_n hx hb dL_law_174 rfl (lv_at hl 3 rfl) ?_
      refine dKi (rest := []) C1 cal_L_errors wl_L_224 wt_L_errors ⟨Nat.le_of_ble_eq_true rfl, Nat.le_of_ble_eq_true rfl⟩ ⟨by rw [hr3]; omega, by rw [hr4]; omega⟩ [.ref (gB Γ' + 0)] rfl (Nat.le_of_ble_eq_true rfl) hQ hS hl.1 dL_law_175 h (fun u hu => m_L_errors l hst Γ' h0 u hu) (fun u3 H locs h hQ1 hk hS => ?_) rfl
      replace hP := dkeep' hT hP hk
      replace hQ := hQ1
      clear hQ1 hk
      refine lv_if_eq (tgt := 192) hx hb dL_law_178 (by decide) (fun c4 => ?_) (fun c4 => ?_)
      · replace h := gpos c4 h
        exact bs_L_law_192 hT C0 C1 hst hXs hbl hbA hAf hF52 (N := (N - 807)) (by omega) (by omega) (by omega) h hP hQ hS (lv_sub hl [1, 2, 3, 4, 5] rfl)
      · replace h := gneg c4 h
        refine lv_aload_n hx hb dL_law_181 rfl (lv_at hl 3 rfl) ?_
        refine dKi (rest := []) C1 cal_L_kept wl_L_228 wt_L_kept ⟨Nat.le_of_ble_eq_true rfl, Nat.le_of_ble_eq_true rfl⟩ ⟨by rw [hr3]; omega, by rw [hr4]; omega⟩ [.ref (gB Γ' + 0)] rfl (Nat.le_of_ble_eq_true rfl) hQ hS hl.1 dL_law_182 h (fun u hu => m_L_kept l hst Γ' u3.2 u hu) (fun u5 H locs h hQ1 hk hS => ?_) rfl
        replace hP := dkeep' hT hP hk
        replace hQ := hQ1
        clear hQ1 hk
        refine lv_if_eq (tgt := 192) hx hb dL_law_185 (by decide) (fun c6 => ?_) (fun c6 => ?_)
        · replace h := gpos c6 h
          exact bs_L_law_192 hT C0 C1 hst hXs hbl hbA hAf hF52 (N := (N - 1745)) (by omega) (by omega) (by omega) h hP hQ hS (lv_sub hl [1, 2, 3, 4, 5] rfl)
        · replace h := gneg c6 h
          refine lv_iconst (v := 1) hx hb dL_law_188 (by decide) ?_
          refine lv_goto (tgt := 193) hx hb dL_law_189 (by decide) ?_
          exact bs_L_law_193 hT C0 C1 hst hXs hbl hbA hAf hF52 (N := (N - 1745)) (by omega) (by omega) (by omega) h hP hQ hS (lv_sub hl [1, 2, 3, 4, 5] rfl)
set_option maxHeartbeats 4000000 in
set_option maxRecDepth 20000 in
theorem bs_L_law_132 {p : Program} {l : Launch} {e : Env} {s : State} {m : MethodId} {below : List Frame} {meth : Method} {c : Code} {A : Nat → Prop} {Γ Γ' : gE} (hT : gTw Γ Γ') {b L : Nat} {xs : Nat → Int32} (C0 : gCa A p s m #[Value.ref b] meth c Γ RL code 7 ret) (C1 : gCa A p s m #[Value.ref b] meth c Γ' RL code 7 ret) (hst : l.stackTraces = false) (hXs : va_X b L xs s s.heap) (hbl : b < s.heap.size) (hbA : ¬ A b) (hAf : ∀ q, A q → s.heap.size ≤ q) {z : Unit} {F52 : Int32 → Int32 → gG → gG → Option (Unit)} {l4 : Int32} {s0 : Int32} {g h0 : gG} {H : Heap} {locs : List Loc} {ls : Array Slot} {N52 : Nat} (hF52 : ∀ (cells slots : Nat) (l3 : Int32) (l4 : Int32) (g h0 : gG) (H : Heap) (locs : List Loc) (ls : Array Slot), F52 l3 l4 g h0 = some z → va_P (gD Γ) gcls (lay Γ g) H → va_P (gD Γ') gcls (lay Γ' h0) H → va_S A s.heap H locs → lv_has ls 7 [(0, .ref b), (1, .ref (gB Γ + 0)), (2, .ref (gB Γ' + 0)), (3, .int l3), (4, .int l4)] → cells + N52 ≤ 600130 → slots + 6 * N52 ≤ 7301080 → W p l e room_1 s m #[Value.ref b] below meth c H locs cells slots (lw_Z below #[Value.ref b] s) (F0 m 52 ls [])) {cells slots N : Nat} (hr1 : cells + N ≤ 600130) (hr2 : slots + 6 * N ≤ 7301080) (hn_52 : 0 + N52 ≤ N) (h : fs_L_law_132 L xs F52 l4 s0 g h0 = some z) (hP : va_P (gD Γ) gcls (lay Γ g) H) (hQ : va_P (gD Γ') gcls (lay Γ' h0) H) (hS : va_S A s.heap H locs) (hl : lv_has ls 7 [(0, .ref b), (1, .ref (gB Γ + 0)), (2, .ref (gB Γ' + 0)), (4, .int l4)]) : W p l e room_1 s m #[Value.ref b] below meth c H locs cells slots (lw_Z below #[Value.ref b] s) (F0 m 132 ls [.int s0]) := by
  unfold fs_L_law_132 at h
  obtain ⟨hx, hb, hml, hr, hown, hts, hK, hlk, hX, hA⟩ := id C0
  have hr3 : room_1.cells = 600130 := rfl
  have hr4 : room_1.slots = 7301080 := rfl
  refine lv_istore_n (lv' := [(3, .int s0), (0, .ref b), (1, .ref (gB Γ + 0)), (2, .ref (gB Γ' + 0)), (4, .int l4)]) hx hb dL_law_132 rfl hl (by decide) rfl (fun ls hl => ?_)
  refine lv_goto (tgt := 271) hx hb dL_law_133 (by decide) ?_
  obtain ⟨x1, ex1⟩ : ∃ y : Int32, y = l4 + (1 : Int32) := ⟨_, rfl⟩
  replace h := gLetI ex1 h
  refine lv_iinc (v := x1) (lv' := [(4, .int x1), (3, .int s0), (0, .ref b), (1, .ref (gB Γ + 0)), (2, .ref (gB Γ' + 0))]) hx hb dL_law_271 hl (k := 4) rfl (by rw [ex1]; rfl) (by decide) rfl (fun ls hl => ?_)
  refine lv_goto (tgt := 52) hx hb dL_law_274 (by decide) ?_
  exact hF52 _ _ _ _ _ _ _ _ _ h hP hQ hS (lv_sub hl [2, 3, 4, 1, 0] rfl) (by omega) (by omega)
set_option maxHeartbeats 4000000 in
set_option maxRecDepth 20000 in
theorem bs_L_law_131 {p : Program} {l : Launch} {e : Env} {s : State} {m : MethodId} {below : List Frame} {meth : Method} {c : Code} {A : Nat → Prop} {Γ Γ' : gE} (hT : gTw Γ Γ') {b L : Nat} {xs : Nat → Int32} (C0 : gCa A p s m #[Value.ref b] meth c Γ RL code 7 ret) (C1 : gCa A p s m #[Value.ref b] meth c Γ' RL code 7 ret) (hst : l.stackTraces = false) (hXs : va_X b L xs s s.heap) (hbl : b < s.heap.size) (hbA : ¬ A b) (hAf : ∀ q, A q → s.heap.size ≤ q) {z : Unit} {F52 : Int32 → Int32 → gG → gG → Option (Unit)} {l4 : Int32} {g h0 : gG} {H : Heap} {locs : List Loc} {ls : Array Slot} {N52 : Nat} (hF52 : ∀ (cells slots : Nat) (l3 : Int32) (l4 : Int32) (g h0 : gG) (H : Heap) (locs : List Loc) (ls : Array Slot), F52 l3 l4 g h0 = some z → va_P (gD Γ) gcls (lay Γ g) H → va_P (gD Γ') gcls (lay Γ' h0) H → va_S A s.heap H locs → lv_has ls 7 [(0, .ref b), (1, .ref (gB Γ + 0)), (2, .ref (gB Γ' + 0)), (3, .int l3), (4, .int l4)] → cells + N52 ≤ 600130 → slots + 6 * N52 ≤ 7301080 → W p l e room_1 s m #[Value.ref b] below meth c H locs cells slots (lw_Z below #[Value.ref b] s) (F0 m 52 ls [])) {cells slots N : Nat} (hr1 : cells + N ≤ 600130) (hr2 : slots + 6 * N ≤ 7301080) (hn_52 : 0 + N52 ≤ N) (h : fs_L_law_131 L xs F52 l4 g h0 = some z) (hP : va_P (gD Γ) gcls (lay Γ g) H) (hQ : va_P (gD Γ') gcls (lay Γ' h0) H) (hS : va_S A s.heap H locs) (hl : lv_has ls 7 [(0, .ref b), (1, .ref (gB Γ + 0)), (2, .ref (gB Γ' + 0)), (4, .int l4)]) : W p l e room_1 s m #[Value.ref b] below meth c H locs cells slots (lw_Z below #[Value.ref b] s) (F0 m 131 ls []) := by
  unfold fs_L_law_131 at h
  obtain ⟨hx, hb, hml, hr, hown, hts, hK, hlk, hX, hA⟩ := id C0
  have hr3 : room_1.cells = 600130 := rfl
  have hr4 : room_1.slots = 7301080 := rfl
  refine lv_iconst (v := 0) hx hb dL_law_131 (by decide) ?_
  exact bs_L_law_132 hT C0 C1 hst hXs hbl hbA hAf hF52 (N := (N - 0)) (by omega) (by omega) (by omega) h hP hQ hS (lv_sub hl [0, 1, 2, 3] rfl)
set_option maxHeartbeats 4000000 in
set_option maxRecDepth 20000 in
theorem bs_L_law_52 {p : Program} {l : Launch} {e : Env} {s : State} {m : MethodId} {below : List Frame} {meth : Method} {c : Code} {A : Nat → Prop} {Γ Γ' : gE} (hT : gTw Γ Γ') {b L : Nat} {xs : Nat → Int32} (C0 : gCa A p s m #[Value.ref b] meth c Γ RL code 7 ret) (C1 : gCa A p s m #[Value.ref b] meth c Γ' RL code 7 ret) (hst : l.stackTraces = false) (hXs : va_X b L xs s s.heap) (hbl : b < s.heap.size) (hbA : ¬ A b) (hAf : ∀ q, A q → s.heap.size ≤ q) {z : Unit} {F52 : Int32 → Int32 → gG → gG → Option (Unit)} {l3 : Int32} {l4 : Int32} {g h0 : gG} {H : Heap} {locs : List Loc} {ls : Array Slot} {N52 : Nat} (hF52 : ∀ (cells slots : Nat) (l3 : Int32) (l4 : Int32) (g h0 : gG) (H : Heap) (locs : List Loc) (ls : Array Slot), F52 l3 l4 g h0 = some z → va_P (gD Γ) gcls (lay Γ g) H → va_P (gD Γ') gcls (lay Γ' h0) H → va_S A s.heap H locs → lv_has ls 7 [(0, .ref b), (1, .ref (gB Γ + 0)), (2, .ref (gB Γ' + 0)), (3, .int l3), (4, .int l4)] → cells + N52 ≤ 600130 → slots + 6 * N52 ≤ 7301080 → W p l e room_1 s m #[Value.ref b] below meth c H locs cells slots (lw_Z below #[Value.ref b] s) (F0 m 52 ls [])) {cells slots N : Nat} (hr1 : cells + N ≤ 600130) (hr2 : slots + 6 * N ≤ 7301080) (hn_ret : 466 ≤ N) (hn_52 : 4338 + N52 ≤ N) (h : fs_L_law_52 L xs F52 l3 l4 g h0 = some z) (hP : va_P (gD Γ) gcls (lay Γ g) H) (hQ : va_P (gD Γ') gcls (lay Γ' h0) H) (hS : va_S A s.heap H locs) (hl : lv_has ls 7 [(0, .ref b), (1, .ref (gB Γ + 0)), (2, .ref (gB Γ' + 0)), (3, .int l3), (4, .int l4)]) : W p l e room_1 s m #[Value.ref b] below meth c H locs cells slots (lw_Z below #[Value.ref b] s) (F0 m 52 ls []) := by
  unfold fs_L_law_52 at h
  obtain ⟨hx, hb, hml, hr, hown, hts, hK, hlk, hX, hA⟩ := id C0
  have hr3 : room_1.cells = 600130 := rfl
  have hr4 : room_1.slots = 7301080 := rfl
  refine lv_iload hx hb dL_law_52 (lv_at hl 4 rfl) ?_
  refine lv_bipush (v := 54) hx hb dL_law_54 (by decide) ?_
  refine lv_icmp_ge (tgt := 277) hx hb dL_law_56 (by decide) (fun c1 => ?_) (fun c1 => ?_)
  · replace h := gpos c1 h
    exact bs_L_law_277 hT C0 C1 hst hXs hbl hbA hAf  (N := (N - 0)) (by omega) (by omega) (by omega) h hP hQ hS (lv_sub hl [1, 2, 3] rfl)
  · replace h := gneg c1 h
    refine lv_iload_n hx hb dL_law_59 rfl (lv_at hl 3 rfl) ?_
    refine lv_if_eq (tgt := 277) hx hb dL_law_60 (by decide) (fun c2 => ?_) (fun c2 => ?_)
    · replace h := gpos c2 h
      exact bs_L_law_277 hT C0 C1 hst hXs hbl hbA hAf  (N := (N - 0)) (by omega) (by omega) (by omega) h hP hQ hS (lv_sub hl [1, 2, 3] rfl)
    · replace h := gneg c2 h
      refine lv_aload_n hx hb dL_law_63 rfl (lv_at hl 0 rfl) ?_
      refine lv_iconst (v := 2) hx hb dL_law_64 (by decide) ?_
      refine lv_iload hx hb dL_law_65 (lv_at hl 4 rfl) ?_
      refine lv_imul hx hb dL_law_67 ?_
      refine dDr (rest := []) C0 cal_L_draw wl_L_216 wt_L_draw ⟨Nat.le_of_ble_eq_true rfl, Nat.le_of_ble_eq_true rfl⟩ ⟨by rw [hr3]; omega, by rw [hr4]; omega⟩ hXs hbl hbA (Nat.le_of_ble_eq_true rfl) hS hl.1 dL_law_68 h (fun u hu => m_L_draw l b L xs _ u hu) (fun u3 H locs h hk hS => ?_)
      replace hP := hP.kept (fun k q hq => hk q.1 (hP k q hq).lt)
      replace hQ := hQ.kept (fun k q hq => hk q.1 (hQ k q hq).lt)
      clear hk
      refine lv_istore (lv' := [(5, .int u3), (0, .ref b), (1, .ref (gB Γ + 0)), (2, .ref (gB Γ' + 0)), (3, .int l3), (4, .int l4)]) hx hb dL_law_71 hl (by decide) rfl (fun ls hl => ?_)
      refine lv_aload_n hx hb dL_law_73 rfl (lv_at hl 1 rfl) ?_
      refine lv_iconst (v := 2) hx hb dL_law_74 (by decide) ?_
      refine lv_iload hx hb dL_law_75 (lv_at hl 5 rfl) ?_
      refine lv_imul hx hb dL_law_77 ?_
      refine lv_iconst (v := 1) hx hb dL_law_78 (by decide) ?_
      refine lv_iadd hx hb dL_law_79 ?_
      refine dDr (rest := []) C0 cal_L_draw wl_L_216 wt_L_draw ⟨Nat.le_of_ble_eq_true rfl, Nat.le_of_ble_eq_true rfl⟩ ⟨by rw [hr3]; omega, by rw [hr4]; omega⟩ hXs hbl hbA (Nat.le_of_ble_eq_true rfl) hS hl.1 dL_law_80 h (fun u hu => m_L_draw l b L xs _ u hu) (fun u4 H locs h hk hS => ?_)
      replace hP := hP.kept (fun k q hq => hk q.1 (hP k q hq).lt)
      replace hQ := hQ.kept (fun k q hq => hk q.1 (hQ k q hq).lt)
      clear hk
      refine lv_istore (lv' := [(6, .int u4), (5, .int u3), (0, .ref b), (1, .ref (gB Γ + 0)), (2, .ref (gB Γ' + 0)), (3, .int l3), (4, .int l4)]) hx hb dL_law_83 hl (by decide) rfl (fun ls hl => ?_)
      refine lv_iload hx hb dL_law_85 (lv_at hl 6 rfl) ?_
      refine lv_bipush (v := 27) hx hb dL_law_87 (by decide) ?_
      refine lv_irem hx hb dL_law_89 (by decide) ?_
      refine lv_if_ne (tgt := 136) hx hb dL_law_90 (by decide) (fun c5 => ?_) (fun c5 => ?_)
      · replace h := gneg c5 h
        refine lv_aload_n hx hb dL_law_136 rfl (lv_at hl 3 rfl) ?_
        refine lv_iload hx hb dL_law_137 (lv_at hl 1 rfl) ?_
        refine lv_iload hx hb dL_law_139 (lv_at hl 0 rfl) ?_
        refine dKl (rest := []) C0 cal_L_act wl_L_237 wt_L_act ⟨Nat.le_of_ble_eq_true rfl, Nat.le_of_ble_eq_true rfl⟩ ⟨by rw [hr3]; omega, by rw [hr4]; omega⟩ [.ref (gB Γ + 0), .int u3, .int u4] rfl (Nat.le_of_ble_eq_true rfl) hP hS hl.1 dL_law_141 h (fun u hu => m_L_act l hst Γ u3 u4 g u hu) (fun u6 H locs h hP1 hk hS => ?_) rfl
        replace hQ := dkeep hT hQ hk
        replace hP := hP1
        clear hP1 hk
        refine lv_aload_n hx hb dL_law_144 rfl (lv_at hl 4 rfl) ?_
        refine lv_iload hx hb dL_law_145 (lv_at hl 1 rfl) ?_
        refine lv_iload hx hb dL_law_147 (lv_at hl 0 rfl) ?_
        refine dKl (rest := [.long u6.1]) C1 cal_L_act wl_L_237 wt_L_act ⟨Nat.le_of_ble_eq_true rfl, Nat.le_of_ble_eq_true rfl⟩ ⟨by rw [hr3]; omega, by rw [hr4]; omega⟩ [.ref (gB Γ' + 0), .int u3, .int u4] rfl (Nat.le_of_ble_eq_true rfl) hQ hS hl.1 dL_law_149 h (fun u hu => m_L_act l hst Γ' u3 u4 h0 u hu) (fun u7 H locs h hQ1 hk hS => ?_) rfl
        replace hP := dkeep' hT hP hk
        replace hQ := hQ1
        clear hQ1 hk
        refine W.lcmp hx hb dL_law_152 ?_
        refine lv_if_ne (tgt := 160) hx hb dL_law_153 (by decide) (fun c8 => ?_) (fun c8 => ?_)
        · replace h := gneg c8 h
          refine lv_iconst (v := 0) hx hb dL_law_160 (by decide) ?_
          exact bs_L_law_161 hT C0 C1 hst hXs hbl hbA hAf hF52 (N := (N - 10)) (by omega) (by omega) (by omega) h hP hQ hS (lv_sub hl [2, 3, 4, 6, 0] rfl)
        · replace h := gpos c8 h
          refine lv_iconst (v := 1) hx hb dL_law_156 (by decide) ?_
          refine lv_goto (tgt := 161) hx hb dL_law_157 (by decide) ?_
          exact bs_L_law_161 hT C0 C1 hst hXs hbl hbA hAf hF52 (N := (N - 10)) (by omega) (by omega) (by omega) h hP hQ hS (lv_sub hl [2, 3, 4, 6, 0] rfl)
      · replace h := gpos c5 h
        refine lv_aload_n hx hb dL_law_93 rfl (lv_at hl 3 rfl) ?_
        refine lv_iload hx hb dL_law_94 (lv_at hl 1 rfl) ?_
        refine lv_iload hx hb dL_law_96 (lv_at hl 0 rfl) ?_
        refine dKi (rest := []) C0 cal_L_tells wl_L_231 wt_L_tells ⟨Nat.le_of_ble_eq_true rfl, Nat.le_of_ble_eq_true rfl⟩ ⟨by rw [hr3]; omega, by rw [hr4]; omega⟩ [.ref (gB Γ + 0), .int u3, .int u4] rfl (Nat.le_of_ble_eq_true rfl) hP hS hl.1 dL_law_98 h (fun u hu => m_L_tells l hst Γ u3 u4 g u hu) (fun u9 H locs h hP1 hk hS => ?_) rfl
        replace hQ := dkeep hT hQ hk
        replace hP := hP1
        clear hP1 hk
        refine lv_if_eq (tgt := 131) hx hb dL_law_101 (by decide) (fun c10 => ?_) (fun c10 => ?_)
        · replace h := gpos c10 h
          exact bs_L_law_131 hT C0 C1 hst hXs hbl hbA hAf hF52 (N := (N - 109)) (by omega) (by omega) (by omega) h hP hQ hS (lv_sub hl [2, 3, 4, 6] rfl)
        · replace h := gneg c10 h
          refine lv_aload_n hx hb dL_law_104 rfl (lv_at hl 4 rfl) ?_
          refine lv_iload hx hb dL_law_105 (lv_at hl 1 rfl) ?_
          refine lv_iload hx hb dL_law_107 (lv_at hl 0 rfl) ?_
          refine dKi (rest := []) C1 cal_L_tells wl_L_231 wt_L_tells ⟨Nat.le_of_ble_eq_true rfl, Nat.le_of_ble_eq_true rfl⟩ ⟨by rw [hr3]; omega, by rw [hr4]; omega⟩ [.ref (gB Γ' + 0), .int u3, .int u4] rfl (Nat.le_of_ble_eq_true rfl) hQ hS hl.1 dL_law_109 h (fun u hu => m_L_tells l hst Γ' u3 u4 h0 u hu) (fun u11 H locs h hQ1 hk hS => ?_) rfl
          replace hP := dkeep' hT hP hk
          replace hQ := hQ1
          clear hQ1 hk
          refine lv_if_eq (tgt := 131) hx hb dL_law_112 (by decide) (fun c12 => ?_) (fun c12 => ?_)
          · replace h := gpos c12 h
            exact bs_L_law_131 hT C0 C1 hst hXs hbl hbA hAf hF52 (N := (N - 218)) (by omega) (by omega) (by omega) h hP hQ hS (lv_sub hl [2, 3, 4, 6] rfl)
          · replace h := gneg c12 h
            refine lv_aload_n hx hb dL_law_115 rfl (lv_at hl 3 rfl) ?_
            refine dHl (n2 := 1) (rest := []) C0 wcw_L_load wn_L (by decide +kernel) wl_L_235 wt_L_load ⟨Nat.le_of_ble_eq_true rfl, Nat.le_of_ble_eq_true rfl⟩ ⟨by rw [hr3]; omega, by rw [hr4]; omega⟩ [.ref (gB Γ + 0)] rfl (Nat.le_of_ble_eq_true rfl) hP hS hl.1 dL_law_116 h (fun u hu => m_L_load l hst Γ u9.2 u hu) (fun u13 H locs h hP1 hk hS => ?_) rfl
            replace hQ := dkeep hT hQ hk
            replace hP := hP1
            clear hP1 hk
            refine lv_aload_n hx hb dL_law_119 rfl (lv_at hl 4 rfl) ?_
            refine dHl (n2 := 1) (rest := [.long u13.1]) C1 wcw_L_load wn_L (by decide +kernel) wl_L_235 wt_L_load ⟨Nat.le_of_ble_eq_true rfl, Nat.le_of_ble_eq_true rfl⟩ ⟨by rw [hr3]; omega, by rw [hr4]; omega⟩ [.ref (gB Γ' + 0)] rfl (Nat.le_of_ble_eq_true rfl) hQ hS hl.1 dL_law_120 h (fun u hu => m_L_load l hst Γ' u11.2 u hu) (fun u14 H locs h hQ1 hk hS => ?_) rfl
            replace hP := dkeep' hT hP hk
            replace hQ := hQ1
            clear hQ1 hk
            refine W.lcmp hx hb dL_law_123 ?_
            refine lv_if_ne (tgt := 131) hx hb dL_law_124 (by decide) (fun c15 => ?_) (fun c15 => ?_)
            · replace h := gneg c15 h
              exact bs_L_law_131 hT C0 C1 hst hXs hbl hbA hAf hF52 (N := (N - 220)) (by omega) (by omega) (by omega) h hP hQ hS (lv_sub hl [2, 3, 4, 6] rfl)
            · replace h := gpos c15 h
              refine lv_iconst (v := 1) hx hb dL_law_127 (by decide) ?_
              refine lv_goto (tgt := 132) hx hb dL_law_128 (by decide) ?_
              exact bs_L_law_132 hT C0 C1 hst hXs hbl hbA hAf hF52 (N := (N - 220)) (by omega) (by omega) (by omega) h hP hQ hS (lv_sub hl [2, 3, 4, 6] rfl)
set_option maxHeartbeats 4000000 in
set_option maxRecDepth 20000 in
theorem bk_L_law_52 {p : Program} {l : Launch} {e : Env} {s : State} {m : MethodId} {below : List Frame} {meth : Method} {c : Code} {A : Nat → Prop} {Γ Γ' : gE} (hT : gTw Γ Γ') {b L : Nat} {xs : Nat → Int32} (C0 : gCa A p s m #[Value.ref b] meth c Γ RL code 7 ret) (C1 : gCa A p s m #[Value.ref b] meth c Γ' RL code 7 ret) (hst : l.stackTraces = false) (hXs : va_X b L xs s s.heap) (hbl : b < s.heap.size) (hbA : ¬ A b) (hAf : ∀ q, A q → s.heap.size ≤ q) {z : Unit} {T : Nat} (hT_ret : 466 ≤ T) : ∀ (n cells slots : Nat) (l3 : Int32) (l4 : Int32) (g h0 : gG) (H : Heap) (locs : List Loc) (ls : Array Slot), fb_L_law_52 L xs n l3 l4 g h0 = some z → va_P (gD Γ) gcls (lay Γ g) H → va_P (gD Γ') gcls (lay Γ' h0) H → va_S A s.heap H locs → lv_has ls 7 [(0, .ref b), (1, .ref (gB Γ + 0)), (2, .ref (gB Γ' + 0)), (3, .int l3), (4, .int l4)] → cells + (n * 4338 + T) ≤ 600130 → slots + 6 * (n * 4338 + T) ≤ 7301080 → W p l e room_1 s m #[Value.ref b] below meth c H locs cells slots (lw_Z below #[Value.ref b] s) (F0 m 52 ls []) := by
  intro n
  induction n with
  | zero => intro cells slots l3 l4 g h0 H locs ls h hP hQ hS hl hr1 hr2; cases h
  | succ n ih => intro cells slots l3 l4 g h0 H locs ls h hP hQ hS hl hr1 hr2; exact bs_L_law_52 hT C0 C1 hst hXs hbl hbA hAf (N := (n + 1) * 4338 + T) ih hr1 hr2 (by omega) (by omega) h hP hQ hS hl
set_option maxHeartbeats 4000000 in
set_option maxRecDepth 20000 in
theorem bs_L_law_48 {p : Program} {l : Launch} {e : Env} {s : State} {m : MethodId} {below : List Frame} {meth : Method} {c : Code} {A : Nat → Prop} {Γ Γ' : gE} (hT : gTw Γ Γ') {b L : Nat} {xs : Nat → Int32} (C0 : gCa A p s m #[Value.ref b] meth c Γ RL code 7 ret) (C1 : gCa A p s m #[Value.ref b] meth c Γ' RL code 7 ret) (hst : l.stackTraces = false) (hXs : va_X b L xs s s.heap) (hbl : b < s.heap.size) (hbA : ¬ A b) (hAf : ∀ q, A q → s.heap.size ≤ q) {z : Unit}  {s0 : Int32} {g h0 : gG} {H : Heap} {locs : List Loc} {ls : Array Slot}  {cells slots N : Nat} (hr1 : cells + N ≤ 600130) (hr2 : slots + 6 * N ≤ 7301080) (hn_ret : 239056 ≤ N) (h : fs_L_law_48 L xs s0 g h0 = some z) (hP : va_P (gD Γ) gcls (lay Γ g) H) (hQ : va_P (gD Γ') gcls (lay Γ' h0) H) (hS : va_S A s.heap H locs) (hl : lv_has ls 7 [(0, .ref b), (1, .ref (gB Γ + 0)), (2, .ref (gB Γ' + 0))]) : W p l e room_1 s m #[Value.ref b] below meth c H locs cells slots (lw_Z below #[Value.ref b] s) (F0 m 48 ls [.int s0]) := by
  unfold fs_L_law_48 at h
  obtain ⟨hx, hb, hml, hr, hown, hts, hK, hlk, hX, hA⟩ := id C0
  have hr3 : room_1.cells = 600130 := rfl
  have hr4 : room_1.slots = 7301080 := rfl
  refine lv_istore_n (lv' := [(3, .int s0), (0, .ref b), (1, .ref (gB Γ + 0)), (2, .ref (gB Γ' + 0))]) hx hb dL_law_48 rfl hl (by decide) rfl (fun ls hl => ?_)
  refine lv_iconst (v := 0) hx hb dL_law_49 (by decide) ?_
  refine lv_istore (lv' := [(4, .int (0 : Int32)), (3, .int s0), (0, .ref b), (1, .ref (gB Γ + 0)), (2, .ref (gB Γ' + 0))]) hx hb dL_law_50 hl (by decide) rfl (fun ls hl => ?_)
  exact bk_L_law_52 hT C0 C1 hst hXs hbl hbA hAf (T := (N - 0) - 238590) (by omega) gFuelW _ _ _ _ _ _ _ _ _ h hP hQ hS (lv_sub hl [2, 3, 4, 1, 0] rfl) (by unfold gFuelW; omega) (by unfold gFuelW; omega)
set_option maxHeartbeats 4000000 in
set_option maxRecDepth 20000 in
theorem bs_L_law_47 {p : Program} {l : Launch} {e : Env} {s : State} {m : MethodId} {below : List Frame} {meth : Method} {c : Code} {A : Nat → Prop} {Γ Γ' : gE} (hT : gTw Γ Γ') {b L : Nat} {xs : Nat → Int32} (C0 : gCa A p s m #[Value.ref b] meth c Γ RL code 7 ret) (C1 : gCa A p s m #[Value.ref b] meth c Γ' RL code 7 ret) (hst : l.stackTraces = false) (hXs : va_X b L xs s s.heap) (hbl : b < s.heap.size) (hbA : ¬ A b) (hAf : ∀ q, A q → s.heap.size ≤ q) {z : Unit}   {g h0 : gG} {H : Heap} {locs : List Loc} {ls : Array Slot}  {cells slots N : Nat} (hr1 : cells + N ≤ 600130) (hr2 : slots + 6 * N ≤ 7301080) (hn_ret : 239056 ≤ N) (h : fs_L_law_47 L xs g h0 = some z) (hP : va_P (gD Γ) gcls (lay Γ g) H) (hQ : va_P (gD Γ') gcls (lay Γ' h0) H) (hS : va_S A s.heap H locs) (hl : lv_has ls 7 [(0, .ref b), (1, .ref (gB Γ + 0)), (2, .ref (gB Γ' + 0))]) : W p l e room_1 s m #[Value.ref b] below meth c H locs cells slots (lw_Z below #[Value.ref b] s) (F0 m 47 ls []) := by
  unfold fs_L_law_47 at h
  obtain ⟨hx, hb, hml, hr, hown, hts, hK, hlk, hX, hA⟩ := id C0
  have hr3 : room_1.cells = 600130 := rfl
  have hr4 : room_1.slots = 7301080 := rfl
  refine lv_iconst (v := 0) hx hb dL_law_47 (by decide) ?_
  exact bs_L_law_48 hT C0 C1 hst hXs hbl hbA hAf  (N := (N - 0)) (by omega) (by omega) (by omega) h hP hQ hS (lv_sub hl [0, 1, 2] rfl)
set_option maxHeartbeats 4000000 in
set_option maxRecDepth 20000 in
theorem m_L_law {p : Program} {l : Launch} {e : Env} {s : State} {m : MethodId} {below : List Frame} {meth : Method} {c : Code} {A : Nat → Prop} {Γ Γ' : gE} (hT : gTw Γ Γ') {b L : Nat} {xs : Nat → Int32} (C0 : gCa A p s m #[Value.ref b] meth c Γ RL code 7 ret) (C1 : gCa A p s m #[Value.ref b] meth c Γ' RL code 7 ret) (hst : l.stackTraces = false) (hXs : va_X b L xs s s.heap) (hbl : b < s.heap.size) (hbA : ¬ A b) (hAf : ∀ q, A q → s.heap.size ≤ q) {g h0 : gG} {H : Heap} {locs : List Loc} {ls : Array Slot} {cells slots N : Nat} (hr1 : cells + N ≤ 600130) (hr2 : slots + 6 * N ≤ 7301080) (hn_ret : 241267 ≤ N) (h : f_L_law L xs g h0 = some ()) (hP : va_P (gD Γ) gcls (lay Γ g) H) (hQ : va_P (gD Γ') gcls (lay Γ' h0) H) (hS : va_S A s.heap H locs) (hl : lv_has ls 7 [(2, .ref (gB Γ' + 0)), (1, .ref (gB Γ + 0)), (0, .ref b)]) : W p l e room_1 s m #[Value.ref b] below meth c H locs cells slots (lw_Z below #[Value.ref b] s) (F0 m 16 ls []) := by
  unfold f_L_law at h
  obtain ⟨hx, hb, hml, hr, hown, hts, hK, hlk, hX, hA⟩ := id C0
  have hr3 : room_1.cells = 600130 := rfl
  have hr4 : room_1.slots = 7301080 := rfl
  refine lv_aload_n hx hb dL_law_16 rfl (lv_at hl 1 rfl) ?_
  refine lv_aload_n hx hb dL_law_17 rfl (lv_at hl 0 rfl) ?_
  refine lv_aload_n hx hb dL_law_18 rfl (lv_at hl 2 rfl) ?_
  refine lv_iconst (v := 0) hx hb dL_law_19 (by decide) ?_
  refine dDr (rest := [.ref (gB Γ' + 0), .ref (gB Γ + 0)]) C0 cal_L_draw wl_L_216 wt_L_draw ⟨Nat.le_of_ble_eq_true rfl, Nat.le_of_ble_eq_true rfl⟩ ⟨by rw [hr3]; omega, by rw [hr4]; omega⟩ hXs hbl hbA (Nat.le_of_ble_eq_true rfl) hS hl.1 dL_law_20 h (fun u hu => m_L_draw l b L xs _ u hu) (fun u1 H locs h hk hS => ?_)
  replace hP := hP.kept (fun k q hq => hk q.1 (hP k q hq).lt)
  replace hQ := hQ.kept (fun k q hq => hk q.1 (hQ k q hq).lt)
  clear hk
  refine dAl (rest := []) hT C0 C1.2.2.2.2.2.2.2.2.2 cal_L_alike wl_L_220 wt_L_alike ⟨Nat.le_of_ble_eq_true rfl, Nat.le_of_ble_eq_true rfl⟩ ⟨by rw [hr3]; omega, by rw [hr4]; omega⟩ [.ref (gB Γ + 0), .ref (gB Γ' + 0), .int u1] rfl (Nat.le_of_ble_eq_true rfl) hP hQ hS hl.1 dL_law_23 h (fun u hu => m_L_alike l hst Γ Γ' hT u1 g h0 u hu) (fun u2 H locs h hP hQ hS => ?_) rfl
  refine lv_if_eq (tgt := 47) hx hb dL_law_26 (by decide) (fun c3 => ?_) (fun c3 => ?_)
  · replace h := gpos c3 h
    exact bs_L_law_47 hT C0 C1 hst hXs hbl hbA hAf  (N := (N - 466)) (by omega) (by omega) (by omega) h hP hQ hS (lv_sub hl [2, 1, 0] rfl)
  · replace h := gneg c3 h
    refine lv_aload_n hx hb dL_law_29 rfl (lv_at hl 1 rfl) ?_
    refine dKi (rest := []) C0 cal_L_errors wl_L_224 wt_L_errors ⟨Nat.le_of_ble_eq_true rfl, Nat.le_of_ble_eq_true rfl⟩ ⟨by rw [hr3]; omega, by rw [hr4]; omega⟩ [.ref (gB Γ + 0)] rfl (Nat.le_of_ble_eq_true rfl) hP hS hl.1 dL_law_30 h (fun u hu => m_L_errors l hst Γ u2.2.1 u hu) (fun u4 H locs h hP1 hk hS => ?_) rfl
    replace hQ := dkeep hT hQ hk
    replace hP := hP1
    clear hP1 hk
    refine lv_if_eq (tgt := 47) hx hb dL_law_33 (by decide) (fun c5 => ?_) (fun c5 => ?_)
    · replace h := gpos c5 h
      exact bs_L_law_47 hT C0 C1 hst hXs hbl hbA hAf  (N := (N - 1273)) (by omega) (by omega) (by omega) h hP hQ hS (lv_sub hl [2, 1, 0] rfl)
    · replace h := gneg c5 h
      refine lv_aload_n hx hb dL_law_36 rfl (lv_at hl 1 rfl) ?_
      refine dKi (rest := []) C0 cal_L_kept wl_L_228 wt_L_kept ⟨Nat.le_of_ble_eq_true rfl, Nat.le_of_ble_eq_true rfl⟩ ⟨by rw [hr3]; omega, by rw [hr4]; omega⟩ [.ref (gB Γ + 0)] rfl (Nat.le_of_ble_eq_true rfl) hP hS hl.1 dL_law_37 h (fun u hu => m_L_kept l hst Γ u4.2 u hu) (fun u6 H locs h hP1 hk hS => ?_) rfl
      replace hQ := dkeep hT hQ hk
      replace hP := hP1
      clear hP1 hk
      refine lv_if_eq (tgt := 47) hx hb dL_law_40 (by decide) (fun c7 => ?_) (fun c7 => ?_)
      · replace h := gpos c7 h
        exact bs_L_law_47 hT C0 C1 hst hXs hbl hbA hAf  (N := (N - 2211)) (by omega) (by omega) (by omega) h hP hQ hS (lv_sub hl [2, 1, 0] rfl)
      · replace h := gneg c7 h
        refine lv_iconst (v := 1) hx hb dL_law_43 (by decide) ?_
        refine lv_goto (tgt := 48) hx hb dL_law_44 (by decide) ?_
        exact bs_L_law_48 hT C0 C1 hst hXs hbl hbA hAf  (N := (N - 2211)) (by omega) (by omega) (by omega) h hP hQ hS (lv_sub hl [2, 1, 0] rfl)
