theorem sl_c9 : Cond.classLink RL 10 RX9 ∈ lw_good := wm 52 (by decide +kernel) (by decide +kernel)
theorem sl_i9 : Cond.instantiable RX9 10 ∈ lw_good := wm 53 (by decide +kernel) (by decide +kernel)
theorem sl_n9 : Cond.initialized RX9 ∈ lw_good := wm 33 (by decide +kernel) (by decide +kernel)
theorem sl_m9 : Cond.methodLink RL 215 yX9_init ∈ lw_good := wm 54 (by decide +kernel) (by decide +kernel)
theorem sl_t9 : Cond.instanceMethod yX9_init ∈ lw_good := wm 55 (by decide +kernel) (by decide +kernel)
theorem sc_X9_init : gCal yX9_init cX9_init 2 none 0 := ⟨wm 56 (by decide +kernel) (by decide +kernel), wm 33 (by decide +kernel) (by decide +kernel), by decide +kernel⟩
section RR
variable {p : Program} {l : Launch} {e : Env} {R : Room} {s : State} {m : MethodId} {args : Array Value} {below : List Frame} {meth : Method} {c : Code} {H : Heap} {locs : List Loc} {cells slots : Nat} {Q : State → Prop}
variable {cc : ByteArray} {pc : Nat} {ls : Array Slot} {rest : List Value} {Γ : gE} {M : Nat} {o : Nat → va_E} {own : String} {index : Nat}
theorem r_newK (hx : p.tables.exec = Jvm.exec) (hb : c.code = cc) (hts : ∀ w ∈ lw_good, w.before args s = true) {C : String} {T : u_T} {N ci : Nat} (hin : ∀ w ∈ u_ws C T N, w ∈ lw_good) (ty : Nat → FieldType) (hty : ∀ k, k < N → parseFieldDescriptor (T k).2.2.1 = some (ty k)) (hown : s.vm.findClass own = some m.cls) (hcl : Cond.classLink own index C ∈ lw_good) (hinst : Cond.instantiable C N ∈ lw_good) (hini : Cond.initialized C ∈ lw_good)
    (hK : va_K (gD Γ) gcls (gtys Γ) s) (hR : rP Γ M o H) (hS : va_S (gA0 Γ) s.heap H locs) (hc : gcls[ci]? = some (C, T, N)) {fs : List Value} (hfs : ∀ j, j < N → defaultValue (ty j) = vp_V fs j) (hcells : cells + 1 ≤ R.cells) (hslots : slots + N ≤ R.slots) (hdg : decode cc pc = .ok (.new index, 3))
    (kk : ∀ (o1 : Nat → va_E) (H1 : Heap), o1 M = .inr (ci, fs) → (∀ j, j ≠ M → o1 j = o j) → rP Γ (M + 1) o1 H1 → (∀ q : Nat, q < H.size → H1[q]? = H[q]?) → va_S (gA0 Γ) s.heap H1 locs →
      W p l e R s m args below meth c H1 locs (cells + 1) (slots + N) Q (F0 m (pc + 3) ls (.ref (gB Γ + M) :: rest))) : W p l e R s m args below meth c H locs cells slots Q (F0 m pc ls rest) := by
  have hKn := hK.1 ci _ hc
  refine W.newcK hx hb hown (hts _ hcl) (hts _ hinst) (hts _ hini) rfl hdg hcells hslots hKn.2.1 hR.1 fun H1 kC hkC e1 z1 o1 => ?_
  refine kk (va_up o M (.inr (ci, fs))) H1 (by unfold va_up; simp) (fun j hj => by unfold va_up; simp [hj]) (rP_of hR M (by omega) (by omega) (fun _ => rfl) (fun _ => ?_) (fun j hj => by unfold va_up; simp [hj]) (fun j _ hj => o1 _ (by omega))) (fun q hq => o1 q (by have := hR.1; omega)) ⟨by have := hS.1; have := hR.1; omega, fun x h1 h2 => (o1 x (by have := hS.1; have := hR.1; omega)).trans (hS.2.1 x h1 h2), hS.2.2⟩
  have e9 : va_up o M (.inr (ci, fs)) M = .inr (ci, fs) := by unfold va_up; simp
  rw [e9]
  exact ⟨_, hc, (u_born ty hts hin hKn hkC e1 hty).to hfs⟩
theorem r_callK {nL : Nat} {ret : Option FieldType} (C0 : gCy p s m args meth c Γ own cc nL ret) (hA : va_AO RX5 s) {y2 : MethodName} {b2 : ByteArray} {L2 n2 f2 lo2 mc2 ms2 M' : Nat} {post : (Nat → va_E) → Prop} (hcal : gCal y2 b2 L2 none n2) (hnm : y2.name = "<init>") (hi : Cond.instanceMethod y2 ∈ lw_good) (hw : Cond.methodLink own index y2 ∈ lw_good) (hR9 : f2 + 1 ≤ R.frames ∧ 8 + (L2 + 11) + lo2 ≤ R.locals) (hcs : cells + mc2 ≤ R.cells ∧ slots + ms2 ≤ R.slots)
    {a : Nat} (As : List Value) (hn : As.length = n2) (hrm : (rest.map fun v => v.category).sum ≤ 8) (hR : rP Γ M o H) (hS : va_S (gA0 Γ) s.heap H locs) (hlz : ls.size = nL) (hdg : decode cc pc = .ok (.invokespecial index, 3)) (hM : gK l y2 b2 L2 f2 lo2 mc2 ms2 Γ (.ref a :: As) M o M' post)
    (kk : ∀ (o1 : Nat → va_E) (H1 : Heap) (locs1 : List Loc), post o1 → rP Γ M' o1 H1 → (∀ q : Nat, q < H.size → ¬ gA0 Γ q → H1[q]? = H[q]?) → va_S (gA0 Γ) s.heap H1 locs1 → W p l e R s m args below meth c H1 locs1 (cells + mc2) (slots + ms2) Q (F0 m (pc + 3) ls rest)) {st0 : List Value} (hst : st0 = As.reverse ++ .ref a :: rest) : W p l e R s m args below meth c H locs cells slots Q (F0 m pc ls st0) := by
  obtain ⟨hx, hb, hml, hr, hown, hts, hK, hlk, hX⟩ := C0
  subst hst
  refine va_callv (va_runI (As := As) (rest := rest) ⟨hx, hb, hml, hown, hts⟩ hM ⟨callB_of (rm := gRx f2 lo2 mc2 ms2) n2 hts (lw_goodIn hcal.1 (fun _ h => h)) rfl rfl rfl (hts _ hcal.2.1) (hts _ hw) hcal.2.2 hR9, hnm, hts _ hi⟩ ⟨fun a U f mk q => ⟨q.1, q.2.1, va_K.moved (u := U) (U := U.calling f mk a) (Vm.Alike.refl U.vm) q.2.2.1, q.2.2.2.1.calling, va_AO.moved (u := U) (U := U.calling f mk a) (Vm.Alike.refl U.vm) q.2.2.2.2⟩, fun U hU hW => ⟨rfl, by rw [hU]; exact hR, va_K.moved hW.alike hK, (hX.kept (H1 := U.heap) (by rw [hU]; exact hS.2.1)).warm hW, va_AO.moved hW.alike hA⟩⟩ rfl hn hlz rfl (lv_room hrm) hdg hcs) hS (fun q _ h => h) (fun q h => h) (fun o1 t H1 locs1 ht hvm hp hB hz1 hk1 hS1 => ?_)
  rw [← ht] at hS1 hk1 ⊢
  exact kk o1 t.heap locs1 hp hB hk1 hS1
end RR
/-- the pure claim: what is left when the machine is done with -/
def gPure : Prop := ∀ (L : Nat) (xs : Nat → Int32), L ≤ 260 → f_L_law L xs g00 g00 = some ()
theorem rl_lay {Γ : gE} {o : Nat → va_E} {H : Heap} (hR : rP Γ 174 o H) (hf : ∀ j, j < 174 → o j = gFin Γ j) : va_P (gD Γ) gcls (lay Γ g00) H := by
  have e1 : lay Γ g00 = rl Γ 174 o := by
    unfold lay rl
    show (List.range gM).map _ = _
    apply List.map_congr_left
    intro k hk
    have hk2 : k < 174 := List.mem_range.mp hk
    show (gB Γ + k, gSh Γ k (g00.1 k) (g00.2 k)) = (gB Γ + k, o k)
    rw [hf k hk2]
    rfl
  rw [e1]
  exact hR.2
set_option maxHeartbeats 8000000 in
set_option maxRecDepth 100000 in
theorem whole_start_of (hpure : gPure) {p : Program} {e : Env} {s : State} {m : MethodId} {below : List Frame} {meth : Method} {c : Code} (l : Launch) (hflags : l.flags = flags0) {b L : Nat} {xs : Nat → Int32} (hL : L ≤ 260) (C0 : lw_At p s m meth c b L xs) : W p l e room_1 s m #[Value.ref b] below meth c s.heap [] 0 0 (lw_Z below #[Value.ref b] s) (entryFrame m ([Value.ref b] : List Value).toArray 7) := by
  obtain ⟨dC, dI, cA, tV, hK, hXx, hA⟩ := st_facts C0
  have hst : l.stackTraces = false := by rw [Launch.stackTraces, hflags]; decide
  obtain ⟨Γ, hΓ⟩ : ∃ Γ : gE, Γ = (dC, dI, cA, tV, s.heap.size, 0) := ⟨_, rfl⟩
  obtain ⟨Γ', hΓ'⟩ : ∃ Γ' : gE, Γ' = (dC, dI, cA, tV, s.heap.size + 174, 0) := ⟨_, rfl⟩
  have hB : gB Γ = s.heap.size := by rw [hΓ]; rfl
  have hB' : gB Γ' = s.heap.size + 174 := by rw [hΓ']; rfl
  have hT : gTw Γ Γ' := ⟨by rw [hΓ, hΓ']; rfl, by rw [hΓ, hΓ']; rfl, by rw [hΓ, hΓ']; rfl, by rw [hB, hB']; exact Nat.le_refl _⟩
  have hKg : va_K (gD Γ) gcls (gtys Γ) s := by rw [hΓ]; exact hK
  have hXg : gXA (fun q => s.heap.size ≤ q) Γ s s.heap := by rw [hΓ]; exact hXx _ _
  have hXg' : gXA (fun q => s.heap.size ≤ q) Γ' s s.heap := by rw [hΓ']; exact hXx _ _
  have hXs := C0.2.2.2.2.2.2.1
  have hbl := C0.2.2.2.2.2.2.2.1
  have D0 : gCa (fun q => s.heap.size ≤ q) p s m #[Value.ref b] meth c Γ RL code 7 ret := ⟨C0.1, C0.2.1, C0.2.2.2.1, C0.2.2.1, C0.2.2.2.2.1, fun w h => C0.2.2.2.2.2.1 w (lw_good_sub w h), hKg, C0.2.2.2.2.2.2.2.2.1, hXg, fun q h => by have h1 : gB Γ ≤ q := h.1; rw [hB] at h1; exact h1⟩
  have D1 : gCa (fun q => s.heap.size ≤ q) p s m #[Value.ref b] meth c Γ' RL code 7 ret := gCa_tw hT D0 (fun q h => by have h1 : gB Γ' ≤ q := h.1; rw [hB'] at h1; omega)
  have E0 : gCy p s m #[Value.ref b] meth c Γ RL code 7 ret := ⟨D0.1, D0.2.1, D0.2.2.1, D0.2.2.2.1, D0.2.2.2.2.1, D0.2.2.2.2.2.1, hKg, D0.2.2.2.2.2.2.2.1, hXg.sub (fun q h => by have h1 : gB Γ ≤ q := h; rw [hB] at h1; exact h1)⟩
  have E1 : gCy p s m #[Value.ref b] meth c Γ' RL code 7 ret := ⟨D0.1, D0.2.1, D0.2.2.1, D0.2.2.2.1, D0.2.2.2.2.1, D0.2.2.2.2.2.1, D1.2.2.2.2.2.2.1, D0.2.2.2.2.2.2.2.1, hXg'.sub (fun q h => by have h1 : gB Γ' ≤ q := h; rw [hB'] at h1; show s.heap.size ≤ q; omega)⟩
  obtain ⟨hx, hb, hml, hr, hown, hts, hK0, hlk, hX0⟩ := id E0
  have hK1 := E1.2.2.2.2.2.2.1
  have hl := lv_entry ([.ref b]) (n := 7) (Nat.le_of_ble_eq_true rfl)
  rw [lg_entry_eq]
  generalize (lg_sl ([.ref b]) ++ List.replicate (7 - (lg_sl ([.ref b])).length) Slot.unset).toArray = ls at hl ⊢
  have hl : lv_has ls 7 [(0, .ref b)] := hl
  have hS : va_S (gA0 Γ) s.heap s.heap [] := va_S.rf
  obtain ⟨o0, ho0⟩ : ∃ o : Nat → va_E, o = fun _ => .inr (0, []) := ⟨_, rfl⟩
  have hR : rP Γ 0 o0 s.heap := ⟨by rw [hB]; rfl, fun k q h => by obtain ⟨h1, _⟩ := rl_at h; omega⟩
  refine r_newK (ci := 9) (fs := [.null, .null, .null, .null, .null, .null, .null, .null, .null, .null]) (C := RX9) (T := TX9) (N := 10) hx hb hts hin_9 tyX9 tyX9_ok hown sl_c9 sl_i9 sl_n9 hK0 hR hS rfl (fun j hj => by rcases (show j = 0 ∨ j = 1 ∨ j = 2 ∨ j = 3 ∨ j = 4 ∨ j = 5 ∨ j = 6 ∨ j = 7 ∨ j = 8 ∨ j = 9 by omega) with rfl | rfl | rfl | rfl | rfl | rfl | rfl | rfl | rfl | rfl <;> rfl) (Nat.le_of_ble_eq_true rfl) (Nat.le_of_ble_eq_true rfl) dL_law_0 (fun o1 H h0 hne hR _ hS => ?_)
  clear hne
  refine lv_dup hx hb dL_law_3 rfl ?_
  refine r_callK (rest := [.ref (gB Γ + 0)]) E0 hA sc_X9_init rfl sl_t9 sl_m9 ⟨(Nat.le_of_ble_eq_true rfl), (Nat.le_of_ble_eq_true rfl)⟩ ⟨(Nat.le_of_ble_eq_true rfl), (Nat.le_of_ble_eq_true rfl)⟩ [] rfl (Nat.le_of_ble_eq_true rfl) hR hS hl.1 dL_law_4 (k_X9_init l Γ o1 h0) (fun o2 H locs hfin hR _ hS => ?_) rfl
  have hP := rl_lay hR hfin
  refine lv_astore_n (lv' := [(1, .ref (gB Γ + 0)), (0, .ref b)]) hx hb dL_law_7 rfl hl (by decide) rfl (fun ls hl => ?_)
  refine va_forget (fun q hq => by have h1 : gB Γ ≤ q.base := hS.2.2 q hq; rw [hB] at h1; exact h1) ?_
  have hsz : H.size = gB Γ + 174 := hR.1
  have hS : va_S (gA0 Γ') s.heap H [] := ⟨hS.1, fun q h1 h2 => hS.2.1 q h1 (fun h3 => by have h4 : gB Γ ≤ q := h3; rw [hB] at h4; omega), fun _ h => by cases h⟩
  have hR : rP Γ' 0 o0 H := ⟨by rw [hsz, hB, hB'], fun k q h => by obtain ⟨h1, _⟩ := rl_at h; omega⟩
  refine r_newK (ci := 9) (fs := [.null, .null, .null, .null, .null, .null, .null, .null, .null, .null]) (C := RX9) (T := TX9) (N := 10) hx hb hts hin_9 tyX9 tyX9_ok hown sl_c9 sl_i9 sl_n9 hK1 hR hS rfl (fun j hj => by rcases (show j = 0 ∨ j = 1 ∨ j = 2 ∨ j = 3 ∨ j = 4 ∨ j = 5 ∨ j = 6 ∨ j = 7 ∨ j = 8 ∨ j = 9 by omega) with rfl | rfl | rfl | rfl | rfl | rfl | rfl | rfl | rfl | rfl <;> rfl) (Nat.le_of_ble_eq_true rfl) (Nat.le_of_ble_eq_true rfl) dL_law_8 (fun o3 H h0 hne hR hk hS => ?_)
  clear hne
  have hP := hP.kept (fun k q hq => hk q.1 (hP k q hq).lt)
  clear hk
  refine lv_dup hx hb dL_law_11 rfl ?_
  refine r_callK (rest := [.ref (gB Γ' + 0)]) E1 hA sc_X9_init rfl sl_t9 sl_m9 ⟨(Nat.le_of_ble_eq_true rfl), (Nat.le_of_ble_eq_true rfl)⟩ ⟨(Nat.le_of_ble_eq_true rfl), (Nat.le_of_ble_eq_true rfl)⟩ [] rfl (Nat.le_of_ble_eq_true rfl) hR hS hl.1 dL_law_12 (k_X9_init l Γ' o3 h0) (fun o4 H locs hfin hR hk hS => ?_) rfl
  have hQ := rl_lay hR hfin
  have hP := hP.kept (fun k q hq => hk q.1 (hP k q hq).lt (by
    have hk2 : k < gM := by
      have := (List.getElem?_eq_some_iff.mp hq).1
      rwa [lay_len] at this
    rw [lay_get hk2] at hq
    cases hq
    have hk3 : k < 174 := hk2
    show ¬ (gB Γ' ≤ gB Γ + k)
    rw [hB, hB']
    omega))
  clear hk
  have hS : va_S (fun q => s.heap.size ≤ q) s.heap H locs := ⟨hS.1, fun q h1 h2 => hS.2.1 q h1 (fun h3 => by have h4 : gB Γ' ≤ q := h3; rw [hB'] at h4; omega), fun q hq => by have h1 : gB Γ' ≤ q.base := hS.2.2 q hq; rw [hB'] at h1; show s.heap.size ≤ q.base; omega⟩
  refine lv_astore_n (lv' := [(2, .ref (gB Γ' + 0)), (1, .ref (gB Γ + 0)), (0, .ref b)]) hx hb dL_law_15 rfl hl (by decide) rfl (fun ls hl => ?_)
  exact m_L_law hT D0 D1 hst hXs hbl (by show ¬ (s.heap.size ≤ b); omega) (fun q h => h) (N := 241267) (by decide) (by decide) (Nat.le_refl _) (hpure L xs hL) hP hQ hS hl
