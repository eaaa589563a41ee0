/-! THE START: what the Statement gives, as a world; the constructors; the loop. -/
theorem lw_good_sub : ∀ x ∈ lw_good, x ∈ lw_tbl := fun x h => (List.mem_filter.mp h).1
theorem st_str {own tx : String} {k : Nat} {s : State} {args : Array Value} (h1 : (Cond.stringRef own k tx).before args s = true) (h2 : (Cond.exactly (.string own k) "java/lang/String").before args s = true) : ∃ sa, vk_R own k tx sa s := by
  obtain ⟨a, _, _, _, he, -⟩ := Cond.exactly_spec h2
  exact ⟨a, vk_R.of h1 he⟩
set_option maxHeartbeats 4000000 in
set_option maxRecDepth 100000 in
theorem st_facts {p : Program} {s : State} {m : MethodId} {meth : Method} {c : Code} {b L : Nat} {xs : Nat → Int32} (C0 : lw_At p s m meth c b L xs) : ∃ (dC : Nat → ClassId) (dI : Nat → Nat → Nat) (cA : Nat → ClassId) (tV : Nat), va_K (dC, dI) gcls [(cA 0, .int), (cA 1, .boolean), (cA 2, .long), (cA 3, .char), (cA 4, .object RX5)] s ∧ (∀ y x : Nat, gXA (fun q => s.heap.size ≤ q) (dC, dI, cA, tV, y, x) s s.heap) ∧ va_AO RX5 s := by
  obtain ⟨hx, hb, hr, hml, hown, hts, hX, hbl, hlk, hgv⟩ := C0
  have hg := flat_of_before _ hgv
  have htg : ∀ w ∈ lw_good, w.before #[Value.ref b] s = true := fun w h => hts w (lw_good_sub w h)
  obtain ⟨c0, i0, k0⟩ := u_known (C := RX0) (T := TX0) (N := 2) (n := 2) htg hin_0 (hts (.instantiable RX0 2) (List.mem_of_getElem? (i := 134) (by decide +kernel)))
  obtain ⟨c1, i1, k1⟩ := u_known (C := RX1) (T := TX1) (N := 3) (n := 3) htg hin_1 (hts (.instantiable RX1 3) (List.mem_of_getElem? (i := 184) (by decide +kernel)))
  obtain ⟨c2, i2, k2⟩ := u_known (C := RX2) (T := TX2) (N := 12) (n := 12) htg hin_2 (hts (.instantiable RX2 12) (List.mem_of_getElem? (i := 75) (by decide +kernel)))
  obtain ⟨c3, i3, k3⟩ := u_known (C := RX3) (T := TX3) (N := 3) (n := 3) htg hin_3 (hts (.instantiable RX3 3) (List.mem_of_getElem? (i := 234) (by decide +kernel)))
  obtain ⟨c4, i4, k4⟩ := u_known (C := RX4) (T := TX4) (N := 2) (n := 2) htg hin_4 (hts (.instantiable RX4 2) (List.mem_of_getElem? (i := 252) (by decide +kernel)))
  obtain ⟨c5, i5, k5⟩ := u_known (C := RX5) (T := TX5) (N := 10) (n := 10) htg hin_5 (hts (.instantiable RX5 10) (List.mem_of_getElem? (i := 147) (by decide +kernel)))
  obtain ⟨c6, i6, k6⟩ := u_known (C := RX6) (T := TX6) (N := 2) (n := 2) htg hin_6 (hts (.instantiable RX6 2) (List.mem_of_getElem? (i := 61) (by decide +kernel)))
  obtain ⟨c7, i7, k7⟩ := u_known (C := RX7) (T := TX7) (N := 2) (n := 2) htg hin_7 (hts (.instantiable RX7 2) (List.mem_of_getElem? (i := 81) (by decide +kernel)))
  obtain ⟨c8, i8, k8⟩ := u_known (C := RX8) (T := TX8) (N := 8) (n := 8) htg hin_8 (hts (.instantiable RX8 8) (List.mem_of_getElem? (i := 203) (by decide +kernel)))
  obtain ⟨c9, i9, k9⟩ := u_known (C := RX9) (T := TX9) (N := 10) (n := 10) htg hin_9 (hts (.instantiable RX9 10) (List.mem_of_getElem? (i := 53) (by decide +kernel)))
  obtain ⟨a0, ka0, co0, ha0, hb0, hc0⟩ := Cond.arrayClass_spec (hts (.arrayClass .int) (List.mem_of_getElem? (i := 131) (by decide +kernel)))
  obtain ⟨a1, ka1, co1, ha1, hb1, hc1⟩ := Cond.arrayClass_spec (hts (.arrayClass .boolean) (List.mem_of_getElem? (i := 132) (by decide +kernel)))
  obtain ⟨a2, ka2, co2, ha2, hb2, hc2⟩ := Cond.arrayClass_spec (hts (.arrayClass .long) (List.mem_of_getElem? (i := 93) (by decide +kernel)))
  obtain ⟨a3, ka3, co3, ha3, hb3, hc3⟩ := Cond.arrayClass_spec (hts (.arrayClass .char) (List.mem_of_getElem? (i := 73) (by decide +kernel)))
  have hao := hts (.arrayOver (.object RX5)) (List.mem_of_getElem? (i := 190) (by decide +kernel))
  obtain ⟨co4, a4, ka4, hd4, hz4, hb4, hc4, ha4⟩ := Cond.arrayOver_spec hao
  have hlen : (Cond.eq (.length (.static RX7 "VISITED" "[J")) (.int 6)).before #[Value.ref b] s = true := hg _ (by decide +kernel)
  have he0 : (Cond.eq (.elem (.static RX7 "VISITED" "[J") (.int 0)) (.long (-6148914691236517206))).before #[Value.ref b] s = true := hg _ (by decide +kernel)
  have he1 : (Cond.eq (.elem (.static RX7 "VISITED" "[J") (.int 1)) (.long (-3689348814741910324))).before #[Value.ref b] s = true := hg _ (by decide +kernel)
  have he2 : (Cond.eq (.elem (.static RX7 "VISITED" "[J") (.int 2)) (.long (-1085102592571150096))).before #[Value.ref b] s = true := hg _ (by decide +kernel)
  have he3 : (Cond.eq (.elem (.static RX7 "VISITED" "[J") (.int 3)) (.long (-71777214294589696))).before #[Value.ref b] s = true := hg _ (by decide +kernel)
  have he4 : (Cond.eq (.elem (.static RX7 "VISITED" "[J") (.int 4)) (.long (-281470681808896))).before #[Value.ref b] s = true := hg _ (by decide +kernel)
  have he5 : (Cond.eq (.elem (.static RX7 "VISITED" "[J") (.int 5)) (.long (-4294967296))).before #[Value.ref b] s = true := hg _ (by decide +kernel)
  have hA9 : ∀ a : Nat, a < s.heap.size → ¬ (s.heap.size ≤ a) := fun a h => by omega
  obtain ⟨tV, hv, hT⟩ := va_Tof (tm := .static RX7 "VISITED" "[J") (ty := .long) (N := 6) (f := fun j => .long (gVis j)) (A := fun q => s.heap.size ≤ q) (by decide) (hg _ (by decide +kernel)) (va_eqt hlen) (fun j hj => by
    rcases (show j = 0 ∨ j = 1 ∨ j = 2 ∨ j = 3 ∨ j = 4 ∨ j = 5 by omega) with rfl | rfl | rfl | rfl | rfl | rfl
    · exact va_eqtl he0
    · exact va_eqtl he1
    · exact va_eqtl he2
    · exact va_eqtl he3
    · exact va_eqtl he4
    · exact va_eqtl he5) hA9
  have hZ := va_Zof (A := fun q => s.heap.size ≤ q) (hts (.laysStatic RX7 "VISITED" "[J") (List.mem_of_getElem? (i := 361) (by decide +kernel))) (hts (.initialized RX7) (List.mem_of_getElem? (i := 36) (by decide +kernel))) hv hA9
  have hU := vx_Zqof (A := fun q => s.heap.size ≤ q) (C := Bundle.tN) (n := "UNASSIGNED_STACK") (d := Bundle.steD) (hts _ (List.mem_of_getElem? (i := 436) (by decide +kernel))) (hts (.initialized Bundle.tN) (List.mem_of_getElem? (i := 45) (by decide +kernel))) (hg _ (by decide +kernel)) hA9
  have hN := vx_Zqof (A := fun q => s.heap.size ≤ q) (C := Bundle.tN) (n := "SUPPRESSED_SENTINEL") (d := Bundle.listD) (hts _ (List.mem_of_getElem? (i := 438) (by decide +kernel))) (hts (.initialized Bundle.tN) (List.mem_of_getElem? (i := 45) (by decide +kernel))) (hg _ (by decide +kernel)) hA9
  have hstr : ∀ q ∈ gStrs, ∃ sa, vk_R q.1 q.2.1 q.2.2 sa s := List.forall_mem_cons.mpr ⟨st_str (hts _ (List.mem_of_getElem? (i := 450) (by decide +kernel))) (hg (.exactly (.string RX9 105) "java/lang/String") (by decide +kernel)), List.forall_mem_cons.mpr ⟨st_str (hts _ (List.mem_of_getElem? (i := 530) (by decide +kernel))) (hg (.exactly (.string RX9 323) "java/lang/String") (by decide +kernel)), List.forall_mem_cons.mpr ⟨st_str (hts _ (List.mem_of_getElem? (i := 556) (by decide +kernel))) (hg (.exactly (.string RX9 308) "java/lang/String") (by decide +kernel)), List.forall_mem_cons.mpr ⟨st_str (hts _ (List.mem_of_getElem? (i := 636) (by decide +kernel))) (hg (.exactly (.string RX9 143) "java/lang/String") (by decide +kernel)), List.forall_mem_cons.mpr ⟨st_str (hts _ (List.mem_of_getElem? (i := 659) (by decide +kernel))) (hg (.exactly (.string RX9 315) "java/lang/String") (by decide +kernel)), List.forall_mem_cons.mpr ⟨st_str (hts _ (List.mem_of_getElem? (i := 693) (by decide +kernel))) (hg (.exactly (.string RX9 321) "java/lang/String") (by decide +kernel)), List.forall_mem_cons.mpr ⟨st_str (hts _ (List.mem_of_getElem? (i := 767) (by decide +kernel))) (hg (.exactly (.string RX9 161) "java/lang/String") (by decide +kernel)), List.forall_mem_cons.mpr ⟨st_str (hts _ (List.mem_of_getElem? (i := 777) (by decide +kernel))) (hg (.exactly (.string RX9 191) "java/lang/String") (by decide +kernel)), List.forall_mem_cons.mpr ⟨st_str (hts _ (List.mem_of_getElem? (i := 792) (by decide +kernel))) (hg (.exactly (.string RX9 216) "java/lang/String") (by decide +kernel)), List.forall_mem_cons.mpr ⟨st_str (hts _ (List.mem_of_getElem? (i := 825) (by decide +kernel))) (hg (.exactly (.string RX9 225) "java/lang/String") (by decide +kernel)), List.forall_mem_cons.mpr ⟨st_str (hts _ (List.mem_of_getElem? (i := 856) (by decide +kernel))) (hg (.exactly (.string RX9 236) "java/lang/String") (by decide +kernel)), List.forall_mem_cons.mpr ⟨st_str (hts _ (List.mem_of_getElem? (i := 883) (by decide +kernel))) (hg (.exactly (.string RX9 203) "java/lang/String") (by decide +kernel)), List.forall_mem_cons.mpr ⟨st_str (hts _ (List.mem_of_getElem? (i := 974) (by decide +kernel))) (hg (.exactly (.string RX9 278) "java/lang/String") (by decide +kernel)), List.forall_mem_cons.mpr ⟨st_str (hts _ (List.mem_of_getElem? (i := 979) (by decide +kernel))) (hg (.exactly (.string RX9 284) "java/lang/String") (by decide +kernel)), List.forall_mem_cons.mpr ⟨st_str (hts _ (List.mem_of_getElem? (i := 1042) (by decide +kernel))) (hg (.exactly (.string RX9 296) "java/lang/String") (by decide +kernel)), List.forall_mem_cons.mpr ⟨st_str (hts _ (List.mem_of_getElem? (i := 1073) (by decide +kernel))) (hg (.exactly (.string RX9 79) "java/lang/String") (by decide +kernel)), List.forall_mem_cons.mpr ⟨st_str (hts _ (List.mem_of_getElem? (i := 1078) (by decide +kernel))) (hg (.exactly (.string RX9 90) "java/lang/String") (by decide +kernel)), List.forall_mem_cons.mpr ⟨st_str (hts _ (List.mem_of_getElem? (i := 1124) (by decide +kernel))) (hg (.exactly (.string RX9 248) "java/lang/String") (by decide +kernel)), fun _ h => absurd h List.not_mem_nil⟩⟩⟩⟩⟩⟩⟩⟩⟩⟩⟩⟩⟩⟩⟩⟩⟩⟩
  have hnst : ∀ q ∈ gNsts, va_Nw (.methodLinkNest q.1 q.2.1 q.2.2.1 q.2.2.2) s := List.forall_mem_cons.mpr ⟨va_Nw.of rfl (hts _ (List.mem_of_getElem? (i := 62) (by decide +kernel))), List.forall_mem_cons.mpr ⟨va_Nw.of rfl (hts _ (List.mem_of_getElem? (i := 76) (by decide +kernel))), List.forall_mem_cons.mpr ⟨va_Nw.of rfl (hts _ (List.mem_of_getElem? (i := 82) (by decide +kernel))), List.forall_mem_cons.mpr ⟨va_Nw.of rfl (hts _ (List.mem_of_getElem? (i := 362) (by decide +kernel))), List.forall_mem_cons.mpr ⟨va_Nw.of rfl (hts _ (List.mem_of_getElem? (i := 581) (by decide +kernel))), List.forall_mem_cons.mpr ⟨va_Nw.of rfl (hts _ (List.mem_of_getElem? (i := 680) (by decide +kernel))), List.forall_mem_cons.mpr ⟨va_Nw.of rfl (hts _ (List.mem_of_getElem? (i := 908) (by decide +kernel))), List.forall_mem_cons.mpr ⟨va_Nw.of rfl (hts _ (List.mem_of_getElem? (i := 1021) (by decide +kernel))), List.forall_mem_cons.mpr ⟨va_Nw.of rfl (hts _ (List.mem_of_getElem? (i := 1060) (by decide +kernel))), fun _ h => absurd h List.not_mem_nil⟩⟩⟩⟩⟩⟩⟩⟩⟩
  have hdec : ∀ q ∈ gDecs, va_Nw (.declares q) s := List.forall_mem_cons.mpr ⟨va_Nw.of rfl (hts _ (List.mem_of_getElem? (i := 412) (by decide +kernel))), List.forall_mem_cons.mpr ⟨va_Nw.of rfl (hts _ (List.mem_of_getElem? (i := 413) (by decide +kernel))), List.forall_mem_cons.mpr ⟨va_Nw.of rfl (hts _ (List.mem_of_getElem? (i := 414) (by decide +kernel))), List.forall_mem_cons.mpr ⟨va_Nw.of rfl (hts _ (List.mem_of_getElem? (i := 415) (by decide +kernel))), List.forall_mem_cons.mpr ⟨va_Nw.of rfl (hts _ (List.mem_of_getElem? (i := 416) (by decide +kernel))), List.forall_mem_cons.mpr ⟨va_Nw.of rfl (hts _ (List.mem_of_getElem? (i := 417) (by decide +kernel))), fun _ h => absurd h List.not_mem_nil⟩⟩⟩⟩⟩⟩
  have hcas : ∀ q ∈ gExs, va_Nw (.castable q q) s := List.forall_mem_cons.mpr ⟨va_Nw.of rfl (hts _ (List.mem_of_getElem? (i := 629) (by decide +kernel))), List.forall_mem_cons.mpr ⟨va_Nw.of rfl (hts _ (List.mem_of_getElem? (i := 411) (by decide +kernel))), List.forall_mem_cons.mpr ⟨va_Nw.of rfl (hts _ (List.mem_of_getElem? (i := 523) (by decide +kernel))), fun _ h => absurd h List.not_mem_nil⟩⟩⟩
  have hncs : ∀ q ∈ gNcs, va_Nc q.1 q.2 s := List.forall_mem_cons.mpr ⟨va_Nc.of (hg (.not (.castable (gEx 1) (gEx 2))) (by decide +kernel)), List.forall_mem_cons.mpr ⟨va_Nc.of (hg (.not (.castable (gEx 1) (gEx 3))) (by decide +kernel)), List.forall_mem_cons.mpr ⟨va_Nc.of (hg (.not (.castable (gEx 2) (gEx 1))) (by decide +kernel)), List.forall_mem_cons.mpr ⟨va_Nc.of (hg (.not (.castable (gEx 2) (gEx 3))) (by decide +kernel)), List.forall_mem_cons.mpr ⟨va_Nc.of (hg (.not (.castable (gEx 3) (gEx 1))) (by decide +kernel)), List.forall_mem_cons.mpr ⟨va_Nc.of (hg (.not (.castable (gEx 3) (gEx 2))) (by decide +kernel)), fun _ h => absurd h List.not_mem_nil⟩⟩⟩⟩⟩⟩
  refine ⟨fun k => if k = 0 then c0 else if k = 1 then c1 else if k = 2 then c2 else if k = 3 then c3 else if k = 4 then c4 else if k = 5 then c5 else if k = 6 then c6 else if k = 7 then c7 else if k = 8 then c8 else c9, fun k => if k = 0 then i0 else if k = 1 then i1 else if k = 2 then i2 else if k = 3 then i3 else if k = 4 then i4 else if k = 5 then i5 else if k = 6 then i6 else if k = 7 then i7 else if k = 8 then i8 else i9, fun k => if k = 0 then a0 else if k = 1 then a1 else if k = 2 then a2 else if k = 3 then a3 else a4, tV, ⟨?_, ?_⟩, fun y x => ⟨hZ, hT, hU, hN, hstr, hnst, hdec, hcas, hncs⟩, hao⟩
  · intro k q hq
    match k, hq with
    | 0, hq => cases hq; exact k0
    | 1, hq => cases hq; exact k1
    | 2, hq => cases hq; exact k2
    | 3, hq => cases hq; exact k3
    | 4, hq => cases hq; exact k4
    | 5, hq => cases hq; exact k5
    | 6, hq => cases hq; exact k6
    | 7, hq => cases hq; exact k7
    | 8, hq => cases hq; exact k8
    | 9, hq => cases hq; exact k9
    | k + 10, hq => simp [gcls] at hq
  · intro k q hq
    match k, hq with
    | 0, hq => cases hq; exact ⟨fun N z => ⟨fun k h => (by cases h), ka0, hb0, co0, hc0⟩, ha0⟩
    | 1, hq => cases hq; exact ⟨fun N z => ⟨fun k h => (by cases h), ka1, hb1, co1, hc1⟩, ha1⟩
    | 2, hq => cases hq; exact ⟨fun N z => ⟨fun k h => (by cases h), ka2, hb2, co2, hc2⟩, ha2⟩
    | 3, hq => cases hq; exact ⟨fun N z => ⟨fun k h => (by cases h), ka3, hb3, co3, hc3⟩, ha3⟩
    | 4, hq => cases hq; exact ⟨fun N z => ⟨fun k h => (by cases h), ka4, hb4, co4, hc4⟩, ka4, co4, hb4, hc4, hd4, ha4⟩
    | k + 5, hq => simp at hq
