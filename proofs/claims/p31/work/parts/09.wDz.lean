section GXW
variable {p : Program} {l : Launch} {e : Env} {R : Room} {s : State} {m : MethodId} {args : Array Value} {below : List Frame} {meth : Method} {c : Code} {H : Heap} {locs : List Loc} {cells slots : Nat} {Q : State → Prop}
variable {cc : ByteArray} {pc : Nat} {ls : Array Slot} {rest : List Value} {Γ : gE} {g : gG} {α β : Type} {mc ms : Nat} {Qc : Array Value → State → Outcome → State → Prop}
theorem gThrowW {nL : Nat} {ret : Option FieldType} (C0 : gCx p s m args meth c Γ RX9 cc nL ret) (hE : ∀ x ∈ c.exceptionTable.toList, False) (hst : l.stackTraces = false) {ik is ic : Nat} {cls text : String} (n : Nat) (hth : gTh ik is ic cls text) (hn : gEx n = cls) (hP : va_P (gD Γ) gcls (lay Γ g) H) (hS : va_S (gA Γ) s.heap H locs) (hlz : ls.size = nL)
    (d0 : decode cc pc = .ok (.new ik, 3)) (d3 : decode cc (pc + 3) = .ok (.dup, 1)) (d4 : decode cc (pc + 4) = .ok (.ldc_w is, 3)) (d6 : decode cc (pc + 7) = .ok (.invokespecial ic, 3)) (d9 : decode cc (pc + 10) = .ok (.athrow, 1))
    (hf : 5 < R.frames) (hlo : (rest.map fun v => v.category).sum + 82 ≤ R.locals) (hc : cells + 1 ≤ R.cells) (hs : slots + 6 ≤ R.slots) (hc2 : cells + 1 ≤ mc) (hs2 : slots + 6 ≤ ms) {z : (α ⊕ Nat) × gG} (h : some (.inr n, g) = some z) :
    W p l e R s m args below meth c H locs cells slots (vx_MQ below Qc (gXC Γ z) args s mc ms (gA Γ)) (F0 m pc ls rest) := by
  obtain ⟨hx, hb, hml, hr, hown, hts, hK, hlk, hX⟩ := C0
  obtain ⟨hfit, hk, hi, hstr, hat, hbad, hot⟩ := hth
  obtain ⟨sa, hsa⟩ := hX.2.2.2.2.1 _ hstr
  exact vx_throwSW (names := gNms) hx hb hst hown hfit gNms_fit (hts _ hk) (hts _ hi) hsa (vx_hat (fun w hw => hts w (hat w hw)) hbad (gBad_ok hX)) hot hX.2.2.1 hX.2.2.2.1 hS (hlz.trans hml.symm) d0 d3 d4 d6 d9 (fun x hx9 => (hE x hx9).elim) hf hlo hc hs hlk (fun t _ hz hk9 => gXC_of h hn hP hS t hz hk9) hS.2.2 hc2 hs2
end GXW
