/-! PURE: the reference's diary (newest first), begin, and what stays. -/
def okL (n : Nat) (L : List aS) : Prop := ∀ S ∈ L, okS n S
def mMem (g : gG) (n : Nat) (hm : Nat → Nat) (L : List aS) : Prop := L.length ≤ 14 ∧ g.1 174 16 = nI L.length ∧ ∀ i S, L[i]? = some S → mS (fun j => g.1 185 (394 * (L.length - 1 - i) + j)) n hm S
theorem okL_get {n : Nat} {L : List aS} (h : okL n L) {i : Nat} {S : aS} (e : L[i]? = some S) : okS n S := h S (List.mem_of_getElem? e)
theorem m_cpS {g : gG} {r0 r2 n : Nat} {hm : Nat → Nat} {S : aS} (hn : n ≤ 10) (ok : okS n S) (h : mS (g.1 r0) n hm S) : mS ((cpN g r0 r2 0 0 394).1 r2) n hm S := by
  refine mS_eq hn ok ?_ h
  intro j hj
  rw [cpN_1, if_pos rfl, cpyIn _ _ (by omega) (by omega)]
  have e : 0 + (j - 0) = j := by omega
  rw [e]
