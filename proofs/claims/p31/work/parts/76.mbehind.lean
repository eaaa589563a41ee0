/-! PURE: the reference reads what stands behind a part, and a whole condition. -/
def oKF (i : Nat) (G : aF) : Prop := G.1 ≤ 4 ∧ G.2.1.length ≤ i
def invN (F : aF) (R : List aF) (i : Nat) : Prop := R.length ≤ i ∧ oKF i F ∧ ∀ G ∈ R, oKF i G
theorem oKF_s {i : Nat} {G : aF} (h : oKF i G) : oKF (i + 1) G := ⟨h.1, Nat.le_succ_of_le h.2⟩
theorem oKF_c {i : Nat} {G G' : aF} (h : oKF i G) (h1 : G'.1 = G.1) (h2 : G'.2.1 = G.2.1) : oKF (i + 1) G' := ⟨by rw [h1]; exact h.1, by rw [h2]; exact Nat.le_succ_of_le h.2⟩
theorem invN_c {F F' : aF} {R : List aF} {i : Nat} (h : invN F R i) (h1 : F'.1 = F.1) (h2 : F'.2.1 = F.2.1) : invN F' R (i + 1) := ⟨Nat.le_succ_of_le h.1, oKF_c h.2.1 h1 h2, fun G hG => oKF_s (h.2.2 G hG)⟩
theorem invN_p {F : aF} {R : List aF} {i k : Nat} (h : invN F R i) (hk : k ≤ 4) : invN (f0 k) (F :: R) (i + 1) := by
  refine ⟨Nat.succ_le_succ h.1, ⟨hk, Nat.zero_le _⟩, fun G hG => ?_⟩
  rcases List.mem_cons.mp hG with e | e
  · rw [e]; exact oKF_s h.2.1
  · exact oKF_s (h.2.2 G e)
theorem invN_q {F F1 F' : aF} {R : List aF} {i : Nat} (h : invN F (F1 :: R) i) (h1 : F'.1 = F1.1) (h2 : F'.2.1 = F1.2.1) : invN F' R (i + 1) := by
  have hl : R.length + 1 ≤ i := h.1
  exact ⟨by omega, oKF_c (h.2.2 F1 (List.mem_cons_self ..)) h1 h2, fun G hG => oKF_s (h.2.2 G (List.mem_cons_of_mem _ hG))⟩
theorem cst_inv {told mode c i : Nat} {F : aF} {R : List aF} {m' : Nat} {F' : aF} {R' : List aF} (h : cst told mode F R c = some (m', F', R')) (hi : invN F R i) : invN F' R' (i + 1) := by
  unfold cst at h
  split at h
  · split at h
    · cases h; exact invN_c hi rfl rfl
    · split at h
      · cases h; exact invN_p hi (by decide)
      · split at h
        · cases h; exact invN_p hi (by omega)
        · split at h
          · cases h; exact invN_c hi rfl rfl
          · split at h
            · cases h; exact invN_c hi rfl rfl
            · cases h
  · split at h
    · split at h
      · cases h; exact invN_c hi rfl rfl
      · cases h
    · split at h
      · cases h; exact invN_c hi rfl rfl
      · split at h
        · cases h; exact invN_c hi rfl rfl
        · split at h
          · cases h
          · split at h
            · cases h
              refine ⟨Nat.le_succ_of_le hi.1, ⟨hi.2.1.1, ?_⟩, fun G hG => oKF_s (hi.2.2 G hG)⟩
              have hl := hi.2.1.2
              show (F.2.1 ++ [cT F]).length ≤ _
              rw [app_len]; omega
            · split at h
              · cases h; exact invN_q hi rfl rfl
              · split at h
                · cases h; exact invN_q hi rfl rfl
                · cases h
theorem cnt_app (ls : List Tr) (t : Tr) (s : Nat) : cnt (lsAt (ls ++ [t]) s) (ls ++ [t]).length = cnt (lsAt ls s) ls.length + (if t s = true then 1 else 0) := by
  rw [app_len]
  show cnt (lsAt (ls ++ [t]) s) ls.length + (if lsAt (ls ++ [t]) s ls.length = true then 1 else 0) = _
  have e1 : lsAt (ls ++ [t]) s ls.length = t s := by
    unfold lsAt
    rw [List.getElem?_append_right (Nat.le_refl _)]
    simp
  have e2 : cnt (lsAt (ls ++ [t]) s) ls.length = cnt (lsAt ls s) ls.length := cnt_cong (fun i hi => by
    unfold lsAt
    rw [List.getElem?_append_left hi])
  rw [e1, e2]
section MB
variable {g : gG} {tx : List Nat} {i s told : Nat} {F : aF} {R : List aF}
theorem m_kind (h : fsM g s F R) (hR : R.length ≤ 121) (k : Nat) : inb (g.1 174 12) 122 = true ∧ g.1 177 (g.1 174 12).toNatClampNeg = (if R.length = 0 then 0 else if F.1 = 0 then 1 else 2) := by
  rw [h.1]
  refine ⟨inb_nI (by omega) (by decide), ?_⟩
  rw [nI_clamp (by omega)]
  exact h.2.1.1
end MB
