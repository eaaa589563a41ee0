/-! PURE: numbers, places, conditions; calls that never throw. -/
theorem fAny_lt {n : Nat} : ∀ (T : List aT) (s : Nat), s < 2 ^ n → (∀ tm ∈ T, okT n tm) → fAny T s < 2 ^ n
  | [], s, hs, _ => hs
  | tm :: T, s, hs, h => fAny_lt T (s ||| setOf tm.1) (Nat.or_lt_two_pow hs (setOf_lt (h tm (by simp)).2)) (fun tm' h' => h tm' (by simp [h']))
section RA
variable {n : Nat} {hm : Nat → Nat} {S : aS}
end RA
section RB
variable {tx : List Nat} {n : Nat} {hm : Nat → Nat} {S : aS} {L : List aS} {K : Nat → Option aS}
theorem isP_p {a : Int32} (hn : n ≤ 10) (h : decide (0 ≤ a.toInt ∧ a.toInt < n) = true) : ∃ p, p < n ∧ a = nI p := by
  have h1 := of_decide_eq_true h
  refine ⟨a.toInt.toNat, by omega, ?_⟩
  apply Int32.toInt_inj.mp
  rw [nI_toInt (by omega)]
  omega
end RB
/-- calls that never throw -/
def opV (tx : List Nat) (n : Nat) (hm : Nat → Nat) (S : aS) (L : List aS) (K : Nat → Option aS) (X Y : gG → Option (Int32 × gG)) : Prop := ∃ v tx', okA tx' n hm S L K ∧ (∀ g, InvC tx n hm S L K g → ∃ g', X g = some (v, g') ∧ InvC tx' n hm S L K g' ∧ ∀ j, (174 ≤ j ∨ j = 6 ∨ j = 7) → g'.1 j = g.1 j) ∧ ∀ g, InvM tx n hm S L K g → ∃ g', Y g = some (v, g') ∧ InvM tx' n hm S L K g' ∧ ∀ j, j < 174 → g'.1 j = g.1 j
theorem law_void {tx : List Nat} {n : Nat} {hm : Nat → Nat} {S : aS} {L : List aS} {K : Nat → Option aS} {X Y : gG → Option (Int32 × gG)} (h : opV tx n hm S L K X Y) {g : gG} (hC : InvC tx n hm S L K g) (hM : InvM tx n hm S L K g) (hr : rdC g) (l4 : Int32) (F : Int32 → gG → Option Unit) : ∃ g2, Inv g2 ∧ (X g).bind (fun u1 => (Y u1.2).bind (fun u2 => if u1.1 = u2.1 then (gLet (l4 + (4 : Int32)) (fun x4 => F x4 u2.2)) else (none))) = F (l4 + (4 : Int32)) g2 := by
  obtain ⟨v, tx', ok', h1, h2⟩ := h
  obtain ⟨g', e1, c1, f1⟩ := h1 g hC
  obtain ⟨g2, e2, c2, f2⟩ := h2 g' (InvM_eq hM (by rw [f1 174 (by omega)]) (by rw [f1 174 (by omega)]) (fun j hj => by rw [f1 j (by omega)]))
  refine ⟨g2, ⟨tx', n, hm, S, L, K, ok', InvC_eq c1 (fun j hj => f2 j (by omega)), c2, rdC_eq hr (by rw [f2 6 (by decide), f1 6 (by decide)]) (by rw [f2 7 (by decide), f1 7 (by decide)])⟩, ?_⟩
  rw [e1]
  simp only [ob_eq, gl_eq]
  rw [e2]
  simp only [ob_eq]
  rw [if_pos trivial]
section VO
variable {tx : List Nat} {n : Nat} {hm : Nat → Nat} {S : aS} {L : List aS} {K : Nat → Option aS}
noncomputable def ezP (n : Nat) (hm : Nat → Nat) (E p : Nat) : Bool := decide (dedN n (effH hm (E ||| 2 ^ p)) = 0)
theorem c_easeBy_l {E : Nat} (h2 : 2 ≤ n) (hn : n ≤ 10) (hE : E < 2 ^ n) (d : Nat) : ∀ (g : gG) i fu, i + d = n → d < fu → cH g n hm → ∃ g', fb_X9_easeBy_24 fu (nI E) (nI i) g = some (fFirst (ezP n hm E) d i, g') ∧ frm 157 162 g g' := by
  induction d with
  | zero =>
    intro g i fu hi hf hH
    obtain ⟨fu, rfl⟩ : ∃ f', fu = f' + 1 := ⟨fu - 1, by omega⟩
    have e : i = n := by omega
    subst e
    refine ⟨g, ?_, frm.rf⟩
    unfold fb_X9_easeBy_24 fs_X9_easeBy_24 f_X0_count
    simp only [ob_eq]
    rw [hH.1, if_pos (nI_le (Nat.le_refl _) (by omega))]
    rfl
  | succ d ih =>
    intro g i fu hi hf hH
    obtain ⟨fu, rfl⟩ : ∃ f', fu = f' + 1 := ⟨fu - 1, by omega⟩
    have hlt : E ||| 2 ^ i < 2 ^ n := or_lt hE (by omega)
    obtain ⟨g1, e1, c1⟩ := c_dead hH h2 hn hlt
    have hcl := cnt_k (ded n (effH hm (E ||| 2 ^ i))) (2 ^ n)
    have h1024 : 2 ^ n ≤ 1024 := Nat.pow_le_pow_right (n := 2) (j := 10) (by decide) hn
    have hcl : dedN n (effH hm (E ||| 2 ^ i)) ≤ 2 ^ n := hcl
    unfold fb_X9_easeBy_24 fs_X9_easeBy_24 f_X0_count fFirst
    simp only [ob_eq]
    rw [hH.1, if_neg (nI_ge (by omega) (by omega)), show (1 : Int32) <<< (nI i &&& 31) = nI (2 ^ i) from nI_shl1 (by omega), fa_or, e1]
    simp only [ob_eq, gl_eq, nI_1]
    by_cases e9 : dedN n (effH hm (E ||| 2 ^ i)) = 0
    · have ez : ezP n hm E i = true := decide_eq_true e9
      rw [if_pos ((nI_z (by omega)).mpr e9), ez, if_pos rfl]
      exact ⟨g1, rfl, c1⟩
    · have ez : ezP n hm E i = false := decide_eq_false e9
      obtain ⟨g2, e2, c2⟩ := ih g1 (i + 1) fu (by omega) (by omega) (cH_fr hH c1 (by omega))
      rw [if_neg (fun e8 => e9 ((nI_z (by omega)).mp e8)), ez, if_neg (by decide)]
      exact ⟨g2, e2, c1.tr c2⟩
end VO
