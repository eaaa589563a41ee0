/-! PURE: the law holds. -/
def LW (A B : aA) (X : gG → gG → Option Unit) : Prop := ∀ g h, Iv A g → Iv B h → X g h = some ()
section LW0
variable {α : Type} {A B A1 B1 : aA}
theorem LW.p {X : gG → Option (α × gG)} {v : α} {G : gG → α × gG → gG → Option Unit} (h1 : AC A X v A1) (h2 : ∀ g0, LW A1 B (fun g h => G g0 (v, g) h)) : LW A B (fun g h => (X g).bind (fun u => G g u h)) := fun g h hg hh => by
  obtain ⟨g1, e1, i1⟩ := h1 g hg
  show (X g).bind (fun u => G g u h) = _
  rw [e1, ob_eq]
  exact h2 g g1 h i1 hh
theorem LW.q {X : gG → Option (α × gG)} {v : α} {G : gG → gG → α × gG → Option Unit} (h1 : AC B X v B1) (h2 : ∀ h0, LW A B1 (fun g h => G g h0 (v, h))) : LW A B (fun g h => (X h).bind (fun u => G g h u)) := fun g h hg hh => by
  obtain ⟨g1, e1, i1⟩ := h1 h hh
  show (X h).bind (fun u => G g h u) = _
  rw [e1, ob_eq]
  exact h2 h g g1 hg i1
theorem LW.al {X : gG → gG → Option (α × gG × gG)} {v : α} {G : α × gG × gG → Option Unit} (h1 : AC2 A X v A1) (h2 : LW A1 A1 (fun g h => G (v, g, h))) : LW A A (fun g h => (X g h).bind (fun u => G u)) := fun g h hg hh => by
  obtain ⟨g1, h1', e1, i1, i2⟩ := h1 g h hg hh
  show (X g h).bind (fun u => G u) = _
  rw [e1, ob_eq]
  exact h2 g1 h1' i1 i2
theorem LW.dr {x : Option Int32} {v : Int32} {G : Int32 → gG → gG → Option Unit} (e : x = some v) (h2 : LW A B (fun g h => G v g h)) : LW A B (fun g h => x.bind (fun u => G u g h)) := by
  subst e
  exact h2
theorem LW.pos {c : Prop} {d : gG → gG → Decidable c} {X Y : gG → gG → Option Unit} (hc : c) (h : LW A B X) : LW A B (fun g h => @ite _ c (d g h) (X g h) (Y g h)) := fun g g2 hg hh => (if_pos hc).trans (h g g2 hg hh)
theorem LW.neg {c : Prop} {d : gG → gG → Decidable c} {X Y : gG → gG → Option Unit} (hc : ¬ c) (h : LW A B Y) : LW A B (fun g h => @ite _ c (d g h) (X g h) (Y g h)) := fun g g2 hg hh => (if_neg hc).trans (h g g2 hg hh)
theorem LW.le {x y : α} {F : α → gG → gG → Option Unit} (e : x = y) (h : LW A B (F y)) : LW A B (fun g h => gLet x (fun z => F z g h)) := by subst e; exact h
theorem LW.ret : LW A B (fun _ _ => some ()) := fun _ _ _ _ => rfl
end LW0
theorem cnd_255 {k a b e : Nat} (ha : a ≤ 255) (hb : b ≤ 255) (he : e < 2) : ∀ c ∈ cnd k a b e, c < 256 := by
  intro c hc
  unfold cnd at hc
  match k, hc with
  | 0, hc => simp at hc; omega
  | 1, hc => simp at hc; omega
  | 2, hc => simp at hc; omega
  | 3, hc => simp at hc; omega
  | 4, hc => simp at hc; omega
  | 5, hc => simp at hc; omega
  | k + 6, hc => simp at hc; omega
theorem plas_255 {x : Nat} : ∀ r p, p + r ≤ 10 → (plas x r p).length ≤ 9 * r ∧ ∀ c ∈ plas x r p, c < 256
  | 0, p, h => ⟨by show 0 ≤ 9 * 0; omega, fun c hc => by cases hc⟩
  | r + 1, p, h => by
    obtain ⟨h1, h2⟩ := plas_255 (x := x) r (p + 1) (by omega)
    have hq : ∀ w, (if p = 0 then 0 else w % p) ≤ 10 := fun w => by
      by_cases q : p = 0
      · rw [if_pos q]; omega
      · rw [if_neg q]
        have := Nat.mod_lt w (show 0 < p by omega)
        omega
    have a1 := hq (vOf x p / 8)
    have a2 := hq (vOf x p / 80)
    have a3 : vOf x p / 7 % 2 < 2 := Nat.mod_lt _ (by decide)
    have a4 := cnd_len (if p = 0 then 0 else vOf x p % 7) (97 + (if p = 0 then 0 else vOf x p / 8 % p)) (97 + (if p = 0 then 0 else vOf x p / 80 % p)) (vOf x p / 7 % 2)
    have a5 := cnd_255 (k := if p = 0 then 0 else vOf x p % 7) (a := 97 + (if p = 0 then 0 else vOf x p / 8 % p)) (b := 97 + (if p = 0 then 0 else vOf x p / 80 % p)) (e := vOf x p / 7 % 2) (by omega) (by omega) a3
    unfold plas
    refine ⟨?_, fun c hc => ?_⟩
    · rw [List.length_append]
      unfold pla
      rw [List.length_append]
      show 3 + _ + _ ≤ _
      omega
    · rcases List.mem_append.mp hc with q | q
      · unfold pla at q
        rcases List.mem_append.mp q with q | q
        · have b1 : vOf x p % 10 < 10 := Nat.mod_lt _ (by decide)
          have b2 : vOf x p / 10 % 10 < 10 := Nat.mod_lt _ (by decide)
          simp only [List.mem_cons, List.not_mem_nil, or_false] at q
          omega
        · exact a5 c q
      · exact h2 c q
section LAW
variable {tx : List Nat} {n : Nat} {hm : Nat → Nat} {S : aS} {L : List aS} {K : Nat → Option aS} {rd : aR} {B : Nat}
theorem okA_txt (ok : okA tx n hm S L K) {x many : Nat} (hm10 : many ≤ 10) : okA (txtOf x many) n hm S L K := by
  obtain ⟨h1, h2⟩ := plas_255 (x := x) many 0 (by omega)
  refine ⟨?_, fun c hc => ?_, ok.2.2⟩
  · unfold txtOf
    rw [List.length_cons]
    omega
  · unfold txtOf at hc
    rcases List.mem_cons.mp hc with q | q
    · omega
    · exact h2 c q
theorem sdr_v {L : Nat} {xs : Nat → Int32} (hL : L ≤ 260) {k : Nat} (hk : k < 2 ^ 30) : ∃ v, v < 2 ^ 31 ∧ sdr L xs (nI k) = some (nI v) := by
  have key : ∀ y : Int32, ∃ v, v < 2 ^ 31 ∧ y &&& (2147483647 : Int32) = nI v := fun y => by
    obtain ⟨m, hm, e⟩ := wb_of32 y
    exact ⟨m % 2 ^ 31, Nat.mod_lt _ (by decide), by rw [e]; exact fa_mask m 31⟩
  unfold sdr
  by_cases q : L ≤ k
  · rw [if_pos (show Int32.ofNat L ≤ nI k from nI_le q (by omega))]
    obtain ⟨v, h1, h2⟩ := key ((15593329 : Int32) * nI k + 10399)
    exact ⟨v, h1, by rw [h2]⟩
  · rw [if_neg (show ¬ (Int32.ofNat L ≤ nI k) from nI_ge (by omega) (by omega)), if_pos (inb_nI (by omega) (by omega))]
    obtain ⟨v, h1, h2⟩ := key (xs (nI k).toNatClampNeg)
    exact ⟨v, h1, by rw [h2]⟩
theorem okQ.read (h : okQ B tx n hm S L K rd) : okQ B tx n hm S L K (pTR tx rd) := ⟨h.1, (x_err h.1 h.2.1).2, h.2.2⟩
variable {Ls : Nat} {xs : Nat → Int32} {F52 : Int32 → Int32 → gG → gG → Option Unit}
theorem law_265 {A A' : aA} {k : Nat} (hF : LW A A' (F52 1 (nI (k + 1)))) : LW A A' (fs_L_law_265 Ls xs F52 (nI k)) := by
  unfold fs_L_law_265 fs_L_law_270
  exact LW.le (nI_1 k) hF
theorem law_243 (h : okQ B tx n hm S L K rd) {k : Nat} (hk : k < 54) {y : Int32} (hF : ∀ A : aA, okT7 B A → LW A A (F52 1 (nI (k + 1)))) : LW (tx, n, hm, S, L, K, rd) (tx, n, hm, S, L, K, rd) (fs_L_law_243 Ls xs F52 1 (nI k) y) := by
  unfold fs_L_law_243
  rw [show nI k - nI k / (6 : Int32) * (6 : Int32) = nI (k % 6) from pk_rem (d := 6) (by omega) (by decide) (by decide)]
  have hr : k % 6 < 6 := Nat.mod_lt _ (by decide)
  refine LW.neg (by decide) ?_
  by_cases q : 0 < k % 6
  · exact LW.pos (nI_lt (a := 0) q (by omega)) (law_265 (hF _ h))
  · refine LW.neg (nI_nlt (b := k % 6) (a := 0) (by omega) (by decide)) (LW.al (L_alike h.1 h.2.1 y) ?_)
    dsimp only
    exact LW.neg (by decide) (law_265 (hF _ h.read))
theorem law_194 (h : okQ B tx n hm S L K rd) {k : Nat} (hk : k < 54) {y : Nat} (hy : y < 2 ^ 31) (hF : ∀ A : aA, okT7 B A → LW A A (F52 1 (nI (k + 1)))) : LW (tx, n, hm, S, L, K, rd) (tx, n, hm, S, L, K, rd) (fs_L_law_194 Ls xs F52 1 (nI k) (nI y)) := by
  unfold fs_L_law_194
  rw [show nI k - nI k / (9 : Int32) * (9 : Int32) = nI (k % 9) from pk_rem (d := 9) (by omega) (by decide) (by decide)]
  have hr : k % 9 < 9 := Nat.mod_lt _ (by decide)
  by_cases q : k % 9 = 8
  · have h1 := h.save 1
    have hK : setK K 1 S 1 = some S := if_pos rfl
    have h2 := h1.restore (i := 1) hK
    have hT4 : S.2.2.2.length ≤ 4 := h.1.2.2.2.2.2.1.2.1
    have e1 := w_save (x_save (rd := rd) (i := 1) h.1 (by decide))
    have e2 := w_restore (x_restore (rd := rd) (i := 1) h1.1 (by decide) hK)
    rw [nI_l (by omega)] at e1 e2
    refine LW.pos (by rw [q]; rfl) (LW.neg (by decide) (LW.q (L_follows h hy) (fun _ => ?_)))
    dsimp only
    refine LW.neg (by decide) (LW.p e1 (fun _ => ?_))
    dsimp only
    refine LW.neg (bk_neg (by omega)) (LW.p e2 (fun _ => ?_))
    dsimp only
    refine LW.neg (bk_neg (by omega)) ?_
    unfold fs_L_law_242
    exact law_243 h2 hk hF
  · refine LW.neg (fun e => q ((nI_eq (b := 8) (by omega) (by decide)).mp e)) ?_
    exact law_243 h hk hF
theorem law_161 (h : okQ B tx n hm S L K rd) (hB : B ≤ 1000) {k : Nat} (hk : k < 54) {y : Nat} (hy : y < 2 ^ 31) (hF : ∀ A : aA, okT7 B A → LW A A (F52 1 (nI (k + 1)))) : LW (tx, n, hm, S, L, K, rd) (tx, n, hm, S, L, K, rd) (fs_L_law_161 Ls xs F52 (nI k) (nI y) 1) := by
  unfold fs_L_law_161
  rw [show nI k - nI k / (6 : Int32) * (6 : Int32) = nI (k % 6) from pk_rem (d := 6) (by omega) (by decide) (by decide)]
  have hr : k % 6 < 6 := Nat.mod_lt _ (by decide)
  by_cases q : k % 6 = 0
  · refine LW.pos (by rw [q]; rfl) (LW.neg (by decide) (LW.q (L_errors h.1) (fun _ => ?_)))
    dsimp only
    refine LW.neg (by decide) (LW.q (L_kept h.1 h.2.2.1 hB) (fun _ => ?_))
    dsimp only
    refine LW.neg (by decide) ?_
    unfold fs_L_law_193
    exact law_194 h hk hy hF
  · exact LW.neg (fun e => q ((nI_z (by omega)).mp e)) (law_194 h hk hy hF)
theorem law_52 (hLs : Ls ≤ 260) (d : Nat) : ∀ k fu (A : aA), k + d = 54 → d < fu → okT7 k A → LW A A (fb_L_law_52 Ls xs fu 1 (nI k)) := by
  induction d with
  | zero =>
    intro k fu A hk hf hA
    obtain ⟨fu, rfl⟩ : ∃ f', fu = f' + 1 := ⟨fu - 1, by omega⟩
    obtain ⟨tx, n, hm, S, L, K, rd⟩ := A
    have h : okQ k tx n hm S L K rd := hA
    unfold fb_L_law_52 fs_L_law_52
    refine LW.pos (nI_le (a := 54) (by omega) (by omega)) ?_
    unfold fs_L_law_277
    refine LW.neg (by decide) (LW.al (L_alike h.1 h.2.1 _) ?_)
    dsimp only
    exact LW.neg (by decide) LW.ret
  | succ d ih =>
    intro k fu A hk hf hA
    obtain ⟨fu, rfl⟩ : ∃ f', fu = f' + 1 := ⟨fu - 1, by omega⟩
    obtain ⟨tx, n, hm, S, L, K, rd⟩ := A
    have h : okQ k tx n hm S L K rd := hA
    obtain ⟨x, hx, ex⟩ := sdr_v (xs := xs) hLs (k := 2 * k) (by omega)
    obtain ⟨y, hy, ey⟩ := sdr_v (xs := xs) hLs (k := 2 * k + 1) (by omega)
    have hr : k % 27 < 27 := Nat.mod_lt _ (by decide)
    unfold fb_L_law_52 fs_L_law_52
    rw [show (2 : Int32) * nI k = nI (2 * k) from pk_mul 2 k, nI_1, show nI k - nI k / (27 : Int32) * (27 : Int32) = nI (k % 27) from pk_rem (d := 27) (by omega) (by decide) (by decide)]
    refine LW.neg (nI_ge (b := 54) (by omega) (by decide)) (LW.neg (by decide) (LW.dr ex (LW.dr ey ?_)))
    by_cases q : k % 27 = 0
    · have h9 : 2 + y % 9 ≤ 10 := by have := Nat.mod_lt y (show 0 < 9 by decide); omega
      obtain ⟨D, hD⟩ := txt_ok (x := x) (many := 2 + y % 9) (by omega) h9
      have okt := okA_txt (x := x) h.1 h9
      have hr1 : rdok (pTR (txtOf x (2 + y % 9)) rd) := (x_err okt h.2.1).2
      obtain ⟨eL, okL⟩ := x_load okt hr1 hD
      have hr2 := (x_err okt hr1).2
      have eT := L_tells (rd := rd) h.1 h.2.1 hx hy
      refine LW.pos (by rw [q]; rfl) (LW.p eT (fun _ => ?_))
      dsimp only
      refine LW.neg (by decide) (LW.q eT (fun _ => ?_))
      dsimp only
      refine LW.neg (by decide) (LW.p (w_load eL) (fun _ => ?_))
      dsimp only
      refine LW.q (w_load eL) (fun _ => ?_)
      dsimp only
      refine LW.pos (lg_refl _) ?_
      unfold fs_L_law_132
      refine LW.le (nI_1 k) (ih (k + 1) fu _ (by omega) (by omega) ?_)
      exact ⟨okL, hr2, (fun tm ht => by cases ht), (fun S' hS => by cases hS), fun i S' e => by cases e⟩
    · obtain ⟨v, A', hA', eA⟩ := e_act h (nI x) (nI y)
      obtain ⟨tx', n', hm', S', L', K', rd'⟩ := A'
      have h' : okQ (k + 1) tx' n' hm' S' L' K' rd' := hA'
      refine LW.neg (fun e => q ((nI_z (by omega)).mp e)) (LW.p eA (fun _ => ?_))
      dsimp only
      refine LW.q eA (fun _ => ?_)
      dsimp only
      exact LW.pos (lg_refl _) (law_161 h' (by omega) (by omega) hy (fun A hA => ih (k + 1) fu A (by omega) (by omega) hA))
end LAW
def A00 : aA := ([], 2, hm0, ((fun _ => 0), (fun _ => 0), 0, []), [], (fun _ => none), ((fun _ => 0), (fun _ => 0)))
theorem hm0_lt (s : Nat) : hm0 s < 2 ^ 2 := by
  unfold hm0
  split <;> decide
theorem okQ00 : okT7 0 A00 := by
  refine ⟨⟨Nat.zero_le _, fun c h => (by cases h), by decide, by decide, fun s _ => hm0_lt s, ⟨by show 0 < 2 ^ 2; decide, Nat.zero_le _, fun p hp => ⟨Nat.zero_le _, Nat.zero_le _⟩, fun tm h => by cases h⟩, (fun S h => by cases h), fun i S' h => by cases h⟩, fun p hp => ⟨⟨0, Nat.zero_le _, rfl⟩, ⟨0, Nat.zero_le _, rfl⟩⟩, (fun tm ht => by cases ht), (fun S' hS => by cases hS), fun i S' e => by cases e⟩
theorem Iv00 : Iv A00 g00 := by
  have w : ∀ j, j ≠ 14 → j ≠ 15 → ∀ i, g00.1 j i = 0 := fun j h1 h2 i => g00_0 h1 h2 i
  refine ⟨⟨⟨?_, fun j c h => by simp [A00] at h⟩, ⟨?_, ?_⟩, ⟨?_, ?_, fun p hp => ⟨?_, ?_⟩, fun t tm h => ?_⟩, ⟨Nat.zero_le _, ?_, 0, by decide, ?_, fun i S' h => by simp [A00] at h⟩, fun i hi => ⟨fun _ => ?_, fun S' h => by cases h⟩⟩, rfl, rfl⟩
  · exact w 1 (by decide) (by decide) 1
  · rfl
  · intro s hs
    exact ⟨gHeld_hm s hs, hm0_lt s⟩
  · exact w 16 (by decide) (by decide) 8
  · exact w 16 (by decide) (by decide) 9
  · exact w 17 (by decide) (by decide) p
  · exact w 18 (by decide) (by decide) p
  · have h : ([] : List aT)[t]? = some tm := h
    simp at h
  · exact w 24 (by decide) (by decide) 2
  · exact w 24 (by decide) (by decide) 1
  · exact w 155 (by decide) (by decide) i
theorem law_all {Ls : Nat} {xs : Nat → Int32} (hLs : Ls ≤ 260) {A : aA} (hA : okT7 0 A) : LW A A (f_L_law Ls xs) := by
  obtain ⟨tx, n, hm, S, L, K, rd⟩ := A
  have h : okQ 0 tx n hm S L K rd := hA
  obtain ⟨x, hx, ex⟩ := sdr_v (xs := xs) hLs (k := 0) (by omega)
  unfold f_L_law
  refine LW.dr ex (LW.al (L_alike h.1 h.2.1 _) ?_)
  dsimp only
  have h2 := h.read
  refine LW.neg (by decide) (LW.p (L_errors h2.1) (fun _ => ?_))
  dsimp only
  refine LW.neg (by decide) (LW.p (L_kept h2.1 h2.2.2.1 (by decide)) (fun _ => ?_))
  dsimp only
  refine LW.neg (by decide) ?_
  unfold fs_L_law_48
  exact law_52 hLs 54 0 gFuelW _ (by decide) (by decide) h2
theorem pure_main0 : gPure := fun Ls xs hLs => law_all hLs okQ00 g00 g00 Iv00 Iv00
