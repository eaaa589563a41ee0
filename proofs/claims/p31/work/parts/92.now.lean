/-! PURE: all that is told of a hunt, as one number: it depends on the hunt and the present state alone. -/
def NV {α : Type} (n : Nat) (hm : Nat → Nat) (S : aS) (X : gG → Option (α × gG)) : Prop := ∃ v, ∀ tx L K rd, okA tx n hm S L K → AC (tx, n, hm, S, L, K, rd) X v (tx, n, hm, S, L, K, rd)
section NOW
variable {n : Nat} {hm : Nat → Nat} {S : aS} {α β : Type}
theorem NV.bd {X : gG → Option (α × gG)} {G : α × gG → Option (β × gG)} (h1 : NV n hm S X) (h2 : ∀ v, NV n hm S (fun g => G (v, g))) : NV n hm S (fun g => (X g).bind G) := by
  obtain ⟨v, h1⟩ := h1
  obtain ⟨z, h2⟩ := h2 v
  exact ⟨z, fun tx L K rd ok => AC.bd (h1 tx L K rd ok) (h2 tx L K rd ok)⟩
theorem NV.ret (v : α) : NV n hm S (fun g => some (v, g)) := ⟨v, fun _ _ _ _ _ => AC.ret⟩
theorem NV.pos {c : Prop} {d : gG → Decidable c} {X Y : gG → Option (α × gG)} (hc : c) (h : NV n hm S X) : NV n hm S (fun g => @ite _ c (d g) (X g) (Y g)) := by
  obtain ⟨v, h⟩ := h
  exact ⟨v, fun tx L K rd ok => AC.pos hc (h tx L K rd ok)⟩
theorem NV.neg {c : Prop} {d : gG → Decidable c} {X Y : gG → Option (α × gG)} (hc : ¬ c) (h : NV n hm S Y) : NV n hm S (fun g => @ite _ c (d g) (X g) (Y g)) := by
  obtain ⟨v, h⟩ := h
  exact ⟨v, fun tx L K rd ok => AC.neg hc (h tx L K rd ok)⟩
theorem NV_about {k : Nat} (hk : k < 6) : NV n hm S (f_L_about (nI k)) := by
  have : k = 0 ∨ k = 1 ∨ k = 2 ∨ k = 3 ∨ k = 4 ∨ k = 5 := by omega
  rcases this with rfl | rfl | rfl | rfl | rfl | rfl
  · exact ⟨_, fun tx L K rd ok => w_about (x_about0 ok)⟩
  · exact ⟨_, fun tx L K rd ok => w_about (x_about1 ok)⟩
  · exact ⟨_, fun tx L K rd ok => w_about (x_about2 ok)⟩
  · exact ⟨_, fun tx L K rd ok => w_about (x_about3 ok)⟩
  · exact ⟨_, fun tx L K rd ok => w_about (x_about4 ok)⟩
  · exact ⟨_, fun tx L K rd ok => w_about (x_about5 ok)⟩
theorem NV_place {k p : Nat} (hk : k < 4) (hp : p < n) : NV n hm S (f_L_place (nI p) (nI k)) := by
  have : k = 0 ∨ k = 1 ∨ k = 2 ∨ k = 3 := by omega
  rcases this with rfl | rfl | rfl | rfl
  · exact ⟨_, fun tx L K rd ok => w_place (x_place0 ok hp)⟩
  · exact ⟨_, fun tx L K rd ok => w_place (x_place1 ok hp)⟩
  · exact ⟨_, fun tx L K rd ok => w_place (x_place2 ok hp)⟩
  · exact ⟨_, fun tx L K rd ok => w_place (x_place3 ok hp)⟩
theorem NV_team {k t : Nat} (hk : k < 6) (ht : t < S.2.2.2.length) : NV n hm S (f_L_team (nI t) (nI k)) := by
  obtain ⟨tm, htm⟩ := get_lt ht
  have : k = 0 ∨ k = 1 ∨ k = 2 ∨ k = 3 ∨ k = 4 ∨ k = 5 := by omega
  rcases this with rfl | rfl | rfl | rfl | rfl | rfl
  · exact ⟨_, fun tx L K rd ok => w_team (x_team0 ok htm)⟩
  · exact ⟨_, fun tx L K rd ok => w_team (x_team1 ok htm)⟩
  · exact ⟨_, fun tx L K rd ok => w_team (x_team2 ok htm)⟩
  · exact ⟨_, fun tx L K rd ok => w_team (x_team3 ok htm)⟩
  · exact ⟨_, fun tx L K rd ok => w_team (x_team4 ok htm)⟩
  · exact ⟨_, fun tx L K rd ok => w_team (x_team5 ok htm)⟩
theorem NV_open {t : Nat} (ht : t < S.2.2.2.length) : NV n hm S (f_L_open (nI t)) := by
  obtain ⟨tm, htm⟩ := get_lt ht
  exact ⟨_, fun tx L K rd ok => w_open (x_open ok htm)⟩
theorem NV_orders {t : Nat} (ht : t < S.2.2.2.length) : NV n hm S (f_L_orders (nI t)) := by
  obtain ⟨tm, htm⟩ := get_lt ht
  exact ⟨_, fun tx L K rd ok => w_orders (x_orders ok htm)⟩
theorem nI_s (k : Nat) : nI k + (1 : Int32) = nI (k + 1) := nI_1 k
theorem now_94 {t : Nat} (ht : t < S.2.2.2.length) {F80 : Int64 → Int32 → gG → Option (Int64 × gG)} (hF : ∀ l1, NV n hm S (F80 l1 (nI (t + 1)))) (d : Nat) : ∀ k fu l1, k + d = 6 → d < fu → NV n hm S (fb_L_now_94 F80 fu l1 (nI t) (nI k)) := by
  induction d with
  | zero =>
    intro k fu l1 hk hf
    obtain ⟨fu, rfl⟩ : ∃ f', fu = f' + 1 := ⟨fu - 1, by omega⟩
    have e : k = 6 := by omega
    subst e
    unfold fb_L_now_94 fs_L_now_94
    refine NV.pos (by decide) (NV.bd (NV_open ht) (fun v => ?_))
    dsimp only
    refine NV.bd (NV_orders ht) (fun z => ?_)
    simp only [gl_eq, nI_s]
    exact hF _
  | succ d ih =>
    intro k fu l1 hk hf
    obtain ⟨fu, rfl⟩ : ∃ f', fu = f' + 1 := ⟨fu - 1, by omega⟩
    unfold fb_L_now_94 fs_L_now_94
    refine NV.neg (show ¬ ((6 : Int32) ≤ nI k) from nI_ge (b := 6) (by omega) (by decide)) (NV.bd (NV_team (by omega) ht) (fun v => ?_))
    simp only [gl_eq, nI_s]
    exact ih (k + 1) fu _ (by omega) (by omega)
theorem now_80 (hT : S.2.2.2.length ≤ 4) (d : Nat) : ∀ t fu l1, t + d = S.2.2.2.length → d < fu → NV n hm S (fb_L_now_80 fu l1 (nI t)) := by
  have hab : ∀ tx L K rd, okA tx n hm S L K → AC (tx, n, hm, S, L, K, rd) (f_L_about (1 : Int32)) (lN S.2.2.2.length) (tx, n, hm, S, L, K, rd) := fun tx L K rd ok => by
    have h := w_about (x_about1 (rd := rd) ok)
    rw [nI_l (by omega)] at h
    exact h
  induction d with
  | zero =>
    intro t fu l1 hk hf
    obtain ⟨fu, rfl⟩ : ∃ f', fu = f' + 1 := ⟨fu - 1, by omega⟩
    unfold fb_L_now_80 fs_L_now_80
    refine ⟨l1, fun tx L K rd ok => AC.bd (hab tx L K rd ok) ?_⟩
    dsimp only
    refine AC.pos ?_ AC.ret
    show 0 ≤ lg_cmp (nI t).toInt64 (lN S.2.2.2.length)
    rw [nI_l (by omega)]
    exact (lcmp_ge (by omega) (by omega)).mpr (by omega)
  | succ d ih =>
    intro t fu l1 hk hf
    obtain ⟨fu, rfl⟩ : ∃ f', fu = f' + 1 := ⟨fu - 1, by omega⟩
    unfold fb_L_now_80 fs_L_now_80
    have hgo : NV n hm S (fb_L_now_94 (fb_L_now_80 fu) gFuel7 l1 (nI t) (nI 0)) := now_94 (by omega) (fun z => ih (t + 1) fu z (by omega) (by omega)) 6 0 gFuel7 l1 (by omega) (by decide)
    obtain ⟨v, hv⟩ := hgo
    refine ⟨v, fun tx L K rd ok => AC.bd (hab tx L K rd ok) ?_⟩
    dsimp only
    refine AC.neg ?_ (hv tx L K rd ok)
    show ¬ (0 ≤ lg_cmp (nI t).toInt64 (lN S.2.2.2.length))
    rw [nI_l (by omega), lcmp_ge (by omega) (by omega)]
    omega
theorem now_46 {p : Nat} (hp : p < n) {F32 : Int64 → Int32 → gG → Option (Int64 × gG)} (hF : ∀ l1, NV n hm S (F32 l1 (nI (p + 1)))) (d : Nat) : ∀ k fu l1, k + d = 4 → d < fu → NV n hm S (fb_L_now_46 F32 fu l1 (nI p) (nI k)) := by
  induction d with
  | zero =>
    intro k fu l1 hk hf
    obtain ⟨fu, rfl⟩ : ∃ f', fu = f' + 1 := ⟨fu - 1, by omega⟩
    have e : k = 4 := by omega
    subst e
    unfold fb_L_now_46 fs_L_now_46
    refine NV.pos (by decide) ?_
    simp only [gl_eq, nI_s]
    exact hF _
  | succ d ih =>
    intro k fu l1 hk hf
    obtain ⟨fu, rfl⟩ : ∃ f', fu = f' + 1 := ⟨fu - 1, by omega⟩
    unfold fb_L_now_46 fs_L_now_46
    refine NV.neg (show ¬ ((4 : Int32) ≤ nI k) from nI_ge (b := 4) (by omega) (by decide)) (NV.bd (NV_place (by omega) hp) (fun v => ?_))
    simp only [gl_eq, nI_s]
    exact ih (k + 1) fu _ (by omega) (by omega)
theorem now_32 (hT : S.2.2.2.length ≤ 4) (hn : n ≤ 10) (d : Nat) : ∀ p fu l1, p + d = n → d < fu → NV n hm S (fb_L_now_32 fu l1 (nI p)) := by
  have hab : ∀ tx L K rd, okA tx n hm S L K → AC (tx, n, hm, S, L, K, rd) (f_L_about (0 : Int32)) (lN n) (tx, n, hm, S, L, K, rd) := fun tx L K rd ok => by
    have h := w_about (x_about0 (rd := rd) ok)
    rw [nI_l (by omega)] at h
    exact h
  induction d with
  | zero =>
    intro p fu l1 hk hf
    obtain ⟨fu, rfl⟩ : ∃ f', fu = f' + 1 := ⟨fu - 1, by omega⟩
    unfold fb_L_now_32 fs_L_now_32
    obtain ⟨v, hv⟩ := now_80 (n := n) (hm := hm) hT S.2.2.2.length 0 gFuel5 l1 (by omega) (by unfold gFuel5; omega)
    refine ⟨v, fun tx L K rd ok => AC.bd (hab tx L K rd ok) ?_⟩
    dsimp only
    refine AC.pos ?_ (hv tx L K rd ok)
    show 0 ≤ lg_cmp (nI p).toInt64 (lN n)
    rw [nI_l (by omega)]
    exact (lcmp_ge (by omega) (by omega)).mpr (by omega)
  | succ d ih =>
    intro p fu l1 hk hf
    obtain ⟨fu, rfl⟩ : ∃ f', fu = f' + 1 := ⟨fu - 1, by omega⟩
    unfold fb_L_now_32 fs_L_now_32
    have hgo : NV n hm S (fb_L_now_46 (fb_L_now_32 fu) gFuel5 l1 (nI p) (nI 0)) := now_46 (by omega) (fun z => ih (p + 1) fu z (by omega) (by omega)) 4 0 gFuel5 l1 (by omega) (by decide)
    obtain ⟨v, hv⟩ := hgo
    refine ⟨v, fun tx L K rd ok => AC.bd (hab tx L K rd ok) ?_⟩
    dsimp only
    refine AC.neg ?_ (hv tx L K rd ok)
    show ¬ (0 ≤ lg_cmp (nI p).toInt64 (lN n))
    rw [nI_l (by omega), lcmp_ge (by omega) (by omega)]
    omega
theorem now_6 (hT : S.2.2.2.length ≤ 4) (hn : n ≤ 10) (d : Nat) : ∀ k fu l1, k + d = 6 → d < fu → NV n hm S (fb_L_now_6 fu l1 (nI k)) := by
  induction d with
  | zero =>
    intro k fu l1 hk hf
    obtain ⟨fu, rfl⟩ : ∃ f', fu = f' + 1 := ⟨fu - 1, by omega⟩
    have e : k = 6 := by omega
    subst e
    unfold fb_L_now_6 fs_L_now_6
    refine NV.pos (by decide) ?_
    exact now_32 hT hn n 0 gFuelL l1 (by omega) (by unfold gFuelL; omega)
  | succ d ih =>
    intro k fu l1 hk hf
    obtain ⟨fu, rfl⟩ : ∃ f', fu = f' + 1 := ⟨fu - 1, by omega⟩
    unfold fb_L_now_6 fs_L_now_6
    refine NV.neg (show ¬ ((6 : Int32) ≤ nI k) from nI_ge (b := 6) (by omega) (by decide)) (NV.bd (NV_about (by omega)) (fun v => ?_))
    simp only [gl_eq, nI_s]
    exact ih (k + 1) fu _ (by omega) (by omega)
theorem L_now (hT : S.2.2.2.length ≤ 4) (hn : n ≤ 10) : NV n hm S f_L_now := by
  unfold f_L_now
  exact now_6 hT hn 6 0 gFuel7 41 (by omega) (by decide)
end NOW
