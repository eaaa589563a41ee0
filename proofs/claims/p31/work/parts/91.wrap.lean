/-! PURE: the law's own wrappers, and has, in, many. -/
section WR
variable {A A' : aA} {r : Int32}
theorem w_append {a1 : Int32} (h : AC A (f_X9_append a1) (.inl r) A') : AC A (f_L_append a1) r.toInt64 A' := fun g hg => by
  obtain ⟨g', e, i⟩ := h g hg
  refine ⟨g', ?_, i⟩
  unfold f_L_append
  rw [e]; rfl
theorem w_append1 {a1 : Int32} (h : AC A (f_X9_append a1) (.inr 1) A') : AC A (f_L_append a1) (-9000000000000000002) A' := fun g hg => by
  obtain ⟨g', e, i⟩ := h g hg
  refine ⟨g', ?_, i⟩
  unfold f_L_append
  rw [e]; rfl
theorem w_append2 {a1 : Int32} (h : AC A (f_X9_append a1) (.inr 2) A') : AC A (f_L_append a1) (-9000000000000000003) A' := fun g hg => by
  obtain ⟨g', e, i⟩ := h g hg
  refine ⟨g', ?_, i⟩
  unfold f_L_append
  rw [e]; rfl
theorem w_load  (h : AC A f_X9_load (.inl r) A') : AC A f_L_load r.toInt64 A' := fun g hg => by
  obtain ⟨g', e, i⟩ := h g hg
  refine ⟨g', ?_, i⟩
  unfold f_L_load
  rw [e]; rfl
theorem w_load2  (h : AC A f_X9_load (.inr 2) A') : AC A f_L_load (-9000000000000000003) A' := fun g hg => by
  obtain ⟨g', e, i⟩ := h g hg
  refine ⟨g', ?_, i⟩
  unfold f_L_load
  rw [e]; rfl
theorem w_about {a1 : Int32} (h : AC A (f_X9_about a1) (.inl r) A') : AC A (f_L_about a1) r.toInt64 A' := fun g hg => by
  obtain ⟨g', e, i⟩ := h g hg
  refine ⟨g', ?_, i⟩
  unfold f_L_about
  rw [e]; rfl
theorem w_about1 {a1 : Int32} (h : AC A (f_X9_about a1) (.inr 1) A') : AC A (f_L_about a1) (-9000000000000000002) A' := fun g hg => by
  obtain ⟨g', e, i⟩ := h g hg
  refine ⟨g', ?_, i⟩
  unfold f_L_about
  rw [e]; rfl
theorem w_place {a1 : Int32} {a2 : Int32} (h : AC A (f_X9_place a1 a2) (.inl r) A') : AC A (f_L_place a1 a2) r.toInt64 A' := fun g hg => by
  obtain ⟨g', e, i⟩ := h g hg
  refine ⟨g', ?_, i⟩
  unfold f_L_place
  rw [e]; rfl
theorem w_place1 {a1 : Int32} {a2 : Int32} (h : AC A (f_X9_place a1 a2) (.inr 1) A') : AC A (f_L_place a1 a2) (-9000000000000000002) A' := fun g hg => by
  obtain ⟨g', e, i⟩ := h g hg
  refine ⟨g', ?_, i⟩
  unfold f_L_place
  rw [e]; rfl
theorem w_place3 {a1 : Int32} {a2 : Int32} (h : AC A (f_X9_place a1 a2) (.inr 3) A') : AC A (f_L_place a1 a2) (-9000000000000000001) A' := fun g hg => by
  obtain ⟨g', e, i⟩ := h g hg
  refine ⟨g', ?_, i⟩
  unfold f_L_place
  rw [e]; rfl
theorem w_team {a1 : Int32} {a2 : Int32} (h : AC A (f_X9_team a1 a2) (.inl r) A') : AC A (f_L_team a1 a2) r.toInt64 A' := fun g hg => by
  obtain ⟨g', e, i⟩ := h g hg
  refine ⟨g', ?_, i⟩
  unfold f_L_team
  rw [e]; rfl
theorem w_team1 {a1 : Int32} {a2 : Int32} (h : AC A (f_X9_team a1 a2) (.inr 1) A') : AC A (f_L_team a1 a2) (-9000000000000000002) A' := fun g hg => by
  obtain ⟨g', e, i⟩ := h g hg
  refine ⟨g', ?_, i⟩
  unfold f_L_team
  rw [e]; rfl
theorem w_team3 {a1 : Int32} {a2 : Int32} (h : AC A (f_X9_team a1 a2) (.inr 3) A') : AC A (f_L_team a1 a2) (-9000000000000000001) A' := fun g hg => by
  obtain ⟨g', e, i⟩ := h g hg
  refine ⟨g', ?_, i⟩
  unfold f_L_team
  rw [e]; rfl
theorem w_trail {a1 : Int32} {a2 : Int32} (h : AC A (f_X9_trail a1 a2) (.inl r) A') : AC A (f_L_trail a1 a2) r.toInt64 A' := fun g hg => by
  obtain ⟨g', e, i⟩ := h g hg
  refine ⟨g', ?_, i⟩
  unfold f_L_trail
  rw [e]; rfl
theorem w_trail1 {a1 : Int32} {a2 : Int32} (h : AC A (f_X9_trail a1 a2) (.inr 1) A') : AC A (f_L_trail a1 a2) (-9000000000000000002) A' := fun g hg => by
  obtain ⟨g', e, i⟩ := h g hg
  refine ⟨g', ?_, i⟩
  unfold f_L_trail
  rw [e]; rfl
theorem w_trail3 {a1 : Int32} {a2 : Int32} (h : AC A (f_X9_trail a1 a2) (.inr 3) A') : AC A (f_L_trail a1 a2) (-9000000000000000001) A' := fun g hg => by
  obtain ⟨g', e, i⟩ := h g hg
  refine ⟨g', ?_, i⟩
  unfold f_L_trail
  rw [e]; rfl
theorem w_open {a1 : Int32} (h : AC A (f_X9_open a1) (.inl r) A') : AC A (f_L_open a1) r.toInt64 A' := fun g hg => by
  obtain ⟨g', e, i⟩ := h g hg
  refine ⟨g', ?_, i⟩
  unfold f_L_open
  rw [e]; rfl
theorem w_open3 {a1 : Int32} (h : AC A (f_X9_open a1) (.inr 3) A') : AC A (f_L_open a1) (-9000000000000000001) A' := fun g hg => by
  obtain ⟨g', e, i⟩ := h g hg
  refine ⟨g', ?_, i⟩
  unfold f_L_open
  rw [e]; rfl
theorem w_addTeam  (h : AC A f_X9_addTeam (.inl r) A') : AC A f_L_addTeam r.toInt64 A' := fun g hg => by
  obtain ⟨g', e, i⟩ := h g hg
  refine ⟨g', ?_, i⟩
  unfold f_L_addTeam
  rw [e]; rfl
theorem w_addTeam2  (h : AC A f_X9_addTeam (.inr 2) A') : AC A f_L_addTeam (-9000000000000000003) A' := fun g hg => by
  obtain ⟨g', e, i⟩ := h g hg
  refine ⟨g', ?_, i⟩
  unfold f_L_addTeam
  rw [e]; rfl
theorem w_go {a1 : Int32} {a2 : Int32} (h : AC A (f_X9_go a1 a2) (.inl r) A') : AC A (f_L_go a1 a2) r.toInt64 A' := fun g hg => by
  obtain ⟨g', e, i⟩ := h g hg
  refine ⟨g', ?_, i⟩
  unfold f_L_go
  rw [e]; rfl
theorem w_go2 {a1 : Int32} {a2 : Int32} (h : AC A (f_X9_go a1 a2) (.inr 2) A') : AC A (f_L_go a1 a2) (-9000000000000000003) A' := fun g hg => by
  obtain ⟨g', e, i⟩ := h g hg
  refine ⟨g', ?_, i⟩
  unfold f_L_go
  rw [e]; rfl
theorem w_go3 {a1 : Int32} {a2 : Int32} (h : AC A (f_X9_go a1 a2) (.inr 3) A') : AC A (f_L_go a1 a2) (-9000000000000000001) A' := fun g hg => by
  obtain ⟨g', e, i⟩ := h g hg
  refine ⟨g', ?_, i⟩
  unfold f_L_go
  rw [e]; rfl
theorem w_hint {a1 : Int32} (h : AC A (f_X9_hint a1) (.inl r) A') : AC A (f_L_hint a1) r.toInt64 A' := fun g hg => by
  obtain ⟨g', e, i⟩ := h g hg
  refine ⟨g', ?_, i⟩
  unfold f_L_hint
  rw [e]; rfl
theorem w_hint2 {a1 : Int32} (h : AC A (f_X9_hint a1) (.inr 2) A') : AC A (f_L_hint a1) (-9000000000000000003) A' := fun g hg => by
  obtain ⟨g', e, i⟩ := h g hg
  refine ⟨g', ?_, i⟩
  unfold f_L_hint
  rw [e]; rfl
theorem w_hint3 {a1 : Int32} (h : AC A (f_X9_hint a1) (.inr 3) A') : AC A (f_L_hint a1) (-9000000000000000001) A' := fun g hg => by
  obtain ⟨g', e, i⟩ := h g hg
  refine ⟨g', ?_, i⟩
  unfold f_L_hint
  rw [e]; rfl
theorem w_giveUp {a1 : Int32} (h : AC A (f_X9_giveUp a1) (.inl r) A') : AC A (f_L_giveUp a1) r.toInt64 A' := fun g hg => by
  obtain ⟨g', e, i⟩ := h g hg
  refine ⟨g', ?_, i⟩
  unfold f_L_giveUp
  rw [e]; rfl
theorem w_giveUp3 {a1 : Int32} (h : AC A (f_X9_giveUp a1) (.inr 3) A') : AC A (f_L_giveUp a1) (-9000000000000000001) A' := fun g hg => by
  obtain ⟨g', e, i⟩ := h g hg
  refine ⟨g', ?_, i⟩
  unfold f_L_giveUp
  rw [e]; rfl
theorem w_move {a1 : Int32} {a2 : Int32} {a3 : Int32} (h : AC A (f_X9_move a1 a2 a3) (.inl r) A') : AC A (f_L_move a1 a2 a3) r.toInt64 A' := fun g hg => by
  obtain ⟨g', e, i⟩ := h g hg
  refine ⟨g', ?_, i⟩
  unfold f_L_move
  rw [e]; rfl
theorem w_move1 {a1 : Int32} {a2 : Int32} {a3 : Int32} (h : AC A (f_X9_move a1 a2 a3) (.inr 1) A') : AC A (f_L_move a1 a2 a3) (-9000000000000000002) A' := fun g hg => by
  obtain ⟨g', e, i⟩ := h g hg
  refine ⟨g', ?_, i⟩
  unfold f_L_move
  rw [e]; rfl
theorem w_move3 {a1 : Int32} {a2 : Int32} {a3 : Int32} (h : AC A (f_X9_move a1 a2 a3) (.inr 3) A') : AC A (f_L_move a1 a2 a3) (-9000000000000000001) A' := fun g hg => by
  obtain ⟨g', e, i⟩ := h g hg
  refine ⟨g', ?_, i⟩
  unfold f_L_move
  rw [e]; rfl
theorem w_ease {a1 : Int32} (h : AC A (f_X9_ease a1) (.inl r) A') : AC A (f_L_ease a1) r.toInt64 A' := fun g hg => by
  obtain ⟨g', e, i⟩ := h g hg
  refine ⟨g', ?_, i⟩
  unfold f_L_ease
  rw [e]; rfl
theorem w_ease3 {a1 : Int32} (h : AC A (f_X9_ease a1) (.inr 3) A') : AC A (f_L_ease a1) (-9000000000000000001) A' := fun g hg => by
  obtain ⟨g', e, i⟩ := h g hg
  refine ⟨g', ?_, i⟩
  unfold f_L_ease
  rw [e]; rfl
theorem w_undo  (h : AC A f_X9_undo (.inl r) A') : AC A f_L_undo r.toInt64 A' := fun g hg => by
  obtain ⟨g', e, i⟩ := h g hg
  refine ⟨g', ?_, i⟩
  unfold f_L_undo
  rw [e]; rfl
theorem w_undo2  (h : AC A f_X9_undo (.inr 2) A') : AC A f_L_undo (-9000000000000000003) A' := fun g hg => by
  obtain ⟨g', e, i⟩ := h g hg
  refine ⟨g', ?_, i⟩
  unfold f_L_undo
  rw [e]; rfl
theorem w_shortest {a1 : Int32} {a2 : Int32} (h : AC A (f_X9_shortest a1 a2) (.inl r) A') : AC A (f_L_shortest a1 a2) r.toInt64 A' := fun g hg => by
  obtain ⟨g', e, i⟩ := h g hg
  refine ⟨g', ?_, i⟩
  unfold f_L_shortest
  rw [e]; rfl
theorem w_shortest1 {a1 : Int32} {a2 : Int32} (h : AC A (f_X9_shortest a1 a2) (.inr 1) A') : AC A (f_L_shortest a1 a2) (-9000000000000000002) A' := fun g hg => by
  obtain ⟨g', e, i⟩ := h g hg
  refine ⟨g', ?_, i⟩
  unfold f_L_shortest
  rw [e]; rfl
theorem w_shortest3 {a1 : Int32} {a2 : Int32} (h : AC A (f_X9_shortest a1 a2) (.inr 3) A') : AC A (f_L_shortest a1 a2) (-9000000000000000001) A' := fun g hg => by
  obtain ⟨g', e, i⟩ := h g hg
  refine ⟨g', ?_, i⟩
  unfold f_L_shortest
  rw [e]; rfl
theorem w_quickest {a1 : Int32} {a2 : Int32} (h : AC A (f_X9_quickest a1 a2) (.inl r) A') : AC A (f_L_quickest a1 a2) r.toInt64 A' := fun g hg => by
  obtain ⟨g', e, i⟩ := h g hg
  refine ⟨g', ?_, i⟩
  unfold f_L_quickest
  rw [e]; rfl
theorem w_quickest1 {a1 : Int32} {a2 : Int32} (h : AC A (f_X9_quickest a1 a2) (.inr 1) A') : AC A (f_L_quickest a1 a2) (-9000000000000000002) A' := fun g hg => by
  obtain ⟨g', e, i⟩ := h g hg
  refine ⟨g', ?_, i⟩
  unfold f_L_quickest
  rw [e]; rfl
theorem w_quickest3 {a1 : Int32} {a2 : Int32} (h : AC A (f_X9_quickest a1 a2) (.inr 3) A') : AC A (f_L_quickest a1 a2) (-9000000000000000001) A' := fun g hg => by
  obtain ⟨g', e, i⟩ := h g hg
  refine ⟨g', ?_, i⟩
  unfold f_L_quickest
  rw [e]; rfl
theorem w_orders {a1 : Int32} (h : AC A (f_X9_orders a1) (.inl r) A') : AC A (f_L_orders a1) r.toInt64 A' := fun g hg => by
  obtain ⟨g', e, i⟩ := h g hg
  refine ⟨g', ?_, i⟩
  unfold f_L_orders
  rw [e]; rfl
theorem w_orders3 {a1 : Int32} (h : AC A (f_X9_orders a1) (.inr 3) A') : AC A (f_L_orders a1) (-9000000000000000001) A' := fun g hg => by
  obtain ⟨g', e, i⟩ := h g hg
  refine ⟨g', ?_, i⟩
  unfold f_L_orders
  rw [e]; rfl
theorem w_safe {a1 : Int32} (h : AC A (f_X9_safe a1) (.inl r) A') : AC A (f_L_safe a1) r.toInt64 A' := fun g hg => by
  obtain ⟨g', e, i⟩ := h g hg
  refine ⟨g', ?_, i⟩
  unfold f_L_safe
  rw [e]; rfl
theorem w_safe3 {a1 : Int32} (h : AC A (f_X9_safe a1) (.inr 3) A') : AC A (f_L_safe a1) (-9000000000000000001) A' := fun g hg => by
  obtain ⟨g', e, i⟩ := h g hg
  refine ⟨g', ?_, i⟩
  unfold f_L_safe
  rw [e]; rfl
theorem w_needed {a1 : Int32} (h : AC A (f_X9_needed a1) (.inl r) A') : AC A (f_L_needed a1) r.toInt64 A' := fun g hg => by
  obtain ⟨g', e, i⟩ := h g hg
  refine ⟨g', ?_, i⟩
  unfold f_L_needed
  rw [e]; rfl
theorem w_needed3 {a1 : Int32} (h : AC A (f_X9_needed a1) (.inr 3) A') : AC A (f_L_needed a1) (-9000000000000000001) A' := fun g hg => by
  obtain ⟨g', e, i⟩ := h g hg
  refine ⟨g', ?_, i⟩
  unfold f_L_needed
  rw [e]; rfl
theorem w_script {a1 : Int32} {a2 : Int64} (h : AC A (f_X9_runScript a1 a2) (.inl r) A') : AC A (f_L_script a1 a2) r.toInt64 A' := fun g hg => by
  obtain ⟨g', e, i⟩ := h g hg
  refine ⟨g', ?_, i⟩
  unfold f_L_script
  rw [e]; rfl
theorem w_script1 {a1 : Int32} {a2 : Int64} (h : AC A (f_X9_runScript a1 a2) (.inr 1) A') : AC A (f_L_script a1 a2) (-9000000000000000002) A' := fun g hg => by
  obtain ⟨g', e, i⟩ := h g hg
  refine ⟨g', ?_, i⟩
  unfold f_L_script
  rw [e]; rfl
theorem w_simulate {a1 : Int64} {a3 : Int32} (h : AC A (f_X9_simulate a1 a3) (.inl r) A') : AC A (f_L_simulate a1 a3) r.toInt64 A' := fun g hg => by
  obtain ⟨g', e, i⟩ := h g hg
  refine ⟨g', ?_, i⟩
  unfold f_L_simulate
  rw [e]; rfl
theorem w_simulate1 {a1 : Int64} {a3 : Int32} (h : AC A (f_X9_simulate a1 a3) (.inr 1) A') : AC A (f_L_simulate a1 a3) (-9000000000000000002) A' := fun g hg => by
  obtain ⟨g', e, i⟩ := h g hg
  refine ⟨g', ?_, i⟩
  unfold f_L_simulate
  rw [e]; rfl
theorem w_save {a1 : Int32} (h : AC A (f_X9_save a1) (.inl r) A') : AC A (f_L_save a1) r.toInt64 A' := fun g hg => by
  obtain ⟨g', e, i⟩ := h g hg
  refine ⟨g', ?_, i⟩
  unfold f_L_save
  rw [e]; rfl
theorem w_save3 {a1 : Int32} (h : AC A (f_X9_save a1) (.inr 3) A') : AC A (f_L_save a1) (-9000000000000000001) A' := fun g hg => by
  obtain ⟨g', e, i⟩ := h g hg
  refine ⟨g', ?_, i⟩
  unfold f_L_save
  rw [e]; rfl
theorem w_restore {a1 : Int32} (h : AC A (f_X9_restore a1) (.inl r) A') : AC A (f_L_restore a1) r.toInt64 A' := fun g hg => by
  obtain ⟨g', e, i⟩ := h g hg
  refine ⟨g', ?_, i⟩
  unfold f_L_restore
  rw [e]; rfl
theorem w_restore2 {a1 : Int32} (h : AC A (f_X9_restore a1) (.inr 2) A') : AC A (f_L_restore a1) (-9000000000000000003) A' := fun g hg => by
  obtain ⟨g', e, i⟩ := h g hg
  refine ⟨g', ?_, i⟩
  unfold f_L_restore
  rw [e]; rfl
theorem w_restore3 {a1 : Int32} (h : AC A (f_X9_restore a1) (.inr 3) A') : AC A (f_L_restore a1) (-9000000000000000001) A' := fun g hg => by
  obtain ⟨g', e, i⟩ := h g hg
  refine ⟨g', ?_, i⟩
  unfold f_L_restore
  rw [e]; rfl
theorem w_holds {a1 a2 : Int32} {b : Bool} (h : AC A (f_X9_holds a1 a2) (.inl (b2 b)) A') : AC A (f_L_holds a1 a2) (if b = true then 1 else 0) A' := fun g hg => by
  obtain ⟨g', e, i⟩ := h g hg
  refine ⟨g', ?_, i⟩
  unfold f_L_holds
  rw [e, gXh_l]
  cases b with
  | true => rw [b2_t, if_neg one0]; rfl
  | false => rw [b2_f, if_pos zero0]; rfl
theorem w_holds3 {a1 a2 : Int32} (h : AC A (f_X9_holds a1 a2) (.inr 3) A') : AC A (f_L_holds a1 a2) (-9000000000000000001) A' := fun g hg => by
  obtain ⟨g', e, i⟩ := h g hg
  refine ⟨g', ?_, i⟩
  unfold f_L_holds
  rw [e]; rfl
theorem w_holds1 {a1 a2 : Int32} (h : AC A (f_X9_holds a1 a2) (.inr 1) A') : AC A (f_L_holds a1 a2) (-9000000000000000002) A' := fun g hg => by
  obtain ⟨g', e, i⟩ := h g hg
  refine ⟨g', ?_, i⟩
  unfold f_L_holds
  rw [e]; rfl
theorem smod_p : ∀ p, p < 63 → ((lN p).toBitVec.smod 64).toNat = p := by decide +kernel
theorem shr_bit {x p : Nat} (hx : x < 2 ^ 30) (hp : p < 63) : (lN x >>> ((nI p).toInt64 &&& 63)) &&& (1 : Int64) = lN (if x.testBit p = true then 1 else 0) := by
  rw [wb_c p (by omega), pf_shr (a := x) (d := p) (smod_p p hp) (by omega), wb_a1 (by have := Nat.div_le_self x (2 ^ p); omega)]
  rw [Nat.testBit_eq_decide_div_mod_eq]
  congr 1
  have := Nat.mod_two_eq_zero_or_one (x / 2 ^ p)
  by_cases e : x / 2 ^ p % 2 = 1
  · rw [decide_eq_true e, if_pos rfl, e]
  · rw [decide_eq_false e, if_neg (by decide)]; omega
theorem has_if (b : Bool) (g : gG) : (if lg_cmp (lN (if b = true then 1 else 0)) (1 : Int64) = (0 : Int32) then (some ((1 : Int32), g)) else (some ((0 : Int32), g))) = some (b2 b, g) := by
  cases b with
  | true => exact if_pos (by decide)
  | false => exact if_neg (by decide)
theorem lcmp_eq {a b : Nat} (ha : a < 2 ^ 63) (hb : b < 2 ^ 63) : (lg_cmp (lN a) (lN b) = 0) ↔ a = b := by rw [lg_cmp_eq, pk_lEQ ha hb]
theorem lcmp_lt {a b : Nat} (ha : a < 2 ^ 63) (hb : b < 2 ^ 63) : (lg_cmp (lN a) (lN b) < 0) ↔ a < b := by rw [lg_cmp_lt, pk_lLT ha hb]
theorem lcmp_gt {a b : Nat} (ha : a < 2 ^ 63) (hb : b < 2 ^ 63) : (0 < lg_cmp (lN a) (lN b)) ↔ b < a := by rw [lg_cmp_gt, pk_lLT hb ha]
theorem lcmp_le {a b : Nat} (ha : a < 2 ^ 63) (hb : b < 2 ^ 63) : (lg_cmp (lN a) (lN b) ≤ 0) ↔ a ≤ b := by
  constructor
  · intro h
    by_cases h2 : b < a
    · have h3 := (lcmp_gt ha hb).mpr h2
      have a1 := Int32.le_iff_toInt_le.mp h
      have a2 := Int32.lt_iff_toInt_lt.mp h3
      omega
    · omega
  · intro h
    by_cases h2 : 0 < lg_cmp (lN a) (lN b)
    · have := (lcmp_gt ha hb).mp h2
      omega
    · exact fa_of_nlt h2
theorem lcmp_ge {a b : Nat} (ha : a < 2 ^ 63) (hb : b < 2 ^ 63) : (0 ≤ lg_cmp (lN a) (lN b)) ↔ b ≤ a := by
  constructor
  · intro h
    by_cases h2 : a < b
    · have h3 := (lcmp_lt ha hb).mpr h2
      have a1 := Int32.le_iff_toInt_le.mp h
      have a2 := Int32.lt_iff_toInt_lt.mp h3
      omega
    · omega
  · intro h
    by_cases h2 : lg_cmp (lN a) (lN b) < 0
    · have := (lcmp_lt ha hb).mp h2
      omega
    · exact fa_of_nlt h2
theorem L_has {x p : Nat} (hx : x < 2 ^ 30) (hp : p < 63) : AC A (f_L_has (lN x) (nI p)) (b2 (x.testBit p)) A := fun g hg => by
  refine ⟨g, ?_, hg⟩
  unfold f_L_has
  rw [shr_bit hx hp]
  exact has_if _ g
theorem L_in (a l h : Int64) : AC A (f_L_in a l h) (b2 (decide (l.toInt ≤ a.toInt ∧ a.toInt ≤ h.toInt))) A := fun g hg => by
  refine ⟨g, ?_, hg⟩
  unfold f_L_in
  by_cases h1 : a.toInt < l.toInt
  · have e1 : lg_cmp a l < 0 := by rw [lg_cmp_lt, Int64.lt_iff_toInt_lt]; exact h1
    have e2 : decide (l.toInt ≤ a.toInt ∧ a.toInt ≤ h.toInt) = false := by
      rw [decide_eq_false_iff_not]; omega
    rw [if_pos e1, e2, b2_f]
  · have e1 : ¬ (lg_cmp a l < 0) := by rw [lg_cmp_lt, Int64.lt_iff_toInt_lt]; exact h1
    rw [if_neg e1]
    by_cases h3 : h.toInt < a.toInt
    · have e3 : 0 < lg_cmp a h := by rw [lg_cmp_gt, Int64.lt_iff_toInt_lt]; exact h3
      have e2 : decide (l.toInt ≤ a.toInt ∧ a.toInt ≤ h.toInt) = false := by
        rw [decide_eq_false_iff_not]; omega
      rw [if_pos e3, e2, b2_f]
    · have e3 : ¬ (0 < lg_cmp a h) := by rw [lg_cmp_gt, Int64.lt_iff_toInt_lt]; exact h3
      have e2 : decide (l.toInt ≤ a.toInt ∧ a.toInt ≤ h.toInt) = true := by
        rw [decide_eq_true_iff]; omega
      rw [if_neg e3, e2, b2_t]
theorem L_inN {a l h : Nat} (ha : a < 2 ^ 63) (hl : l < 2 ^ 63) (hh : h < 2 ^ 63) : AC A (f_L_in (lN a) (lN l) (lN h)) (b2 (decide (l ≤ a ∧ a ≤ h))) A := by
  have e := L_in (A := A) (lN a) (lN l) (lN h)
  rw [pf_lI ha, pf_lI hl, pf_lI hh] at e
  have e2 : decide ((l : Int) ≤ a ∧ (a : Int) ≤ h) = decide (l ≤ a ∧ a ≤ h) := decide_eq_decide.mpr (by omega)
  rw [e2] at e
  exact e
theorem L_many_l {x : Nat} (hx : x < 2 ^ 30) (d : Nat) : ∀ i c fu (g : gG), i + d = 10 → d < fu → fb_L_many_4 fu (lN x) (nI c) (nI i) g = some (nI (c + (cnt (fun i => x.testBit i) 10 - cnt (fun i => x.testBit i) i)), g) := by
  induction d with
  | zero =>
    intro i c fu g hi hf
    obtain ⟨fu, rfl⟩ : ∃ f', fu = f' + 1 := ⟨fu - 1, by omega⟩
    have e : i = 10 := by omega
    subst e
    unfold fb_L_many_4 fs_L_many_4
    rw [if_pos (show (10 : Int32) ≤ nI 10 by decide), Nat.sub_self]
    rfl
  | succ d ih =>
    intro i c fu g hi hf
    obtain ⟨fu, rfl⟩ : ∃ f', fu = f' + 1 := ⟨fu - 1, by omega⟩
    have hm := cnt_mono (fun i => x.testBit i) (show i + 1 ≤ 10 by omega)
    unfold fb_L_many_4 fs_L_many_4
    rw [if_neg (show ¬ ((10 : Int32) ≤ nI i) from nI_ge (b := 10) (by omega) (by decide))]
    have eh : f_L_has (lN x) (nI i) g = some (b2 (x.testBit i), g) := by
      unfold f_L_has
      rw [shr_bit hx (by omega)]
      exact has_if _ g
    rw [eh]
    simp only [ob_eq]
    have es : cnt (fun i => x.testBit i) (i + 1) = cnt (fun i => x.testBit i) i + (if x.testBit i = true then 1 else 0) := rfl
    unfold fs_L_many_24
    simp only [gl_eq, nI_1]
    cases ec : x.testBit i with
    | true =>
      rw [ec, if_pos rfl] at es
      rw [b2_t, if_neg one0, ih (i + 1) (c + 1) fu g (by omega) (by omega)]
      congr 3
      omega
    | false =>
      rw [ec, if_neg (by decide)] at es
      rw [b2_f, if_pos zero0, show nI c + (0 : Int32) = nI c from nI_add c 0, ih (i + 1) c fu g (by omega) (by omega)]
      congr 3
      omega
theorem L_many {x : Nat} (hx : x < 2 ^ 30) : AC A (f_L_many (lN x)) (nI (cnt (fun i => x.testBit i) 10)) A := fun g hg => by
  refine ⟨g, ?_, hg⟩
  unfold f_L_many
  have h := L_many_l hx 10 0 0 gFuel g (by omega) (by unfold gFuel; omega)
  rw [show cnt (fun i => x.testBit i) 0 = 0 from rfl, Nat.sub_zero, Nat.zero_add] at h
  exact h
end WR
