/-! PURE: how many places a set has. -/
def bcI (x : Int32) : Int32 :=
  let x1 := x - ((x.toUInt32 >>> ((1 : Int32).toUInt32 &&& Int32.toUInt32 31)).toInt32 &&& (1431655765 : Int32))
  let x2 := (x1 &&& (858993459 : Int32)) + ((x1.toUInt32 >>> ((2 : Int32).toUInt32 &&& Int32.toUInt32 31)).toInt32 &&& (858993459 : Int32))
  let x3 := (x2 + (x2.toUInt32 >>> ((4 : Int32).toUInt32 &&& Int32.toUInt32 31)).toInt32) &&& (252645135 : Int32)
  let x4 := x3 + (x3.toUInt32 >>> ((8 : Int32).toUInt32 &&& Int32.toUInt32 31)).toInt32
  let x5 := x4 + (x4.toUInt32 >>> ((16 : Int32).toUInt32 &&& Int32.toUInt32 31)).toInt32
  x5 &&& (63 : Int32)
theorem bc_f (x : Int32) (g : gG) : f_J6_bitCount_0f7a4 x g = some (bcI x, g) := by
  unfold f_J6_bitCount_0f7a4 bcI
  simp only [gl_eq]
theorem bc_n : ∀ k, k < 1024 → bcI (nI k) = nI (cnt (fun i => k.testBit i) 10) := by decide +kernel
theorem c_count {s : Nat} (hs : s < 1024) (g : gG) : f_J6_bitCount_0f7a4 (nI s) g = some (nI (cnt (fun i => s.testBit i) 10), g) := by
  rw [bc_f, bc_n s hs]
theorem bit_b2 {s p : Nat} (hs : s < 2 ^ 31) (hp : p < 31) : (nI s >>> (nI p &&& 31)) &&& 1 = nI (if s.testBit p = true then 1 else 0) := by
  cases e : s.testBit p with
  | true =>
    have h : (nI s >>> (nI p &&& 31)) &&& 1 = 1 := (nI_test (by omega)).mpr e
    rw [h, if_pos rfl]; rfl
  | false =>
    have h : (nI s >>> (nI p &&& 31)) &&& 1 = 0 := (nI_test0 hs hp).mpr e
    rw [h, if_neg (by decide)]; rfl
