def f_X6_isFull   (g : gG) : Option (Int32 × gG) :=
  if (g.1 1 1) < (120 : Int32) then (some ((0 : Int32), g)) else (some ((1 : Int32), g))
def f_X6_add  (a1 : Int32) (g : gG) : Option (Int32 × gG) :=
  if (120 : Int32) ≤ (g.1 1 1) then (some ((g.1 1 1), g)) else (if inb (g.1 1 1) 120 = true then gLet (gI1 g 2 (g.1 1 1).toNatClampNeg (vp_nar .char ((a1.toUInt32 % 65536).toInt32))) (fun g2 => gLet (gI1 g2 1 1 ((g2.1 1 1) + (1 : Int32))) (fun g3 => some ((g3.1 1 1), g3))) else none)
def f_X6_empty   (g : gG) : Option (Int32 × gG) :=
  gLet (g.1 1 1) (fun x1 => gLet (gI1 g 1 1 (0 : Int32)) (fun g2 => some (x1, g2)))
def f_X6_length   (g : gG) : Option (Int32 × gG) :=
  some ((g.1 1 1), g)
def f_X6_signAt  (a1 : Int32) (g : gG) : Option (Int32 × gG) :=
  if a1 < (0 : Int32) then (if gCb (0 : Int32) = true then some ((0 : Int32), g) else none) else (if (g.1 1 1) ≤ a1 then (if gCb (0 : Int32) = true then some ((0 : Int32), g) else none) else (if inb a1 120 = true then if gCb (g.1 2 a1.toNatClampNeg) = true then some ((g.1 2 a1.toNatClampNeg), g) else none else none))
def f_X2_beginsPlace   (g : gG) : Option (Int32 × gG) :=
  if (g.1 3 10) < (10 : Int32) then (gLet (gI1 g 3 10 ((g.1 3 10) + (1 : Int32))) (fun g2 => gLet (gI1 g2 3 11 (2 : Int32)) (fun g3 => some ((1 : Int32), g3)))) else (some ((0 : Int32), g))
def f_X7_clear   (g : gG) : Option (Unit × gG) :=
  gLet (gI1 g 4 1 (0 : Int32)) (fun g1 => some ((), g1))
def f_X2_beginConditions  (a1 : Int32) (g : gG) : Option (Unit × gG) :=
  if inb (g.1 3 9) 121 = true then gLet (gI1 g 9 (g.1 3 9).toNatClampNeg a1) (fun g1 => if inb (g1.1 3 9) 121 = true then gLet (gI1 g1 10 (g1.1 3 9).toNatClampNeg (0 : Int32)) (fun g2 => if inb (g2.1 3 9) 121 = true then gLet (gI1 g2 11 (g2.1 3 9).toNatClampNeg (vp_nar .boolean (0 : Int32))) (fun g3 => if inb (g3.1 3 9) 121 = true then gLet (gI1 g3 12 (g3.1 3 9).toNatClampNeg (vp_nar .boolean (0 : Int32))) (fun g4 => if inb (g4.1 3 9) 121 = true then gLet (gI1 g4 13 (g4.1 3 9).toNatClampNeg (vp_nar .boolean (0 : Int32))) (fun g5 => some ((), g5)) else none) else none) else none) else none) else none
def f_X2_takesCoordinate  (a1 : Int32) (g : gG) : Option (Int32 × gG) :=
  if a1 < (48 : Int32) then (some ((0 : Int32), g)) else (if a1 ≤ (57 : Int32) then (if (g.1 3 11) = (2 : Int32) then (if inb ((g.1 3 10) - (1 : Int32)) 10 = true then gLet (gI1 g 6 ((g.1 3 10) - (1 : Int32)).toNatClampNeg (a1 - (48 : Int32))) (fun g9 => gLet (gI1 g9 3 11 (3 : Int32)) (fun g10 => some ((1 : Int32), g10))) else none) else (if inb ((g.1 3 10) - (1 : Int32)) 10 = true then gLet (gI1 g 7 ((g.1 3 10) - (1 : Int32)).toNatClampNeg (a1 - (48 : Int32))) (fun g4 => (f_X7_clear g4).bind (fun u5 => gLet (gI1 u5.2 3 9 (0 : Int32)) (fun g6 => (f_X2_beginConditions (0 : Int32) g6).bind (fun u7 => gLet (gI1 u7.2 3 11 (4 : Int32)) (fun g8 => some ((1 : Int32), g8)))))) else none)) else (some ((0 : Int32), g)))
def f_X2_nests  (a1 : Int32) (a2 : Int32) (g : gG) : Option (Int32 × gG) :=
  if (g.1 3 9) < (120 : Int32) then (gLet (gI1 g 3 9 ((g.1 3 9) + (1 : Int32))) (fun g2 => (f_X2_beginConditions a1 g2).bind (fun u3 => gLet (gI1 u3.2 3 11 a2) (fun g4 => some ((1 : Int32), g4))))) else (some ((0 : Int32), g))
def fs_X7_pushAlways_12 (F12 : Int32 → gG → Option (Unit × gG)) (l1 : Int32) (g : gG) : Option (Unit × gG) :=
  if (8 : Int32) ≤ l1 then (gLet (gI1 g 4 1 ((g.1 4 1) + (1 : Int32))) (fun g2 => some ((), g2))) else (if inb (((g.1 4 1) * (8 : Int32)) + l1) 960 = true then gLet (gL1 g 5 (((g.1 4 1) * (8 : Int32)) + l1).toNatClampNeg (-1 : Int64)) (fun g3 => gLet (l1 + (1 : Int32)) (fun x4 => F12 x4 g3)) else none)
def fb_X7_pushAlways_12  : Nat → Int32 → gG → Option (Unit × gG)
  | 0 => fun _ _ => none
  | n + 1 => fs_X7_pushAlways_12 (fb_X7_pushAlways_12 n)
def f_X7_pushAlways   (g : gG) : Option (Unit × gG) :=
  if (g.1 4 1) < (120 : Int32) then (fb_X7_pushAlways_12 gFuel (0 : Int32) g) else (some ((), g))
def f_X9_isIn  (a0 : Int32) (a1 : Int32) (g : gG) : Option (Int32 × gG) :=
  if ((a1 >>> (a0 &&& 31)) &&& (1 : Int32)) = (0 : Int32) then (some ((0 : Int32), g)) else (some ((1 : Int32), g))
def f_X7_visitedIn  (a0 : Int32) (a1 : Int32) (g : gG) : Option (Int64 × gG) :=
  if (6 : Int32) ≤ a0 then ((f_X9_isIn (a0 - (6 : Int32)) a1 g).bind (fun u2 => if u2.1 = (0 : Int32) then (some ((0 : Int64), u2.2)) else (some ((-1 : Int64), u2.2)))) else (if inb a0 6 = true then some ((gVis a0.toNatClampNeg), g) else none)
def fs_X7_pushVisited_16 (F16 : Int32 → Int32 → gG → Option (Unit × gG)) (l1 : Int32) (l2 : Int32) (g : gG) : Option (Unit × gG) :=
  if (8 : Int32) ≤ l2 then (gLet (gI1 g 4 1 ((g.1 4 1) + (1 : Int32))) (fun g2 => some ((), g2))) else ((f_X7_visitedIn l1 l2 g).bind (fun u3 => if inb (((g.1 4 1) * (8 : Int32)) + l2) 960 = true then gLet (gL1 u3.2 5 (((g.1 4 1) * (8 : Int32)) + l2).toNatClampNeg u3.1) (fun g4 => gLet (l2 + (1 : Int32)) (fun x5 => F16 l1 x5 g4)) else none))
def fb_X7_pushVisited_16  : Nat → Int32 → Int32 → gG → Option (Unit × gG)
  | 0 => fun _ _ _ => none
  | n + 1 => fs_X7_pushVisited_16 (fb_X7_pushVisited_16 n)
def f_X7_pushVisited  (a1 : Int32) (g : gG) : Option (Unit × gG) :=
  if (120 : Int32) ≤ (g.1 4 1) then (some ((), g)) else (if (0 : Int32) ≤ a1 then (fb_X7_pushVisited_16 gFuel a1 (0 : Int32) g) else (some ((), g)))
def fs_X7_negate_21 (F21 : Int32 → Int32 → gG → Option (Unit × gG)) (l1 : Int32) (l2 : Int32) (g : gG) : Option (Unit × gG) :=
  if (8 : Int32) ≤ l2 then (some ((), g)) else (if inb (l1 + l2) 960 = true then if inb (l1 + l2) 960 = true then gLet (gL1 g 5 (l1 + l2).toNatClampNeg ((g.2 5 (l1 + l2).toNatClampNeg) ^^^ (-1 : Int64))) (fun g2 => gLet (l2 + (1 : Int32)) (fun x3 => F21 l1 x3 g2)) else none else none)
def fb_X7_negate_21  : Nat → Int32 → Int32 → gG → Option (Unit × gG)
  | 0 => fun _ _ _ => none
  | n + 1 => fs_X7_negate_21 (fb_X7_negate_21 n)
def f_X7_negate   (g : gG) : Option (Unit × gG) :=
  if (1 : Int32) ≤ (g.1 4 1) then (gLet (((g.1 4 1) - (1 : Int32)) * (8 : Int32)) (fun x2 => fb_X7_negate_21 gFuel x2 (0 : Int32) g)) else (some ((), g))
def fs_X7_joinByAnd_21 (F21 : Int32 → gG → Option (Unit × gG)) (l1 : Int32) (g : gG) : Option (Unit × gG) :=
  if (8 : Int32) ≤ l1 then (some ((), g)) else (if inb ((((g.1 4 1) - (1 : Int32)) * (8 : Int32)) + l1) 960 = true then if inb (((g.1 4 1) * (8 : Int32)) + l1) 960 = true then if inb ((((g.1 4 1) - (1 : Int32)) * (8 : Int32)) + l1) 960 = true then gLet (gL1 g 5 ((((g.1 4 1) - (1 : Int32)) * (8 : Int32)) + l1).toNatClampNeg ((g.2 5 ((((g.1 4 1) - (1 : Int32)) * (8 : Int32)) + l1).toNatClampNeg) &&& (g.2 5 (((g.1 4 1) * (8 : Int32)) + l1).toNatClampNeg))) (fun g2 => gLet (l1 + (1 : Int32)) (fun x3 => F21 x3 g2)) else none else none else none)
def fb_X7_joinByAnd_21  : Nat → Int32 → gG → Option (Unit × gG)
  | 0 => fun _ _ => none
  | n + 1 => fs_X7_joinByAnd_21 (fb_X7_joinByAnd_21 n)
def f_X7_joinByAnd   (g : gG) : Option (Unit × gG) :=
  if (2 : Int32) ≤ (g.1 4 1) then (gLet (gI1 g 4 1 ((g.1 4 1) - (1 : Int32))) (fun g2 => fb_X7_joinByAnd_21 gFuel (0 : Int32) g2)) else (some ((), g))
def fs_X2_endPart_48   (g : gG) : Option (Unit × gG) :=
  if inb (g.1 3 9) 121 = true then gLet (gI1 g 12 (g.1 3 9).toNatClampNeg (vp_nar .boolean (1 : Int32))) (fun g1 => gLet (gI1 g1 3 11 (6 : Int32)) (fun g2 => some ((), g2))) else none
def fs_X2_endPart_29   (g : gG) : Option (Unit × gG) :=
  if inb (g.1 3 9) 121 = true then if (g.1 12 (g.1 3 9).toNatClampNeg) = (0 : Int32) then (fs_X2_endPart_48 g) else ((f_X7_joinByAnd g).bind (fun u2 => fs_X2_endPart_48 u2.2)) else none
def f_X2_endPart   (g : gG) : Option (Unit × gG) :=
  if inb (g.1 3 9) 121 = true then if (g.1 11 (g.1 3 9).toNatClampNeg) = (0 : Int32) then (fs_X2_endPart_29 g) else ((f_X7_negate g).bind (fun u2 => if inb (u2.2.1 3 9) 121 = true then gLet (gI1 u2.2 11 (u2.2.1 3 9).toNatClampNeg (vp_nar .boolean (0 : Int32))) (fun g3 => fs_X2_endPart_29 g3) else none)) else none
def fs_X2_takesPart_120   (g : gG) : Option (Int32 × gG) :=
  (f_X2_endPart g).bind (fun u1 => some ((1 : Int32), u1.2))
def fs_X2_takesPart_69  (l1 : Int32) (g : gG) : Option (Int32 × gG) :=
  if l1 = (42 : Int32) then ((f_X7_pushAlways g).bind (fun u5 => fs_X2_takesPart_120 u5.2)) else (if l1 < (97 : Int32) then (some ((0 : Int32), g)) else (if (((97 : Int32) + (g.1 3 10)) - (1 : Int32)) ≤ l1 then (some ((0 : Int32), g)) else ((f_X7_pushVisited (l1 - (97 : Int32)) g).bind (fun u4 => fs_X2_takesPart_120 u4.2))))
def f_X2_takesPart  (a1 : Int32) (g : gG) : Option (Int32 × gG) :=
  if a1 = (33 : Int32) then (if inb (g.1 3 9) 121 = true then if (g.1 11 (g.1 3 9).toNatClampNeg) = (0 : Int32) then (if inb (g.1 3 9) 121 = true then gLet (gI1 g 11 (g.1 3 9).toNatClampNeg (vp_nar .boolean (1 : Int32))) (fun g9 => some ((1 : Int32), g9)) else none) else (if inb (g.1 3 9) 121 = true then gLet (gI1 g 11 (g.1 3 9).toNatClampNeg (vp_nar .boolean (0 : Int32))) (fun g8 => some ((1 : Int32), g8)) else none) else none) else (if a1 = (40 : Int32) then ((f_X2_nests (0 : Int32) (4 : Int32) g).bind (fun u6 => if gZb u6.1 = true then some (u6.1, u6.2) else none)) else (if a1 < (49 : Int32) then (fs_X2_takesPart_69 a1 g) else (if (52 : Int32) < a1 then (fs_X2_takesPart_69 a1 g) else ((f_X2_nests (a1 - (48 : Int32)) (5 : Int32) g).bind (fun u5 => if gZb u5.1 = true then some (u5.1, u5.2) else none)))))
def fs_X7_joinByOr_21 (F21 : Int32 → gG → Option (Unit × gG)) (l1 : Int32) (g : gG) : Option (Unit × gG) :=
  if (8 : Int32) ≤ l1 then (some ((), g)) else (if inb ((((g.1 4 1) - (1 : Int32)) * (8 : Int32)) + l1) 960 = true then if inb (((g.1 4 1) * (8 : Int32)) + l1) 960 = true then if inb ((((g.1 4 1) - (1 : Int32)) * (8 : Int32)) + l1) 960 = true then gLet (gL1 g 5 ((((g.1 4 1) - (1 : Int32)) * (8 : Int32)) + l1).toNatClampNeg ((g.2 5 ((((g.1 4 1) - (1 : Int32)) * (8 : Int32)) + l1).toNatClampNeg) ||| (g.2 5 (((g.1 4 1) * (8 : Int32)) + l1).toNatClampNeg))) (fun g2 => gLet (l1 + (1 : Int32)) (fun x3 => F21 x3 g2)) else none else none else none)
def fb_X7_joinByOr_21  : Nat → Int32 → gG → Option (Unit × gG)
  | 0 => fun _ _ => none
  | n + 1 => fs_X7_joinByOr_21 (fb_X7_joinByOr_21 n)
def f_X7_joinByOr   (g : gG) : Option (Unit × gG) :=
  if (2 : Int32) ≤ (g.1 4 1) then (gLet (gI1 g 4 1 ((g.1 4 1) - (1 : Int32))) (fun g2 => fb_X7_joinByOr_21 gFuel (0 : Int32) g2)) else (some ((), g))
def fs_X2_endGroup_19   (g : gG) : Option (Unit × gG) :=
  if inb (g.1 3 9) 121 = true then gLet (gI1 g 13 (g.1 3 9).toNatClampNeg (vp_nar .boolean (1 : Int32))) (fun g1 => if inb (g1.1 3 9) 121 = true then gLet (gI1 g1 12 (g1.1 3 9).toNatClampNeg (vp_nar .boolean (0 : Int32))) (fun g2 => some ((), g2)) else none) else none
def f_X2_endGroup   (g : gG) : Option (Unit × gG) :=
  if inb (g.1 3 9) 121 = true then if (g.1 13 (g.1 3 9).toNatClampNeg) = (0 : Int32) then (fs_X2_endGroup_19 g) else ((f_X7_joinByOr g).bind (fun u2 => fs_X2_endGroup_19 u2.2)) else none
def f_X2_endCondition   (g : gG) : Option (Unit × gG) :=
  (f_X2_endGroup g).bind (fun u1 => if inb (u1.2.1 3 9) 121 = true then gLet (gI1 u1.2 13 (u1.2.1 3 9).toNatClampNeg (vp_nar .boolean (0 : Int32))) (fun g2 => if inb (g2.1 3 9) 121 = true then if inb (g2.1 3 9) 121 = true then gLet (gI1 g2 10 (g2.1 3 9).toNatClampNeg ((g2.1 10 (g2.1 3 9).toNatClampNeg) + (1 : Int32))) (fun g3 => some ((), g3)) else none else none) else none)
def fs_X7_atLeast_15 (F15 : Int32 → Int32 → Int64 → Int64 → Int64 → Int64 → Int32 → gG → Option (Int64 × gG)) (l1 : Int32) (l3 : Int32) (l4 : Int64) (l6 : Int64) (l8 : Int64) (l10 : Int64) (l12 : Int32) (g : gG) : Option (Int64 × gG) :=
  if (g.1 4 1) ≤ l12 then (if (1 : Int32) < l1 then (if l1 = (2 : Int32) then (some (l6, g)) else (if l1 = (3 : Int32) then (some (l8, g)) else (some (l10, g)))) else (some (l4, g))) else (if inb ((l12 * (8 : Int32)) + l3) 960 = true then gLet (g.2 5 ((l12 * (8 : Int32)) + l3).toNatClampNeg) (fun x5 => gLet (l10 ||| (l8 &&& x5)) (fun x6 => gLet (l8 ||| (l6 &&& x5)) (fun x7 => gLet (l6 ||| (l4 &&& x5)) (fun x8 => gLet (l4 ||| x5) (fun x9 => gLet (l12 + (1 : Int32)) (fun x10 => F15 l1 l3 x9 x8 x7 x6 x10 g)))))) else none)
def fb_X7_atLeast_15  : Nat → Int32 → Int32 → Int64 → Int64 → Int64 → Int64 → Int32 → gG → Option (Int64 × gG)
  | 0 => fun _ _ _ _ _ _ _ _ => none
  | n + 1 => fs_X7_atLeast_15 (fb_X7_atLeast_15 n)
def f_X7_atLeast  (a1 : Int32) (a2 : Int32) (a3 : Int32) (g : gG) : Option (Int64 × gG) :=
  fb_X7_atLeast_15 gFuel a1 a3 (0 : Int64) (0 : Int64) (0 : Int64) (0 : Int64) a2 g
def fs_X7_joinByCount_24 (F24 : Int32 → Int32 → Int32 → gG → Option (Unit × gG)) (l1 : Int32) (l3 : Int32) (l4 : Int32) (g : gG) : Option (Unit × gG) :=
  if (8 : Int32) ≤ l4 then (gLet (gI1 g 4 1 (l3 + (1 : Int32))) (fun g2 => some ((), g2))) else ((f_X7_atLeast l1 l3 l4 g).bind (fun u3 => if inb ((l3 * (8 : Int32)) + l4) 960 = true then gLet (gL1 u3.2 5 ((l3 * (8 : Int32)) + l4).toNatClampNeg u3.1) (fun g4 => gLet (l4 + (1 : Int32)) (fun x5 => F24 l1 l3 x5 g4)) else none))
def fb_X7_joinByCount_24  : Nat → Int32 → Int32 → Int32 → gG → Option (Unit × gG)
  | 0 => fun _ _ _ _ => none
  | n + 1 => fs_X7_joinByCount_24 (fb_X7_joinByCount_24 n)
def f_X7_joinByCount  (a1 : Int32) (a2 : Int32) (g : gG) : Option (Unit × gG) :=
  if a2 < (1 : Int32) then (some ((), g)) else (if a2 ≤ (g.1 4 1) then (gLet ((g.1 4 1) - a2) (fun x3 => fb_X7_joinByCount_24 gFuel a1 x3 (0 : Int32) g)) else (some ((), g)))
def f_X7_result  (a1 : Int32) (g : gG) : Option (Int64 × gG) :=
  if a1 < (0 : Int32) then (some ((0 : Int64), g)) else (if (8 : Int32) ≤ a1 then (some ((0 : Int64), g)) else (if inb a1 960 = true then some ((g.2 5 a1.toNatClampNeg), g) else none))
def fs_X2_keepCondition_2 (F2 : Int32 → gG → Option (Unit × gG)) (l1 : Int32) (g : gG) : Option (Unit × gG) :=
  if (8 : Int32) ≤ l1 then (some ((), g)) else ((f_X7_result l1 g).bind (fun u2 => if inb ((((g.1 3 10) - (1 : Int32)) * (8 : Int32)) + l1) 80 = true then gLet (gL1 u2.2 8 ((((g.1 3 10) - (1 : Int32)) * (8 : Int32)) + l1).toNatClampNeg u2.1) (fun g3 => gLet (l1 + (1 : Int32)) (fun x4 => F2 x4 g3)) else none))
def fb_X2_keepCondition_2  : Nat → Int32 → gG → Option (Unit × gG)
  | 0 => fun _ _ => none
  | n + 1 => fs_X2_keepCondition_2 (fb_X2_keepCondition_2 n)
def f_X2_keepCondition   (g : gG) : Option (Unit × gG) :=
  fb_X2_keepCondition_2 gFuel (0 : Int32) g
def fs_X2_takesJoin_186  (l1 : Int32) (g : gG) : Option (Int32 × gG) :=
  if l1 = (47 : Int32) then (if (g.1 3 9) = (0 : Int32) then ((f_X2_endCondition g).bind (fun u3 => (f_X2_keepCondition u3.2).bind (fun u4 => (f_X2_beginsPlace u4.2).bind (fun u5 => if gZb u5.1 = true then some (u5.1, u5.2) else none)))) else (some ((0 : Int32), g))) else (some ((0 : Int32), g))
def fs_X2_takesJoin_156  (l1 : Int32) (l3 : Int32) (g : gG) : Option (Int32 × gG) :=
  if l1 = (41 : Int32) then (if l3 = (0 : Int32) then (fs_X2_takesJoin_186 l1 g) else ((f_X2_endCondition g).bind (fun u3 => gLet (gI1 u3.2 3 9 ((u3.2.1 3 9) - (1 : Int32))) (fun g4 => (f_X2_endPart g4).bind (fun u5 => some ((1 : Int32), u5.2)))))) else (fs_X2_takesJoin_186 l1 g)
def fs_X2_takesJoin_101  (l1 : Int32) (l2 : Int32) (l3 : Int32) (g : gG) : Option (Int32 × gG) :=
  if l1 = (93 : Int32) then (if l2 = (0 : Int32) then (fs_X2_takesJoin_156 l1 l3 g) else ((f_X2_endCondition g).bind (fun u3 => if inb (u3.2.1 3 9) 121 = true then if inb (u3.2.1 3 9) 121 = true then (f_X7_joinByCount (u3.2.1 9 (u3.2.1 3 9).toNatClampNeg) (u3.2.1 10 (u3.2.1 3 9).toNatClampNeg) u3.2).bind (fun u4 => gLet (gI1 u4.2 3 9 ((u4.2.1 3 9) - (1 : Int32))) (fun g5 => (f_X2_endPart g5).bind (fun u6 => some ((1 : Int32), u6.2)))) else none else none))) else (fs_X2_takesJoin_156 l1 l3 g)
def fs_X2_takesJoin_49  (l1 : Int32) (l2 : Int32) (s0 : Int32) (g : gG) : Option (Int32 × gG) :=
  if l1 = (46 : Int32) then (gLet (gI1 g 3 11 (4 : Int32)) (fun g9 => some ((1 : Int32), g9))) else (if l1 = (43 : Int32) then ((f_X2_endGroup g).bind (fun u7 => gLet (gI1 u7.2 3 11 (4 : Int32)) (fun g8 => some ((1 : Int32), g8)))) else (if l1 = (44 : Int32) then (if l2 = (0 : Int32) then (fs_X2_takesJoin_101 l1 l2 s0 g) else ((f_X2_endCondition g).bind (fun u5 => gLet (gI1 u5.2 3 11 (4 : Int32)) (fun g6 => some ((1 : Int32), g6))))) else (fs_X2_takesJoin_101 l1 l2 s0 g)))
def fs_X2_takesJoin_48  (l1 : Int32) (l2 : Int32) (g : gG) : Option (Int32 × gG) :=
  fs_X2_takesJoin_49 l1 l2 (0 : Int32) g
def fs_X2_takesJoin_24  (l1 : Int32) (s0 : Int32) (g : gG) : Option (Int32 × gG) :=
  if (g.1 3 9) ≤ (0 : Int32) then (fs_X2_takesJoin_48 l1 s0 g) else (if inb (g.1 3 9) 121 = true then if (g.1 9 (g.1 3 9).toNatClampNeg) = (0 : Int32) then (fs_X2_takesJoin_49 l1 s0 (1 : Int32) g) else (fs_X2_takesJoin_48 l1 s0 g) else none)
def fs_X2_takesJoin_23  (l1 : Int32) (g : gG) : Option (Int32 × gG) :=
  fs_X2_takesJoin_24 l1 (0 : Int32) g
def f_X2_takesJoin  (a1 : Int32) (g : gG) : Option (Int32 × gG) :=
  if (g.1 3 9) ≤ (0 : Int32) then (fs_X2_takesJoin_23 a1 g) else (if inb (g.1 3 9) 121 = true then if (g.1 9 (g.1 3 9).toNatClampNeg) ≤ (0 : Int32) then (fs_X2_takesJoin_23 a1 g) else (fs_X2_takesJoin_24 a1 (1 : Int32) g) else none)
def fs_X2_takes_80  (l1 : Int32) (g : gG) : Option (Int32 × gG) :=
  (f_X2_takesCoordinate l1 g).bind (fun u1 => if gZb u1.1 = true then some (u1.1, u1.2) else none)
def f_X2_takes  (a1 : Int32) (g : gG) : Option (Int32 × gG) :=
  if (g.1 3 11) = (0 : Int32) then (gLet (gI1 g 3 11 (1 : Int32)) (fun g2 => if a1 = (72 : Int32) then (some ((1 : Int32), g2)) else (some ((0 : Int32), g2)))) else (if (g.1 3 11) = (1 : Int32) then (if a1 = (47 : Int32) then ((f_X2_beginsPlace g).bind (fun u6 => if u6.1 = (0 : Int32) then (some ((0 : Int32), u6.2)) else (some ((1 : Int32), u6.2)))) else (some ((0 : Int32), g))) else (if (g.1 3 11) = (2 : Int32) then (fs_X2_takes_80 a1 g) else (if (g.1 3 11) = (3 : Int32) then (fs_X2_takes_80 a1 g) else (if (g.1 3 11) = (4 : Int32) then ((f_X2_takesPart a1 g).bind (fun u11 => if gZb u11.1 = true then some (u11.1, u11.2) else none)) else (if (g.1 3 11) = (5 : Int32) then (gLet (gI1 g 3 11 (4 : Int32)) (fun g13 => if a1 = (91 : Int32) then (some ((1 : Int32), g13)) else (some ((0 : Int32), g13)))) else ((f_X2_takesJoin a1 g).bind (fun u15 => if gZb u15.1 = true then some (u15.1, u15.2) else none)))))))
def fs_X2_errorIn_17 (F17 : Int32 → Int32 → gG → Option (Int32 × gG)) (l2 : Int32) (l3 : Int32) (g : gG) : Option (Int32 × gG) :=
  if l2 ≤ l3 then (if (g.1 3 11) = (6 : Int32) then (if (g.1 3 9) = (0 : Int32) then (if (2 : Int32) ≤ (g.1 3 10) then ((f_X2_endCondition g).bind (fun u5 => (f_X2_keepCondition u5.2).bind (fun u6 => some ((-9 : Int32), u6.2)))) else (some (l2, g))) else (some (l2, g))) else (some (l2, g))) else ((f_X6_signAt l3 g).bind (fun u7 => (f_X2_takes u7.1 u7.2).bind (fun u8 => if u8.1 = (0 : Int32) then (some (l3, u8.2)) else (gLet (l3 + (1 : Int32)) (fun x10 => F17 l2 x10 u8.2)))))
def fb_X2_errorIn_17  : Nat → Int32 → Int32 → gG → Option (Int32 × gG)
  | 0 => fun _ _ _ => none
  | n + 1 => fs_X2_errorIn_17 (fb_X2_errorIn_17 n)
def f_X2_errorIn   (g : gG) : Option (Int32 × gG) :=
  gLet (gI1 g 3 10 (0 : Int32)) (fun g1 => gLet (gI1 g1 3 11 (0 : Int32)) (fun g2 => (f_X6_length g2).bind (fun u3 => gLet u3.1 (fun x4 => fb_X2_errorIn_17 gFuel x4 (0 : Int32) u3.2))))
def f_X2_count   (g : gG) : Option (Int32 × gG) :=
  some ((g.1 3 10), g)
def fs_X2_heldFor_13 (F13 : Int32 → Int32 → Int32 → Int32 → gG → Option (Int32 × gG)) (l1 : Int32) (l2 : Int32) (l3 : Int32) (l4 : Int32) (g : gG) : Option (Int32 × gG) :=
  if (g.1 3 10) ≤ l4 then (some (l3, g)) else (if inb ((l4 * (8 : Int32)) + l2) 80 = true then if (lg_cmp (((g.2 8 ((l4 * (8 : Int32)) + l2).toNatClampNeg).toUInt64 >>> ((l1 &&& (63 : Int32)).toInt64.toUInt64 &&& Int64.toUInt64 63)).toInt64 &&& (1 : Int64)) (0 : Int64)) = (0 : Int32) then (gLet (l4 + (1 : Int32)) (fun x3 => F13 l1 l2 l3 x3 g)) else (gLet (l3 ||| ((1 : Int32) <<< (l4 &&& 31))) (fun x4 => gLet (l4 + (1 : Int32)) (fun x5 => F13 l1 l2 x4 x5 g))) else none)
def fb_X2_heldFor_13  : Nat → Int32 → Int32 → Int32 → Int32 → gG → Option (Int32 × gG)
  | 0 => fun _ _ _ _ _ => none
  | n + 1 => fs_X2_heldFor_13 (fb_X2_heldFor_13 n)
def f_X2_heldFor  (a1 : Int32) (g : gG) : Option (Int32 × gG) :=
  gLet ((a1 / (64 : Int32)) - (a1 / (64 : Int32)) / (8 : Int32) * (8 : Int32)) (fun x1 => fb_X2_heldFor_13 gFuel a1 x1 (0 : Int32) (0 : Int32) g)
def fs_X0_take_10 (F10 : Int32 → gG → Option (Unit × gG)) (l2 : Int32) (g : gG) : Option (Unit × gG) :=
  if (512 : Int32) ≤ l2 then (some ((), g)) else ((f_X2_heldFor l2 g).bind (fun u2 => if inb l2 512 = true then gLet (gI1 u2.2 15 l2.toNatClampNeg u2.1) (fun g3 => gLet (l2 + (1 : Int32)) (fun x4 => F10 x4 g3)) else none))
def fb_X0_take_10  : Nat → Int32 → gG → Option (Unit × gG)
  | 0 => fun _ _ => none
  | n + 1 => fs_X0_take_10 (fb_X0_take_10 n)
def f_X0_take   (g : gG) : Option (Unit × gG) :=
  (f_X2_count g).bind (fun u1 => gLet (gI1 u1.2 14 1 u1.1) (fun g2 => fb_X0_take_10 gFuel (0 : Int32) g2))
def f_X2_xOf  (a1 : Int32) (g : gG) : Option (Int32 × gG) :=
  if a1 < (0 : Int32) then (some ((0 : Int32), g)) else (if (10 : Int32) ≤ a1 then (some ((0 : Int32), g)) else (if inb a1 10 = true then some ((g.1 6 a1.toNatClampNeg), g) else none))
def f_X2_yOf  (a1 : Int32) (g : gG) : Option (Int32 × gG) :=
  if a1 < (0 : Int32) then (some ((0 : Int32), g)) else (if (10 : Int32) ≤ a1 then (some ((0 : Int32), g)) else (if inb a1 10 = true then some ((g.1 7 a1.toNatClampNeg), g) else none))
def f_X0_count   (g : gG) : Option (Int32 × gG) :=
  some ((g.1 14 1), g)
def f_X0_chest   (g : gG) : Option (Int32 × gG) :=
  some (((g.1 14 1) - (1 : Int32)), g)
def f_X0_hasChest  (a1 : Int32) (g : gG) : Option (Int32 × gG) :=
  if ((a1 >>> (((g.1 14 1) - (1 : Int32)) &&& 31)) &&& (1 : Int32)) = (0 : Int32) then (some ((0 : Int32), g)) else (some ((1 : Int32), g))
def f_J6_bitCount_0f7a4  (a0 : Int32) (g : gG) : Option (Int32 × gG) :=
  gLet (a0 - ((a0.toUInt32 >>> ((1 : Int32).toUInt32 &&& Int32.toUInt32 31)).toInt32 &&& (1431655765 : Int32))) (fun x1 => gLet ((x1 &&& (858993459 : Int32)) + ((x1.toUInt32 >>> ((2 : Int32).toUInt32 &&& Int32.toUInt32 31)).toInt32 &&& (858993459 : Int32))) (fun x2 => gLet ((x2 + (x2.toUInt32 >>> ((4 : Int32).toUInt32 &&& Int32.toUInt32 31)).toInt32) &&& (252645135 : Int32)) (fun x3 => gLet (x3 + (x3.toUInt32 >>> ((8 : Int32).toUInt32 &&& Int32.toUInt32 31)).toInt32) (fun x4 => gLet (x4 + (x4.toUInt32 >>> ((16 : Int32).toUInt32 &&& Int32.toUInt32 31)).toInt32) (fun x5 => some ((x5 &&& (63 : Int32)), g))))))
def f_X0_hasPlace  (a1 : Int32) (g : gG) : Option (Int32 × gG) :=
  if a1 < (0 : Int32) then (some ((0 : Int32), g)) else (if (g.1 14 1) ≤ a1 then (some ((0 : Int32), g)) else (some ((1 : Int32), g)))
def f_X0_allPlaces   (g : gG) : Option (Int32 × gG) :=
  some ((((1 : Int32) <<< ((g.1 14 1) &&& 31)) - (1 : Int32)), g)
def f_X0_isHeld  (a1 : Int32) (a2 : Int32) (a3 : Int32) (g : gG) : Option (Int32 × gG) :=
  if inb (a2 &&& (511 : Int32)) 512 = true then (f_X9_isIn a1 ((g.1 15 (a2 &&& (511 : Int32)).toNatClampNeg) ||| a3) g).bind (fun u1 => if gZb u1.1 = true then some (u1.1, u1.2) else none) else none
def fs_X0_openAfter_18  (l1 : Int32) (l2 : Int32) (s0 : Int32) (g : gG) : Option (Int32 × gG) :=
  if s0 = (0 : Int32) then (if inb (l1 &&& (511 : Int32)) 512 = true then some ((((g.1 15 (l1 &&& (511 : Int32)).toNatClampNeg) ||| l2) &&& (l1 ^^^ (-1 : Int32))), g) else none) else (some ((0 : Int32), g))
def f_X0_openAfter  (a1 : Int32) (a2 : Int32) (g : gG) : Option (Int32 × gG) :=
  if ((a1 >>> (((g.1 14 1) - (1 : Int32)) &&& 31)) &&& (1 : Int32)) = (0 : Int32) then (fs_X0_openAfter_18 a1 a2 (0 : Int32) g) else (fs_X0_openAfter_18 a1 a2 (1 : Int32) g)
def fs_X9_smallestOf_2 (F2 : Int32 → Int32 → gG → Option (Int32 × gG)) (l0 : Int32) (l1 : Int32) (g : gG) : Option (Int32 × gG) :=
  if (10 : Int32) ≤ l1 then (some ((-9 : Int32), g)) else ((f_X9_isIn l1 l0 g).bind (fun u2 => if u2.1 = (0 : Int32) then (gLet (l1 + (1 : Int32)) (fun x4 => F2 l0 x4 u2.2)) else (some (l1, u2.2))))
def fb_X9_smallestOf_2  : Nat → Int32 → Int32 → gG → Option (Int32 × gG)
  | 0 => fun _ _ _ => none
  | n + 1 => fs_X9_smallestOf_2 (fb_X9_smallestOf_2 n)
def f_X9_smallestOf  (a0 : Int32) (g : gG) : Option (Int32 × gG) :=
  fb_X9_smallestOf_2 gFuel a0 (0 : Int32) g
def fs_X5_begin_2 (k : Nat) (F2 : Int32 → gG → Option (Unit × gG)) (l2 : Int32) (g : gG) : Option (Unit × gG) :=
  if (10 : Int32) ≤ l2 then (gLet (gI1 g k 8 (0 : Int32)) (fun g2 => gLet (gI1 g2 k 9 (0 : Int32)) (fun g3 => some ((), g3)))) else ((f_X2_xOf l2 g).bind (fun u4 => if inb l2 10 = true then gLet (gI1 u4.2 (k + 1) l2.toNatClampNeg u4.1) (fun g5 => (f_X2_yOf l2 g5).bind (fun u6 => if inb l2 10 = true then gLet (gI1 u6.2 (k + 2) l2.toNatClampNeg u6.1) (fun g7 => gLet (l2 + (1 : Int32)) (fun x8 => F2 x8 g7)) else none)) else none))
def fb_X5_begin_2 (k : Nat) : Nat → Int32 → gG → Option (Unit × gG)
  | 0 => fun _ _ => none
  | n + 1 => fs_X5_begin_2 k (fb_X5_begin_2 k n)
def f_X5_begin (k : Nat)  (g : gG) : Option (Unit × gG) :=
  fb_X5_begin_2 k gFuel (0 : Int32) g
def f_X1_forget   (g : gG) : Option (Unit × gG) :=
  gLet (gI1 g 24 2 (0 : Int32)) (fun g1 => some ((), g1))
def f_X5_teamCount (k : Nat)  (g : gG) : Option (Int32 × gG) :=
  some ((g.1 k 9), g)
def fs_X5_teamsAt_4 (k : Nat) (F4 : Int32 → Int32 → Int32 → gG → Option (Int32 × gG)) (l1 : Int32) (l2 : Int32) (l3 : Int32) (g : gG) : Option (Int32 × gG) :=
  if (g.1 k 9) ≤ l3 then (some (l2, g)) else (if inb l3 4 = true then (f_X9_isIn l1 (g.1 (k + 3) l3.toNatClampNeg) g).bind (fun u2 => if u2.1 = (0 : Int32) then (gLet (l3 + (1 : Int32)) (fun x4 => F4 l1 l2 x4 u2.2)) else (gLet (l2 + (1 : Int32)) (fun x5 => gLet (l3 + (1 : Int32)) (fun x6 => F4 l1 x5 x6 u2.2)))) else none)
def fb_X5_teamsAt_4 (k : Nat) : Nat → Int32 → Int32 → Int32 → gG → Option (Int32 × gG)
  | 0 => fun _ _ _ _ => none
  | n + 1 => fs_X5_teamsAt_4 k (fb_X5_teamsAt_4 k n)
def f_X5_teamsAt (k : Nat) (a1 : Int32) (g : gG) : Option (Int32 × gG) :=
  fb_X5_teamsAt_4 k gFuel a1 (0 : Int32) (0 : Int32) g
def f_X5_hasTeam (k : Nat) (a1 : Int32) (g : gG) : Option (Int32 × gG) :=
  if a1 < (0 : Int32) then (some ((0 : Int32), g)) else (if (g.1 k 9) ≤ a1 then (some ((0 : Int32), g)) else (some ((1 : Int32), g)))
def f_X5_visitedBy (k : Nat) (a1 : Int32) (g : gG) : Option (Int32 × gG) :=
  (f_X5_hasTeam k a1 g).bind (fun u1 => if u1.1 = (0 : Int32) then (some ((0 : Int32), u1.2)) else (if inb a1 4 = true then some ((u1.2.1 (k + 3) a1.toNatClampNeg), u1.2) else none))
def f_X5_minutesOf (k : Nat) (a1 : Int32) (g : gG) : Option (Int32 × gG) :=
  (f_X5_hasTeam k a1 g).bind (fun u1 => if u1.1 = (0 : Int32) then (some ((0 : Int32), u1.2)) else (if inb a1 4 = true then some ((u1.2.1 (k + 5) a1.toNatClampNeg), u1.2) else none))
def f_X5_hintsOf (k : Nat) (a1 : Int32) (g : gG) : Option (Int32 × gG) :=
  (f_X5_hasTeam k a1 g).bind (fun u1 => if u1.1 = (0 : Int32) then (some ((0 : Int32), u1.2)) else (if inb a1 4 = true then some ((u1.2.1 (k + 6) a1.toNatClampNeg), u1.2) else none))
def f_X5_scoreOf (k : Nat) (a1 : Int32) (g : gG) : Option (Int32 × gG) :=
  (f_X5_visitedBy k a1 g).bind (fun u1 => (f_X0_hasChest u1.1 u1.2).bind (fun u2 => if u2.1 = (0 : Int32) then (some ((0 : Int32), u2.2)) else ((f_X5_minutesOf k a1 u2.2).bind (fun u4 => (f_X5_hintsOf k a1 u4.2).bind (fun u5 => some ((if (0 : Int32) < (((200 : Int32) - u4.1) - ((10 : Int32) * u5.1)) then (((200 : Int32) - u4.1) - ((10 : Int32) * u5.1)) else (0 : Int32)), u5.2))))))
def fs_X5_greatestScore_4 (k : Nat) (F4 : Int32 → Int32 → gG → Option (Int32 × gG)) (l1 : Int32) (l2 : Int32) (g : gG) : Option (Int32 × gG) :=
  if (g.1 k 9) ≤ l2 then (some (l1, g)) else ((f_X5_scoreOf k l2 g).bind (fun u2 => gLet (if l1 < u2.1 then u2.1 else l1) (fun x3 => gLet (l2 + (1 : Int32)) (fun x4 => F4 x3 x4 u2.2))))
def fb_X5_greatestScore_4 (k : Nat) : Nat → Int32 → Int32 → gG → Option (Int32 × gG)
  | 0 => fun _ _ _ => none
  | n + 1 => fs_X5_greatestScore_4 k (fb_X5_greatestScore_4 k n)
def f_X5_greatestScore (k : Nat)  (g : gG) : Option (Int32 × gG) :=
  fb_X5_greatestScore_4 k gFuel (0 : Int32) (0 : Int32) g
def fs_X5_visitedByAny_4 (k : Nat) (F4 : Int32 → Int32 → gG → Option (Int32 × gG)) (l1 : Int32) (l2 : Int32) (g : gG) : Option (Int32 × gG) :=
  if (g.1 k 9) ≤ l2 then (some (l1, g)) else (if inb l2 4 = true then gLet (l1 ||| (g.1 (k + 3) l2.toNatClampNeg)) (fun x2 => gLet (l2 + (1 : Int32)) (fun x3 => F4 x2 x3 g)) else none)
def fb_X5_visitedByAny_4 (k : Nat) : Nat → Int32 → Int32 → gG → Option (Int32 × gG)
  | 0 => fun _ _ _ => none
  | n + 1 => fs_X5_visitedByAny_4 k (fb_X5_visitedByAny_4 k n)
def f_X5_visitedByAny (k : Nat)  (g : gG) : Option (Int32 × gG) :=
  fb_X5_visitedByAny_4 k gFuel (0 : Int32) (0 : Int32) g
def fs_X5_allHints_4 (k : Nat) (F4 : Int32 → Int32 → gG → Option (Int32 × gG)) (l1 : Int32) (l2 : Int32) (g : gG) : Option (Int32 × gG) :=
  if (g.1 k 9) ≤ l2 then (some (l1, g)) else (if inb l2 4 = true then gLet (l1 + (g.1 (k + 6) l2.toNatClampNeg)) (fun x2 => gLet (l2 + (1 : Int32)) (fun x3 => F4 x2 x3 g)) else none)
def fb_X5_allHints_4 (k : Nat) : Nat → Int32 → Int32 → gG → Option (Int32 × gG)
  | 0 => fun _ _ _ => none
  | n + 1 => fs_X5_allHints_4 k (fb_X5_allHints_4 k n)
def f_X5_allHints (k : Nat)  (g : gG) : Option (Int32 × gG) :=
  fb_X5_allHints_4 k gFuel (0 : Int32) (0 : Int32) g
def f_X5_xOf (k : Nat) (a1 : Int32) (g : gG) : Option (Int32 × gG) :=
  if a1 < (0 : Int32) then (some ((0 : Int32), g)) else (if (10 : Int32) ≤ a1 then (some ((0 : Int32), g)) else (if inb a1 10 = true then some ((g.1 (k + 1) a1.toNatClampNeg), g) else none))
def f_X5_yOf (k : Nat) (a1 : Int32) (g : gG) : Option (Int32 × gG) :=
  if a1 < (0 : Int32) then (some ((0 : Int32), g)) else (if (10 : Int32) ≤ a1 then (some ((0 : Int32), g)) else (if inb a1 10 = true then some ((g.1 (k + 2) a1.toNatClampNeg), g) else none))
def fs_X5_setsThatOpen_4 (k : Nat) (F4 : Int32 → Int32 → Int32 → gG → Option (Int32 × gG)) (l1 : Int32) (l2 : Int32) (l3 : Int32) (g : gG) : Option (Int32 × gG) :=
  (f_X0_allPlaces g).bind (fun u1 => if u1.1 < l3 then (some (l2, u1.2)) else ((f_X9_isIn l1 l3 u1.2).bind (fun u3 => if u3.1 = (0 : Int32) then ((f_X0_isHeld l1 l3 (u3.2.1 k 8) u3.2).bind (fun u6 => if u6.1 = (0 : Int32) then (gLet (l3 + (1 : Int32)) (fun x8 => F4 l1 l2 x8 u6.2)) else (gLet (l2 + (1 : Int32)) (fun x9 => gLet (l3 + (1 : Int32)) (fun x10 => F4 l1 x9 x10 u6.2))))) else (gLet (l3 + (1 : Int32)) (fun x5 => F4 l1 l2 x5 u3.2)))))
def fb_X5_setsThatOpen_4 (k : Nat) : Nat → Int32 → Int32 → Int32 → gG → Option (Int32 × gG)
  | 0 => fun _ _ _ _ => none
  | n + 1 => fs_X5_setsThatOpen_4 k (fb_X5_setsThatOpen_4 k n)
def f_X5_setsThatOpen (k : Nat) (a1 : Int32) (g : gG) : Option (Int32 × gG) :=
  fb_X5_setsThatOpen_4 k gFuel a1 (0 : Int32) (0 : Int32) g
def f_X5_easedPlaces (k : Nat)  (g : gG) : Option (Int32 × gG) :=
  some ((g.1 k 8), g)
def f_X5_visitsOf (k : Nat) (a1 : Int32) (g : gG) : Option (Int32 × gG) :=
  (f_X5_hasTeam k a1 g).bind (fun u1 => if u1.1 = (0 : Int32) then (some ((0 : Int32), u1.2)) else (if inb a1 4 = true then some ((u1.2.1 (k + 4) a1.toNatClampNeg), u1.2) else none))
def f_X5_visitOf (k : Nat) (a1 : Int32) (a2 : Int32) (g : gG) : Option (Int32 × gG) :=
  (f_X5_hasTeam k a1 g).bind (fun u1 => if u1.1 = (0 : Int32) then (some ((-9 : Int32), u1.2)) else (if a2 < (0 : Int32) then (some ((-9 : Int32), u1.2)) else (if inb a1 4 = true then if (u1.2.1 (k + 4) a1.toNatClampNeg) ≤ a2 then (some ((-9 : Int32), u1.2)) else (if inb ((a1 * (10 : Int32)) + a2) 40 = true then some ((u1.2.1 (k + 7) ((a1 * (10 : Int32)) + a2).toNatClampNeg), u1.2) else none) else none)))
def f_X5_lastOf (k : Nat) (a1 : Int32) (g : gG) : Option (Int32 × gG) :=
  (f_X5_hasTeam k a1 g).bind (fun u1 => if u1.1 = (0 : Int32) then (some ((-9 : Int32), u1.2)) else (if inb a1 4 = true then (f_X5_visitOf k a1 ((u1.2.1 (k + 4) a1.toNatClampNeg) - (1 : Int32)) u1.2).bind (fun u3 => some (u3.1, u3.2)) else none))
def f_X5_openTo (k : Nat) (a1 : Int32) (g : gG) : Option (Int32 × gG) :=
  (f_X5_hasTeam k a1 g).bind (fun u1 => if u1.1 = (0 : Int32) then (some ((0 : Int32), u1.2)) else (if inb a1 4 = true then (f_X0_openAfter (u1.2.1 (k + 3) a1.toNatClampNeg) (u1.2.1 k 8) u1.2).bind (fun u3 => some (u3.1, u3.2)) else none))
def f_X5_hasRoom (k : Nat)  (g : gG) : Option (Int32 × gG) :=
  if (4 : Int32) ≤ (g.1 k 9) then (some ((0 : Int32), g)) else (some ((1 : Int32), g))
def f_X5_copyFrom (k : Nat) (r1 : Nat)  (g : gG) : Option (Unit × gG) :=
  if gCpyOk (0 : Int32) (0 : Int32) (10 : Int32) 10 10 = true then gLet (gCpy g (r1 + 1) (k + 1) (0 : Int32) (0 : Int32) (10 : Int32)) (fun g1 => if gCpyOk (0 : Int32) (0 : Int32) (10 : Int32) 10 10 = true then gLet (gCpy g1 (r1 + 2) (k + 2) (0 : Int32) (0 : Int32) (10 : Int32)) (fun g2 => if gCpyOk (0 : Int32) (0 : Int32) (4 : Int32) 4 4 = true then gLet (gCpy g2 (r1 + 3) (k + 3) (0 : Int32) (0 : Int32) (4 : Int32)) (fun g3 => if gCpyOk (0 : Int32) (0 : Int32) (4 : Int32) 4 4 = true then gLet (gCpy g3 (r1 + 4) (k + 4) (0 : Int32) (0 : Int32) (4 : Int32)) (fun g4 => if gCpyOk (0 : Int32) (0 : Int32) (4 : Int32) 4 4 = true then gLet (gCpy g4 (r1 + 5) (k + 5) (0 : Int32) (0 : Int32) (4 : Int32)) (fun g5 => if gCpyOk (0 : Int32) (0 : Int32) (4 : Int32) 4 4 = true then gLet (gCpy g5 (r1 + 6) (k + 6) (0 : Int32) (0 : Int32) (4 : Int32)) (fun g6 => if gCpyOk (0 : Int32) (0 : Int32) (40 : Int32) 40 40 = true then gLet (gCpy g6 (r1 + 7) (k + 7) (0 : Int32) (0 : Int32) (40 : Int32)) (fun g7 => gLet (gI1 g7 k 8 (g7.1 r1 8)) (fun g8 => gLet (gI1 g8 k 9 (g8.1 r1 9)) (fun g9 => some ((), g9)))) else none) else none) else none) else none) else none) else none) else none
def f_X1_keep (r1 : Nat)  (g : gG) : Option (Unit × gG) :=
  if inb (g.1 24 1) 14 = true then (f_X5_copyFrom (26 + 8 * (g.1 24 1).toNatClampNeg) r1 g).bind (fun u2 => gLet (gI1 u2.2 24 1 (((u2.2.1 24 1) + (1 : Int32)) - ((u2.2.1 24 1) + (1 : Int32)) / (14 : Int32) * (14 : Int32))) (fun g3 => gLet (gI1 g3 24 2 (if (14 : Int32) < ((g3.1 24 2) + (1 : Int32)) then (14 : Int32) else ((g3.1 24 2) + (1 : Int32)))) (fun g4 => some ((), g4)))) else none
def f_X5_enrol (k : Nat)  (g : gG) : Option (Int32 × gG) :=
  (f_X5_hasRoom k g).bind (fun u1 => if u1.1 = (0 : Int32) then (some ((-9 : Int32), u1.2)) else (if inb (u1.2.1 k 9) 4 = true then gLet (gI1 u1.2 (k + 3) (u1.2.1 k 9).toNatClampNeg (0 : Int32)) (fun g3 => if inb (g3.1 k 9) 4 = true then gLet (gI1 g3 (k + 4) (g3.1 k 9).toNatClampNeg (0 : Int32)) (fun g4 => if inb (g4.1 k 9) 4 = true then gLet (gI1 g4 (k + 5) (g4.1 k 9).toNatClampNeg (0 : Int32)) (fun g5 => if inb (g5.1 k 9) 4 = true then gLet (gI1 g5 (k + 6) (g5.1 k 9).toNatClampNeg (0 : Int32)) (fun g6 => gLet (gI1 g6 k 9 ((g6.1 k 9) + (1 : Int32))) (fun g7 => some (((g7.1 k 9) - (1 : Int32)), g7))) else none) else none) else none) else none))
def f_X5_canVisit (k : Nat) (a1 : Int32) (a2 : Int32) (g : gG) : Option (Int32 × gG) :=
  (f_X0_hasPlace a2 g).bind (fun u1 => if u1.1 = (0 : Int32) then (some ((0 : Int32), u1.2)) else ((f_X5_openTo k a1 u1.2).bind (fun u3 => (f_X9_isIn a2 u3.1 u3.2).bind (fun u4 => if u4.1 = (0 : Int32) then (some ((0 : Int32), u4.2)) else (some ((1 : Int32), u4.2))))))
def f_X5_minutesBetween (k : Nat) (a1 : Int32) (a2 : Int32) (g : gG) : Option (Int32 × gG) :=
  (f_X5_xOf k a1 g).bind (fun u1 => (f_X5_xOf k a2 u1.2).bind (fun u2 => (f_X5_yOf k a1 u2.2).bind (fun u3 => (f_X5_yOf k a2 u3.2).bind (fun u4 => some ((((if 0 ≤ (u1.1 - u2.1) then (u1.1 - u2.1) else 0 - (u1.1 - u2.1)) + (if 0 ≤ (u3.1 - u4.1) then (u3.1 - u4.1) else 0 - (u3.1 - u4.1))) + (1 : Int32)), u4.2)))))
def f_X5_visit (k : Nat) (a1 : Int32) (a2 : Int32) (g : gG) : Option (Int32 × gG) :=
  (f_X5_canVisit k a1 a2 g).bind (fun u1 => if u1.1 = (0 : Int32) then (some ((-9 : Int32), u1.2)) else (if inb a1 4 = true then if (u1.2.1 (k + 4) a1.toNatClampNeg) < (10 : Int32) then (if inb a1 4 = true then (f_X5_lastOf k a1 u1.2).bind (fun u4 => (f_X5_minutesBetween k u4.1 a2 u4.2).bind (fun u5 => if inb a1 4 = true then gLet (gI1 u5.2 (k + 5) a1.toNatClampNeg ((u1.2.1 (k + 5) a1.toNatClampNeg) + u5.1)) (fun g6 => if inb a1 4 = true then if inb ((a1 * (10 : Int32)) + (g6.1 (k + 4) a1.toNatClampNeg)) 40 = true then gLet (gI1 g6 (k + 7) ((a1 * (10 : Int32)) + (g6.1 (k + 4) a1.toNatClampNeg)).toNatClampNeg a2) (fun g7 => if inb a1 4 = true then if inb a1 4 = true then gLet (gI1 g7 (k + 4) a1.toNatClampNeg ((g7.1 (k + 4) a1.toNatClampNeg) + (1 : Int32))) (fun g8 => if inb a1 4 = true then if inb a1 4 = true then gLet (gI1 g8 (k + 3) a1.toNatClampNeg ((g8.1 (k + 3) a1.toNatClampNeg) ||| ((1 : Int32) <<< (a2 &&& 31)))) (fun g9 => if inb a1 4 = true then some ((g9.1 (k + 5) a1.toNatClampNeg), g9) else none) else none else none) else none else none) else none else none) else none)) else none) else (some ((-9 : Int32), u1.2)) else none))
def f_X5_countHint (k : Nat) (a1 : Int32) (g : gG) : Option (Unit × gG) :=
  (f_X5_hasTeam k a1 g).bind (fun u1 => if u1.1 = (0 : Int32) then (some ((), u1.2)) else (if inb a1 4 = true then if inb a1 4 = true then gLet (gI1 u1.2 (k + 6) a1.toNatClampNeg ((u1.2.1 (k + 6) a1.toNatClampNeg) + (1 : Int32))) (fun g3 => some ((), g3)) else none else none))
def f_X5_copyTeam (k : Nat) (a1 : Int32) (a2 : Int32) (g : gG) : Option (Unit × gG) :=
  if inb a1 4 = true then if inb a2 4 = true then gLet (gI1 g (k + 3) a2.toNatClampNeg (g.1 (k + 3) a1.toNatClampNeg)) (fun g1 => if inb a1 4 = true then if inb a2 4 = true then gLet (gI1 g1 (k + 4) a2.toNatClampNeg (g1.1 (k + 4) a1.toNatClampNeg)) (fun g2 => if inb a1 4 = true then if inb a2 4 = true then gLet (gI1 g2 (k + 5) a2.toNatClampNeg (g2.1 (k + 5) a1.toNatClampNeg)) (fun g3 => if inb a1 4 = true then if inb a2 4 = true then gLet (gI1 g3 (k + 6) a2.toNatClampNeg (g3.1 (k + 6) a1.toNatClampNeg)) (fun g4 => if gCpyOk (a1 * (10 : Int32)) (a2 * (10 : Int32)) (10 : Int32) 40 40 = true then gLet (gCpy g4 (k + 7) (k + 7) (a1 * (10 : Int32)) (a2 * (10 : Int32)) (10 : Int32)) (fun g5 => some ((), g5)) else none) else none else none) else none else none) else none else none) else none else none
def fs_X5_dismiss_10 (k : Nat) (F10 : Int32 → gG → Option (Int32 × gG)) (l2 : Int32) (g : gG) : Option (Int32 × gG) :=
  if (g.1 k 9) ≤ (l2 + (1 : Int32)) then (gLet (gI1 g k 9 ((g.1 k 9) - (1 : Int32))) (fun g2 => some ((g2.1 k 9), g2))) else ((f_X5_copyTeam k (l2 + (1 : Int32)) l2 g).bind (fun u3 => gLet (l2 + (1 : Int32)) (fun x4 => F10 x4 u3.2)))
def fb_X5_dismiss_10 (k : Nat) : Nat → Int32 → gG → Option (Int32 × gG)
  | 0 => fun _ _ => none
  | n + 1 => fs_X5_dismiss_10 k (fb_X5_dismiss_10 k n)
def f_X5_dismiss (k : Nat) (a1 : Int32) (g : gG) : Option (Int32 × gG) :=
  (f_X5_hasTeam k a1 g).bind (fun u1 => if u1.1 = (0 : Int32) then (some ((u1.2.1 k 9), u1.2)) else (fb_X5_dismiss_10 k gFuel a1 u1.2))
def f_X5_put (k : Nat) (a1 : Int32) (a2 : Int32) (a3 : Int32) (g : gG) : Option (Int32 × gG) :=
  (f_X0_hasPlace a1 g).bind (fun u1 => if u1.1 = (0 : Int32) then (some ((-9 : Int32), u1.2)) else (if inb a1 10 = true then if inb a1 10 = true then gLet (((10 : Int32) * (u1.2.1 (k + 1) a1.toNatClampNeg)) + (u1.2.1 (k + 2) a1.toNatClampNeg)) (fun x3 => if inb a1 10 = true then gLet (gI1 u1.2 (k + 1) a1.toNatClampNeg a2) (fun g4 => if inb a1 10 = true then gLet (gI1 g4 (k + 2) a1.toNatClampNeg a3) (fun g5 => some (x3, g5)) else none) else none) else none else none))
def f_X5_makeEasy (k : Nat) (a1 : Int32) (g : gG) : Option (Unit × gG) :=
  (f_X0_hasPlace a1 g).bind (fun u1 => if u1.1 = (0 : Int32) then (some ((), u1.2)) else (gLet (gI1 u1.2 k 8 ((u1.2.1 k 8) ||| ((1 : Int32) <<< (a1 &&& 31)))) (fun g3 => some ((), g3))))
def f_X1_isEmpty   (g : gG) : Option (Int32 × gG) :=
  if (g.1 24 2) = (0 : Int32) then (some ((1 : Int32), g)) else (some ((0 : Int32), g))
def f_X1_takeBack (r1 : Nat)  (g : gG) : Option (Int32 × gG) :=
  if (g.1 24 2) ≤ (0 : Int32) then (some ((g.1 24 2), g)) else (gLet (gI1 g 24 1 ((((g.1 24 1) + (14 : Int32)) - (1 : Int32)) - (((g.1 24 1) + (14 : Int32)) - (1 : Int32)) / (14 : Int32) * (14 : Int32))) (fun g2 => if inb (g2.1 24 1) 14 = true then (f_X5_copyFrom r1 (26 + 8 * (g2.1 24 1).toNatClampNeg) g2).bind (fun u4 => gLet (gI1 u4.2 24 2 ((u4.2.1 24 2) - (1 : Int32))) (fun g5 => some ((g5.1 24 2), g5))) else none))
def f_X9_clearText   (g : gG) : Option (Int32 × gG) :=
  (f_X6_empty g).bind (fun u1 => some (u1.1, u1.2))
def f_X9_errorPosition   (g : gG) : Option (Int32 × gG) :=
  (f_X2_errorIn g).bind (fun u1 => some (u1.1, u1.2))
def fs_X8_spread_85 (F41 : Int32 → Int32 → Int32 → gG → Option (Unit × gG)) (F85 : Int32 → Int32 → Int32 → Int32 → Int32 → gG → Option (Unit × gG)) (l2 : Int32) (l3 : Int32) (l4 : Int32) (l5 : Int32) (l6 : Int32) (g : gG) : Option (Unit × gG) :=
  if (10 : Int32) ≤ l6 then (gLet (l4 + (1 : Int32)) (fun x2 => F41 l2 l3 x2 g)) else (if ((l5 >>> (l6 &&& 31)) &&& (1 : Int32)) = (0 : Int32) then (gLet (l6 + (1 : Int32)) (fun x4 => F85 l2 l3 l4 l5 x4 g)) else (if inb (l4 ||| ((1 : Int32) <<< (l6 &&& 31))) 1024 = true then gLet (gI1 g 157 (l4 ||| ((1 : Int32) <<< (l6 &&& 31))).toNatClampNeg (0 : Int32)) (fun g5 => gLet (l6 + (1 : Int32)) (fun x6 => F85 l2 l3 l4 l5 x6 g5)) else none))
def fb_X8_spread_85 (F41 : Int32 → Int32 → Int32 → gG → Option (Unit × gG)) : Nat → Int32 → Int32 → Int32 → Int32 → Int32 → gG → Option (Unit × gG)
  | 0 => fun _ _ _ _ _ _ => none
  | n + 1 => fs_X8_spread_85 F41 (fb_X8_spread_85 F41 n)
def fs_X8_spread_41 (F41 : Int32 → Int32 → Int32 → gG → Option (Unit × gG)) (l2 : Int32) (l3 : Int32) (l4 : Int32) (g : gG) : Option (Unit × gG) :=
  if l3 < l4 then (some ((), g)) else (if inb l4 1024 = true then if (g.1 157 l4.toNatClampNeg) = (-1 : Int32) then (gLet (l4 + (1 : Int32)) (fun x6 => F41 l2 l3 x6 g)) else ((f_X0_openAfter l4 l2 g).bind (fun u3 => gLet u3.1 (fun x4 => if inb l4 1024 = true then gLet (gI1 u3.2 157 l4.toNatClampNeg x4) (fun g5 => fb_X8_spread_85 F41 gFuel l2 l3 l4 x4 (0 : Int32) g5) else none))) else none)
def fb_X8_spread_41  : Nat → Int32 → Int32 → Int32 → gG → Option (Unit × gG)
  | 0 => fun _ _ _ _ => none
  | n + 1 => fs_X8_spread_41 (fb_X8_spread_41 n)
def fs_X8_spread_11 (F11 : Int32 → Int32 → Int32 → Int32 → gG → Option (Unit × gG)) (l1 : Int32) (l2 : Int32) (l3 : Int32) (l4 : Int32) (g : gG) : Option (Unit × gG) :=
  if l3 < l4 then (if inb l1 1024 = true then gLet (gI1 g 157 l1.toNatClampNeg (0 : Int32)) (fun g2 => fb_X8_spread_41 gFuel l2 l3 l1 g2) else none) else (if inb l4 1024 = true then gLet (gI1 g 157 l4.toNatClampNeg (-1 : Int32)) (fun g3 => gLet (l4 + (1 : Int32)) (fun x4 => F11 l1 l2 l3 x4 g3)) else none)
def fb_X8_spread_11  : Nat → Int32 → Int32 → Int32 → Int32 → gG → Option (Unit × gG)
  | 0 => fun _ _ _ _ _ => none
  | n + 1 => fs_X8_spread_11 (fb_X8_spread_11 n)
def f_X8_spread  (a1 : Int32) (a2 : Int32) (g : gG) : Option (Unit × gG) :=
  (f_X0_allPlaces g).bind (fun u1 => gLet u1.1 (fun x2 => fb_X8_spread_11 gFuel a1 a2 x2 (0 : Int32) u1.2))
def fs_X8_weigh_118 (F53 : Int32 → Int32 → Int32 → Int32 → Int32 → Int32 → Int32 → gG → Option (Unit × gG)) (l1 : Int32) (l3 : Int32) (l4 : Int32) (l5 : Int32) (l7 : Int32) (l8 : Int32) (l9 : Int32) (s0 : Int32) (g : gG) : Option (Unit × gG) :=
  gLet (l4 ||| ((1 : Int32) <<< (l8 &&& 31))) (fun x1 => if inb l9 1024 = true then gLet (l5 + (g.1 159 l9.toNatClampNeg)) (fun x2 => if inb l9 1024 = true then gLet (l7 &&& ((g.1 161 l9.toNatClampNeg) ||| ((1 : Int32) <<< (l8 &&& 31)))) (fun x3 => gLet (l8 + (1 : Int32)) (fun x4 => F53 l1 l3 x1 x2 s0 x3 x4 g)) else none) else none)
def fs_X8_weigh_53 (F53 : Int32 → Int32 → Int32 → Int32 → Int32 → Int32 → Int32 → gG → Option (Unit × gG)) (l1 : Int32) (l3 : Int32) (l4 : Int32) (l5 : Int32) (l6 : Int32) (l7 : Int32) (l8 : Int32) (g : gG) : Option (Unit × gG) :=
  if (10 : Int32) ≤ l8 then (if inb l1 1024 = true then gLet (gI1 g 158 l1.toNatClampNeg l4) (fun g2 => if inb l1 1024 = true then gLet (gI1 g2 159 l1.toNatClampNeg l5) (fun g3 => if inb l1 1024 = true then gLet (gI1 g3 160 l1.toNatClampNeg l6) (fun g4 => if inb l1 1024 = true then gLet (gI1 g4 161 l1.toNatClampNeg l7) (fun g5 => some ((), g5)) else none) else none) else none) else none) else (gLet (l1 ||| ((1 : Int32) <<< (l8 &&& 31))) (fun x6 => if ((l3 >>> (l8 &&& 31)) &&& (1 : Int32)) = (0 : Int32) then (gLet (l8 + (1 : Int32)) (fun x8 => F53 l1 l3 l4 l5 l6 l7 x8 g)) else (if inb x6 1024 = true then if (g.1 159 x6.toNatClampNeg) ≤ (0 : Int32) then (gLet (l8 + (1 : Int32)) (fun x10 => F53 l1 l3 l4 l5 l6 l7 x10 g)) else (if l4 = (0 : Int32) then (if inb x6 1024 = true then fs_X8_weigh_118 F53 l1 l3 l4 l5 l7 l8 x6 ((g.1 160 x6.toNatClampNeg) + (1 : Int32)) g else none) else (if inb x6 1024 = true then fs_X8_weigh_118 F53 l1 l3 l4 l5 l7 l8 x6 (if ((g.1 160 x6.toNatClampNeg) + (1 : Int32)) < l6 then ((g.1 160 x6.toNatClampNeg) + (1 : Int32)) else l6) g else none)) else none)))
def fb_X8_weigh_53  : Nat → Int32 → Int32 → Int32 → Int32 → Int32 → Int32 → Int32 → gG → Option (Unit × gG)
  | 0 => fun _ _ _ _ _ _ _ _ => none
  | n + 1 => fs_X8_weigh_53 (fb_X8_weigh_53 n)
def fs_X8_weigh_48  (l1 : Int32) (l3 : Int32) (l4 : Int32) (l5 : Int32) (l6 : Int32) (s0 : Int32) (g : gG) : Option (Unit × gG) :=
  fb_X8_weigh_53 gFuel l1 l3 l4 l5 l6 s0 (0 : Int32) g
def fs_X8_weigh_28  (l1 : Int32) (l2 : Int32) (l3 : Int32) (l4 : Int32) (s0 : Int32) (g : gG) : Option (Unit × gG) :=
  if l2 = (0 : Int32) then ((f_X0_allPlaces g).bind (fun u2 => fs_X8_weigh_48 l1 l3 l4 s0 (0 : Int32) u2.1 u2.2)) else (fs_X8_weigh_48 l1 l3 l4 s0 (0 : Int32) (0 : Int32) g)
def f_X8_weigh  (a1 : Int32) (g : gG) : Option (Unit × gG) :=
  (f_X0_hasChest a1 g).bind (fun u1 => gLet u1.1 (fun x2 => if inb a1 1024 = true then gLet (u1.2.1 157 a1.toNatClampNeg) (fun x3 => if x2 = (0 : Int32) then (fs_X8_weigh_28 a1 x2 x3 (0 : Int32) (0 : Int32) u1.2) else (fs_X8_weigh_28 a1 x2 x3 (0 : Int32) (1 : Int32) u1.2)) else none))
def fs_X8_lookFrom_14 (F14 : Int32 → Int32 → gG → Option (Unit × gG)) (l1 : Int32) (l3 : Int32) (g : gG) : Option (Unit × gG) :=
  if l3 < l1 then (some ((), g)) else (if inb l3 1024 = true then if (g.1 157 l3.toNatClampNeg) = (-1 : Int32) then (gLet (l3 + (-1 : Int32)) (fun x3 => F14 l1 x3 g)) else ((f_X8_weigh l3 g).bind (fun u4 => gLet (l3 + (-1 : Int32)) (fun x5 => F14 l1 x5 u4.2))) else none)
def fb_X8_lookFrom_14  : Nat → Int32 → Int32 → gG → Option (Unit × gG)
  | 0 => fun _ _ _ => none
  | n + 1 => fs_X8_lookFrom_14 (fb_X8_lookFrom_14 n)
def f_X8_lookFrom  (a1 : Int32) (a2 : Int32) (g : gG) : Option (Unit × gG) :=
  (f_X8_spread a1 a2 g).bind (fun u1 => (f_X0_allPlaces u1.2).bind (fun u2 => gLet u2.1 (fun x3 => fb_X8_lookFrom_14 gFuel a1 x3 u2.2)))
def f_X8_safeFor (r1 : Nat) (a2 : Int32) (g : gG) : Option (Int32 × gG) :=
  (f_X5_visitedBy r1 a2 g).bind (fun u1 => gLet u1.1 (fun x2 => (f_X5_easedPlaces r1 u1.2).bind (fun u3 => (f_X8_lookFrom x2 u3.1 u3.2).bind (fun u4 => if inb x2 1024 = true then some ((u4.2.1 158 x2.toNatClampNeg), u4.2) else none))))
def f_X8_fewestVisits (r1 : Nat) (a2 : Int32) (g : gG) : Option (Int32 × gG) :=
  (f_X5_visitedBy r1 a2 g).bind (fun u1 => gLet u1.1 (fun x2 => (f_X5_easedPlaces r1 u1.2).bind (fun u3 => (f_X8_lookFrom x2 u3.1 u3.2).bind (fun u4 => if inb x2 1024 = true then if (u4.2.1 159 x2.toNatClampNeg) = (0 : Int32) then (some ((-9 : Int32), u4.2)) else (if inb x2 1024 = true then some ((u4.2.1 160 x2.toNatClampNeg), u4.2) else none) else none))))
def fs_X8_firstOfShortest_18 (r1 : Nat) (F18 : Int32 → Int32 → gG → Option (Int32 × gG)) (l3 : Int32) (l4 : Int32) (g : gG) : Option (Int32 × gG) :=
  (f_X0_count g).bind (fun u1 => if u1.1 ≤ l4 then (some ((-9 : Int32), u1.2)) else (if inb l3 1024 = true then (f_X9_isIn l4 (u1.2.1 158 l3.toNatClampNeg) u1.2).bind (fun u3 => if u3.1 = (0 : Int32) then (gLet (l4 + (1 : Int32)) (fun x5 => F18 l3 x5 u3.2)) else (if inb (l3 ||| ((1 : Int32) <<< (l4 &&& 31))) 1024 = true then if inb l3 1024 = true then if ((u3.2.1 160 (l3 ||| ((1 : Int32) <<< (l4 &&& 31))).toNatClampNeg) + (1 : Int32)) = (u3.2.1 160 l3.toNatClampNeg) then (some (l4, u3.2)) else (gLet (l4 + (1 : Int32)) (fun x7 => F18 l3 x7 u3.2)) else none else none)) else none))
def fb_X8_firstOfShortest_18 (r1 : Nat) : Nat → Int32 → Int32 → gG → Option (Int32 × gG)
  | 0 => fun _ _ _ => none
  | n + 1 => fs_X8_firstOfShortest_18 r1 (fb_X8_firstOfShortest_18 r1 n)
def f_X8_firstOfShortest (r1 : Nat) (a2 : Int32) (g : gG) : Option (Int32 × gG) :=
  (f_X5_visitedBy r1 a2 g).bind (fun u1 => gLet u1.1 (fun x2 => (f_X5_easedPlaces r1 u1.2).bind (fun u3 => (f_X8_lookFrom x2 u3.1 u3.2).bind (fun u4 => fb_X8_firstOfShortest_18 r1 gFuel x2 (0 : Int32) u4.2))))
def fs_X8_measure_10 (r1 : Nat) (F2 : Int32 → gG → Option (Unit × gG)) (F10 : Int32 → Int32 → gG → Option (Unit × gG)) (l2 : Int32) (l3 : Int32) (g : gG) : Option (Unit × gG) :=
  if (10 : Int32) ≤ l3 then ((f_X5_minutesBetween r1 (-9 : Int32) l2 g).bind (fun u2 => if inb ((100 : Int32) + l2) 110 = true then gLet (gI1 u2.2 163 ((100 : Int32) + l2).toNatClampNeg u2.1) (fun g3 => gLet (l2 + (1 : Int32)) (fun x4 => F2 x4 g3)) else none)) else ((f_X5_minutesBetween r1 l3 l2 g).bind (fun u5 => if inb ((l3 * (10 : Int32)) + l2) 110 = true then gLet (gI1 u5.2 163 ((l3 * (10 : Int32)) + l2).toNatClampNeg u5.1) (fun g6 => gLet (l3 + (1 : Int32)) (fun x7 => F10 l2 x7 g6)) else none))
def fb_X8_measure_10 (r1 : Nat) (F2 : Int32 → gG → Option (Unit × gG)) : Nat → Int32 → Int32 → gG → Option (Unit × gG)
  | 0 => fun _ _ _ => none
  | n + 1 => fs_X8_measure_10 r1 F2 (fb_X8_measure_10 r1 F2 n)
def fs_X8_measure_2 (r1 : Nat) (F2 : Int32 → gG → Option (Unit × gG)) (l2 : Int32) (g : gG) : Option (Unit × gG) :=
  if (10 : Int32) ≤ l2 then (some ((), g)) else (fb_X8_measure_10 r1 F2 gFuel l2 (0 : Int32) g)
def fb_X8_measure_2 (r1 : Nat) : Nat → Int32 → gG → Option (Unit × gG)
  | 0 => fun _ _ => none
  | n + 1 => fs_X8_measure_2 r1 (fb_X8_measure_2 r1 n)
def f_X8_measure (r1 : Nat)  (g : gG) : Option (Unit × gG) :=
  fb_X8_measure_2 r1 gFuel (0 : Int32) g
def fs_X8_minutesBy_35  (l2 : Int32) (l3 : Int32) (s0 : Int32) (g : gG) : Option (Int32 × gG) :=
  if inb ((l2 * (10 : Int32)) + l3) 110 = true then some (((g.1 163 ((l2 * (10 : Int32)) + l3).toNatClampNeg) + s0), g) else none
def f_X8_minutesBy  (a1 : Int32) (a2 : Int32) (a3 : Int32) (g : gG) : Option (Int32 × gG) :=
  gLet (a1 ||| ((1 : Int32) <<< (a3 &&& 31))) (fun x1 => (f_X0_hasChest x1 g).bind (fun u2 => if u2.1 = (0 : Int32) then (if inb ((x1 * (10 : Int32)) + a3) 5120 = true then fs_X8_minutesBy_35 a2 a3 (u2.2.1 162 ((x1 * (10 : Int32)) + a3).toNatClampNeg) u2.2 else none) else (fs_X8_minutesBy_35 a2 a3 (0 : Int32) u2.2)))
def fs_X8_minutesFrom_59 (F16 : Int32 → Int32 → Int32 → Int32 → Int32 → Int32 → gG → Option (Int32 × gG)) (l1 : Int32) (l2 : Int32) (l3 : Int32) (l6 : Int32) (s0 : Int32) (g : gG) : Option (Int32 × gG) :=
  gLet (l6 + (1 : Int32)) (fun x1 => F16 l1 l2 l3 s0 (1 : Int32) x1 g)
def fs_X8_minutesFrom_16 (F16 : Int32 → Int32 → Int32 → Int32 → Int32 → Int32 → gG → Option (Int32 × gG)) (l1 : Int32) (l2 : Int32) (l3 : Int32) (l4 : Int32) (l5 : Int32) (l6 : Int32) (g : gG) : Option (Int32 × gG) :=
  if (10 : Int32) ≤ l6 then (some (l4, g)) else (if ((l3 >>> (l6 &&& 31)) &&& (1 : Int32)) = (0 : Int32) then (gLet (l6 + (1 : Int32)) (fun x3 => F16 l1 l2 l3 l4 l5 x3 g)) else ((f_X8_minutesBy l1 l2 l6 g).bind (fun u4 => gLet u4.1 (fun x5 => if l5 = (0 : Int32) then (fs_X8_minutesFrom_59 F16 l1 l2 l3 l6 x5 u4.2) else (fs_X8_minutesFrom_59 F16 l1 l2 l3 l6 (if x5 < l4 then x5 else l4) u4.2)))))
def fb_X8_minutesFrom_16  : Nat → Int32 → Int32 → Int32 → Int32 → Int32 → Int32 → gG → Option (Int32 × gG)
  | 0 => fun _ _ _ _ _ _ _ => none
  | n + 1 => fs_X8_minutesFrom_16 (fb_X8_minutesFrom_16 n)
def f_X8_minutesFrom  (a1 : Int32) (a2 : Int32) (g : gG) : Option (Int32 × gG) :=
  if inb a1 1024 = true then gLet (g.1 158 a1.toNatClampNeg) (fun x1 => fb_X8_minutesFrom_16 gFuel a1 a2 x1 (0 : Int32) (0 : Int32) (0 : Int32) g) else none
def fs_X8_weighMinutes_53 (r1 : Nat) (F20 : Int32 → Int32 → Int32 → gG → Option (Unit × gG)) (F53 : Int32 → Int32 → Int32 → Int32 → gG → Option (Unit × gG)) (l2 : Int32) (l3 : Int32) (l4 : Int32) (l5 : Int32) (g : gG) : Option (Unit × gG) :=
  if l3 ≤ l5 then (gLet (l4 + (-1 : Int32)) (fun x2 => F20 l2 l3 x2 g)) else ((f_X9_isIn l5 (l4 &&& (l2 ^^^ (-1 : Int32))) g).bind (fun u3 => if u3.1 = (0 : Int32) then (gLet (l5 + (1 : Int32)) (fun x5 => F53 l2 l3 l4 x5 u3.2)) else ((f_X8_minutesFrom l4 l5 u3.2).bind (fun u6 => if inb ((l4 * (10 : Int32)) + l5) 5120 = true then gLet (gI1 u6.2 162 ((l4 * (10 : Int32)) + l5).toNatClampNeg u6.1) (fun g7 => gLet (l5 + (1 : Int32)) (fun x8 => F53 l2 l3 l4 x8 g7)) else none))))
def fb_X8_weighMinutes_53 (r1 : Nat) (F20 : Int32 → Int32 → Int32 → gG → Option (Unit × gG)) : Nat → Int32 → Int32 → Int32 → Int32 → gG → Option (Unit × gG)
  | 0 => fun _ _ _ _ _ => none
  | n + 1 => fs_X8_weighMinutes_53 r1 F20 (fb_X8_weighMinutes_53 r1 F20 n)
def fs_X8_weighMinutes_20 (r1 : Nat) (F20 : Int32 → Int32 → Int32 → gG → Option (Unit × gG)) (l2 : Int32) (l3 : Int32) (l4 : Int32) (g : gG) : Option (Unit × gG) :=
  if l4 ≤ l2 then (some ((), g)) else (if inb l4 1024 = true then if (g.1 157 l4.toNatClampNeg) = (-1 : Int32) then (gLet (l4 + (-1 : Int32)) (fun x3 => F20 l2 l3 x3 g)) else (if inb l4 1024 = true then if (g.1 159 l4.toNatClampNeg) = (0 : Int32) then (gLet (l4 + (-1 : Int32)) (fun x5 => F20 l2 l3 x5 g)) else (fb_X8_weighMinutes_53 r1 F20 gFuel l2 l3 l4 (0 : Int32) g) else none) else none)
def fb_X8_weighMinutes_20 (r1 : Nat) : Nat → Int32 → Int32 → Int32 → gG → Option (Unit × gG)
  | 0 => fun _ _ _ _ => none
  | n + 1 => fs_X8_weighMinutes_20 r1 (fb_X8_weighMinutes_20 r1 n)
def f_X8_weighMinutes (r1 : Nat) (a2 : Int32) (g : gG) : Option (Unit × gG) :=
  (f_X8_measure r1 g).bind (fun u1 => (f_X0_chest u1.2).bind (fun u2 => gLet u2.1 (fun x3 => gLet (((1 : Int32) <<< (x3 &&& 31)) - (1 : Int32)) (fun x4 => fb_X8_weighMinutes_20 r1 gFuel a2 x3 x4 u2.2))))
def f_X8_whereIs (r0 : Nat) (a1 : Int32) (g : gG) : Option (Int32 × gG) :=
  (f_X5_lastOf r0 a1 g).bind (fun u1 => gLet u1.1 (fun x2 => if x2 = (-9 : Int32) then (some ((10 : Int32), u1.2)) else (some (x2, u1.2))))
def f_X8_fewestMinutes (r1 : Nat) (a2 : Int32) (g : gG) : Option (Int32 × gG) :=
  (f_X5_visitedBy r1 a2 g).bind (fun u1 => gLet u1.1 (fun x2 => (f_X5_easedPlaces r1 u1.2).bind (fun u3 => (f_X8_lookFrom x2 u3.1 u3.2).bind (fun u4 => (f_X8_weighMinutes r1 x2 u4.2).bind (fun u5 => if inb x2 1024 = true then if (u5.2.1 159 x2.toNatClampNeg) = (0 : Int32) then (some ((-9 : Int32), u5.2)) else ((f_X8_whereIs r1 a2 u5.2).bind (fun u7 => (f_X8_minutesFrom x2 u7.1 u7.2).bind (fun u8 => some (u8.1, u8.2)))) else none)))))
def fs_X8_firstOfQuickest_40 (r1 : Nat) (F40 : Int32 → Int32 → Int32 → Int32 → gG → Option (Int32 × gG)) (l3 : Int32) (l4 : Int32) (l5 : Int32) (l6 : Int32) (g : gG) : Option (Int32 × gG) :=
  (f_X0_count g).bind (fun u1 => if u1.1 ≤ l6 then (some ((-9 : Int32), u1.2)) else (if inb l3 1024 = true then (f_X9_isIn l6 (u1.2.1 158 l3.toNatClampNeg) u1.2).bind (fun u3 => if u3.1 = (0 : Int32) then (gLet (l6 + (1 : Int32)) (fun x5 => F40 l3 l4 l5 x5 u3.2)) else ((f_X8_minutesBy l3 l4 l6 u3.2).bind (fun u6 => if u6.1 = l5 then (some (l6, u6.2)) else (gLet (l6 + (1 : Int32)) (fun x8 => F40 l3 l4 l5 x8 u6.2))))) else none))
def fb_X8_firstOfQuickest_40 (r1 : Nat) : Nat → Int32 → Int32 → Int32 → Int32 → gG → Option (Int32 × gG)
  | 0 => fun _ _ _ _ _ => none
  | n + 1 => fs_X8_firstOfQuickest_40 r1 (fb_X8_firstOfQuickest_40 r1 n)
def f_X8_firstOfQuickest (r1 : Nat) (a2 : Int32) (g : gG) : Option (Int32 × gG) :=
  (f_X5_visitedBy r1 a2 g).bind (fun u1 => gLet u1.1 (fun x2 => (f_X8_whereIs r1 a2 u1.2).bind (fun u3 => gLet u3.1 (fun x4 => (f_X5_easedPlaces r1 u3.2).bind (fun u5 => (f_X8_lookFrom x2 u5.1 u5.2).bind (fun u6 => (f_X8_weighMinutes r1 x2 u6.2).bind (fun u7 => (f_X8_minutesFrom x2 x4 u7.2).bind (fun u8 => gLet u8.1 (fun x9 => fb_X8_firstOfQuickest_40 r1 gFuel x2 x4 x9 (0 : Int32) u8.2)))))))))
def f_X8_ordersOf (r1 : Nat) (a2 : Int32) (g : gG) : Option (Int32 × gG) :=
  (f_X5_visitedBy r1 a2 g).bind (fun u1 => gLet u1.1 (fun x2 => (f_X5_easedPlaces r1 u1.2).bind (fun u3 => (f_X8_lookFrom x2 u3.1 u3.2).bind (fun u4 => if inb x2 1024 = true then some ((u4.2.1 159 x2.toNatClampNeg), u4.2) else none))))
def f_X8_neededBy (r1 : Nat) (a2 : Int32) (g : gG) : Option (Int32 × gG) :=
  (f_X5_visitedBy r1 a2 g).bind (fun u1 => gLet u1.1 (fun x2 => (f_X5_easedPlaces r1 u1.2).bind (fun u3 => (f_X8_lookFrom x2 u3.1 u3.2).bind (fun u4 => if inb x2 1024 = true then if (u4.2.1 159 x2.toNatClampNeg) = (0 : Int32) then (some ((-9 : Int32), u4.2)) else (if inb x2 1024 = true then some ((u4.2.1 161 x2.toNatClampNeg), u4.2) else none) else none))))
def fs_X8_countDeadEnds_19 (F19 : Int32 → Int32 → Int32 → gG → Option (Int32 × gG)) (l2 : Int32) (l3 : Int32) (l4 : Int32) (g : gG) : Option (Int32 × gG) :=
  if l2 < l4 then (some (l3, g)) else (if inb l4 1024 = true then if (g.1 157 l4.toNatClampNeg) = (-1 : Int32) then (gLet (l4 + (1 : Int32)) (fun x3 => F19 l2 l3 x3 g)) else (if inb l4 1024 = true then if (g.1 159 l4.toNatClampNeg) = (0 : Int32) then (gLet (l3 + (1 : Int32)) (fun x6 => gLet (l4 + (1 : Int32)) (fun x7 => F19 l2 x6 x7 g))) else (gLet (l4 + (1 : Int32)) (fun x5 => F19 l2 l3 x5 g)) else none) else none)
def fb_X8_countDeadEnds_19  : Nat → Int32 → Int32 → Int32 → gG → Option (Int32 × gG)
  | 0 => fun _ _ _ _ => none
  | n + 1 => fs_X8_countDeadEnds_19 (fb_X8_countDeadEnds_19 n)
def f_X8_countDeadEnds  (a1 : Int32) (g : gG) : Option (Int32 × gG) :=
  (f_X8_lookFrom (0 : Int32) a1 g).bind (fun u1 => (f_X0_allPlaces u1.2).bind (fun u2 => gLet u2.1 (fun x3 => fb_X8_countDeadEnds_19 gFuel x3 (0 : Int32) (0 : Int32) u2.2)))
def f_X9_deadEnds   (g : gG) : Option (Int32 × gG) :=
  (f_X5_easedPlaces 16 g).bind (fun u1 => (f_X8_countDeadEnds u1.1 u1.2).bind (fun u2 => some (u2.1, u2.2)))
def fs_X9_easeBy_24 (F24 : Int32 → Int32 → gG → Option (Int32 × gG)) (l1 : Int32) (l2 : Int32) (g : gG) : Option (Int32 × gG) :=
  (f_X0_count g).bind (fun u1 => if u1.1 ≤ l2 then (some ((-9 : Int32), u1.2)) else ((f_X8_countDeadEnds (l1 ||| ((1 : Int32) <<< (l2 &&& 31))) u1.2).bind (fun u3 => if u3.1 = (0 : Int32) then (some (l2, u3.2)) else (gLet (l2 + (1 : Int32)) (fun x5 => F24 l1 x5 u3.2)))))
def fb_X9_easeBy_24  : Nat → Int32 → Int32 → gG → Option (Int32 × gG)
  | 0 => fun _ _ _ => none
  | n + 1 => fs_X9_easeBy_24 (fb_X9_easeBy_24 n)
def f_X9_easeBy   (g : gG) : Option (Int32 × gG) :=
  (f_X5_easedPlaces 16 g).bind (fun u1 => gLet u1.1 (fun x2 => (f_X8_countDeadEnds x2 u1.2).bind (fun u3 => if u3.1 = (0 : Int32) then (some ((-9 : Int32), u3.2)) else (fb_X9_easeBy_24 gFuel x2 (0 : Int32) u3.2))))
def fs_X3_pastEnd_4 (F4 : Int32 → Int64 → Int32 → gG → Option (Int64 × gG)) (l0 : Int32) (l1 : Int64) (l3 : Int32) (g : gG) : Option (Int64 × gG) :=
  if l0 ≤ l3 then (some (l1, g)) else (if (4 : Int32) ≤ l3 then (some (l1, g)) else (gLet (l1 * (10000 : Int64)) (fun x3 => gLet (l3 + (1 : Int32)) (fun x4 => F4 l0 x3 x4 g))))
def fb_X3_pastEnd_4  : Nat → Int32 → Int64 → Int32 → gG → Option (Int64 × gG)
  | 0 => fun _ _ _ _ => none
  | n + 1 => fs_X3_pastEnd_4 (fb_X3_pastEnd_4 n)
def f_X3_pastEnd  (a0 : Int32) (g : gG) : Option (Int64 × gG) :=
  fb_X3_pastEnd_4 gFuel a0 (1 : Int64) (0 : Int32) g
def f_X3_begin (r1 : Nat)  (g : gG) : Option (Unit × gG) :=
  (f_X5_copyFrom 165 r1 g).bind (fun u1 => some ((), u1.2))
def fs_X3_groupAt_8 (F8 : Int32 → Int64 → Int32 → gG → Option (Int32 × gG)) (l0 : Int32) (l4 : Int64) (l6 : Int32) (g : gG) : Option (Int32 × gG) :=
  if l6 ≤ l0 then (some ((l4 - l4 / (10000 : Int64) * (10000 : Int64)).toInt32, g)) else (gLet (l4 / (10000 : Int64)) (fun x2 => gLet (l6 + (-1 : Int32)) (fun x3 => F8 l0 x2 x3 g)))
def fb_X3_groupAt_8  : Nat → Int32 → Int64 → Int32 → gG → Option (Int32 × gG)
  | 0 => fun _ _ _ _ => none
  | n + 1 => fs_X3_groupAt_8 (fb_X3_groupAt_8 n)
def f_X3_groupAt  (a0 : Int32) (a1 : Int32) (a2 : Int64) (g : gG) : Option (Int32 × gG) :=
  gLet (a1 - (1 : Int32)) (fun x1 => fb_X3_groupAt_8 gFuel a0 a2 x1 g)
def f_X3_visits  (a1 : Int32) (a2 : Int32) (g : gG) : Option (Int32 × gG) :=
  (f_X5_canVisit 165 a1 a2 g).bind (fun u1 => if u1.1 = (0 : Int32) then (some ((0 : Int32), u1.2)) else ((f_X5_visit 165 a1 a2 u1.2).bind (fun u3 => some ((1 : Int32), u3.2))))
def f_X3_getsHint  (a1 : Int32) (g : gG) : Option (Int32 × gG) :=
  (f_X5_hasTeam 165 a1 g).bind (fun u1 => if u1.1 = (0 : Int32) then (some ((0 : Int32), u1.2)) else ((f_X8_safeFor 165 a1 u1.2).bind (fun u3 => if u3.1 = (0 : Int32) then (some ((0 : Int32), u3.2)) else ((f_X5_countHint 165 a1 u3.2).bind (fun u5 => some ((1 : Int32), u5.2))))))
def f_X3_enrols   (g : gG) : Option (Int32 × gG) :=
  (f_X5_hasRoom 165 g).bind (fun u1 => if u1.1 = (0 : Int32) then (some ((0 : Int32), u1.2)) else ((f_X5_enrol 165 u1.2).bind (fun u3 => some ((1 : Int32), u3.2))))
def f_X3_givesUp  (a1 : Int32) (g : gG) : Option (Int32 × gG) :=
  (f_X5_hasTeam 165 a1 g).bind (fun u1 => if u1.1 = (0 : Int32) then (some ((0 : Int32), u1.2)) else ((f_X5_dismiss 165 a1 u1.2).bind (fun u3 => some ((1 : Int32), u3.2))))
def f_X3_isSafe  (a1 : Int32) (a2 : Int32) (g : gG) : Option (Int32 × gG) :=
  (f_X5_hasTeam 165 a1 g).bind (fun u1 => if u1.1 = (0 : Int32) then (some ((0 : Int32), u1.2)) else ((f_X0_hasPlace a2 u1.2).bind (fun u3 => if u3.1 = (0 : Int32) then (some ((0 : Int32), u3.2)) else ((f_X8_safeFor 165 a1 u3.2).bind (fun u5 => (f_X9_isIn a2 u5.1 u5.2).bind (fun u6 => if u6.1 = (0 : Int32) then (some ((0 : Int32), u6.2)) else (some ((1 : Int32), u6.2))))))))
def f_X3_moves  (a1 : Int32) (a2 : Int32) (a3 : Int32) (g : gG) : Option (Int32 × gG) :=
  (f_X0_hasPlace a1 g).bind (fun u1 => if u1.1 = (0 : Int32) then (some ((0 : Int32), u1.2)) else ((f_X5_put 165 a1 a2 a3 u1.2).bind (fun u3 => some ((1 : Int32), u3.2))))
def f_X3_eases  (a1 : Int32) (g : gG) : Option (Int32 × gG) :=
  (f_X0_hasPlace a1 g).bind (fun u1 => if u1.1 = (0 : Int32) then (some ((0 : Int32), u1.2)) else ((f_X5_makeEasy 165 a1 u1.2).bind (fun u3 => some ((1 : Int32), u3.2))))
def f_X3_succeeds  (a1 : Int32) (g : gG) : Option (Int32 × gG) :=
  gLet ((a1 / (100 : Int32)) - (a1 / (100 : Int32)) / (10 : Int32) * (10 : Int32)) (fun x1 => gLet ((a1 / (10 : Int32)) - (a1 / (10 : Int32)) / (10 : Int32) * (10 : Int32)) (fun x2 => gLet (a1 - a1 / (10 : Int32) * (10 : Int32)) (fun x3 => if (a1 / (1000 : Int32)) = (1 : Int32) then (if x3 = (0 : Int32) then ((f_X3_visits x1 x2 g).bind (fun u6 => if u6.1 = (0 : Int32) then (some ((0 : Int32), u6.2)) else (some ((1 : Int32), u6.2)))) else (some ((0 : Int32), g))) else (if (a1 / (1000 : Int32)) = (2 : Int32) then (if x2 = (0 : Int32) then (if x3 = (0 : Int32) then ((f_X3_getsHint x1 g).bind (fun u11 => if u11.1 = (0 : Int32) then (some ((0 : Int32), u11.2)) else (some ((1 : Int32), u11.2)))) else (some ((0 : Int32), g))) else (some ((0 : Int32), g))) else (if (a1 / (1000 : Int32)) = (3 : Int32) then (if x1 = (0 : Int32) then (if x2 = (0 : Int32) then (if x3 = (0 : Int32) then ((f_X3_enrols g).bind (fun u17 => if u17.1 = (0 : Int32) then (some ((0 : Int32), u17.2)) else (some ((1 : Int32), u17.2)))) else (some ((0 : Int32), g))) else (some ((0 : Int32), g))) else (some ((0 : Int32), g))) else (if (a1 / (1000 : Int32)) = (4 : Int32) then (if x2 = (0 : Int32) then (if x3 = (0 : Int32) then ((f_X3_givesUp x1 g).bind (fun u22 => if u22.1 = (0 : Int32) then (some ((0 : Int32), u22.2)) else (some ((1 : Int32), u22.2)))) else (some ((0 : Int32), g))) else (some ((0 : Int32), g))) else (if (a1 / (1000 : Int32)) = (5 : Int32) then (if x3 = (0 : Int32) then ((f_X3_isSafe x1 x2 g).bind (fun u26 => if u26.1 = (0 : Int32) then (some ((0 : Int32), u26.2)) else (some ((1 : Int32), u26.2)))) else (some ((0 : Int32), g))) else (if (a1 / (1000 : Int32)) = (6 : Int32) then ((f_X5_hasTeam 165 x1 g).bind (fun u29 => if u29.1 = (0 : Int32) then (some ((0 : Int32), u29.2)) else ((f_X5_minutesOf 165 x1 u29.2).bind (fun u31 => if (((10 : Int32) * x2) + x3) < u31.1 then (some ((0 : Int32), u31.2)) else (some ((1 : Int32), u31.2)))))) else (if (a1 / (1000 : Int32)) = (7 : Int32) then ((f_X3_moves x1 x2 x3 g).bind (fun u34 => if gZb u34.1 = true then some (u34.1, u34.2) else none)) else (if (a1 / (1000 : Int32)) = (8 : Int32) then (if x2 = (0 : Int32) then (if x3 = (0 : Int32) then ((f_X3_eases x1 g).bind (fun u38 => if u38.1 = (0 : Int32) then (some ((0 : Int32), u38.2)) else (some ((1 : Int32), u38.2)))) else (some ((0 : Int32), g))) else (some ((0 : Int32), g))) else (if (a1 / (1000 : Int32)) = (9 : Int32) then (if x3 = (0 : Int32) then ((f_X5_hasTeam 165 x1 g).bind (fun u42 => if u42.1 = (0 : Int32) then (some ((0 : Int32), u42.2)) else ((f_X5_visitsOf 165 x1 u42.2).bind (fun u44 => if u44.1 < x2 then (some ((0 : Int32), u44.2)) else (some ((1 : Int32), u44.2)))))) else (some ((0 : Int32), g))) else (some ((0 : Int32), g)))))))))))))
def fs_X4_draw_46 (F46 : Int32 → Int32 → Int32 → gG → Option (Int32 × gG)) (l3 : Int32) (l4 : Int32) (l5 : Int32) (g : gG) : Option (Int32 × gG) :=
  if l3 ≤ l5 then ((f_X9_smallestOf l4 g).bind (fun u2 => some (u2.1, u2.2))) else (gLet (l4 &&& (l4 - (1 : Int32))) (fun x3 => gLet (l5 + (1 : Int32)) (fun x4 => F46 l3 x3 x4 g)))
def fb_X4_draw_46  : Nat → Int32 → Int32 → Int32 → gG → Option (Int32 × gG)
  | 0 => fun _ _ _ _ => none
  | n + 1 => fs_X4_draw_46 (fb_X4_draw_46 n)
def fs_X4_draw_39  (l1 : Int32) (s0 : Int32) (g : gG) : Option (Int32 × gG) :=
  fb_X4_draw_46 gFuel s0 l1 (0 : Int32) g
def f_X4_draw  (a1 : Int32) (g : gG) : Option (Int32 × gG) :=
  gLet (gL1 g 173 1 (((g.2 173 1) * (6364136223846793005 : Int64)) + (1442695040888963407 : Int64))) (fun g1 => (f_J6_bitCount_0f7a4 a1 g1).bind (fun u2 => gLet u2.1 (fun x3 => if x3 = (0 : Int32) then (fs_X4_draw_39 a1 (0 : Int32) u2.2) else (if x3 = 0 then none else fs_X4_draw_39 a1 ((((u2.2.2 173 1).toUInt64 >>> ((33 : Int32).toInt64.toUInt64 &&& Int64.toUInt64 63)).toInt64).toInt32 - (((u2.2.2 173 1).toUInt64 >>> ((33 : Int32).toInt64.toUInt64 &&& Int64.toUInt64 63)).toInt64).toInt32 / x3 * x3) u2.2))))
def fs_X4_walk_76 (r1 : Nat) (l2 : Int32) (l4 : Int32) (g : gG) : Option (Int32 × gG) :=
  (f_X0_hasChest l2 g).bind (fun u1 => if u1.1 = (0 : Int32) then (some ((-9 : Int32), u1.2)) else (some (l4, u1.2)))
def fs_X4_walk_11 (r1 : Nat) (F11 : Int32 → Int32 → Int32 → Int32 → gG → Option (Int32 × gG)) (l2 : Int32) (l3 : Int32) (l4 : Int32) (l5 : Int32) (g : gG) : Option (Int32 × gG) :=
  if (10 : Int32) ≤ l5 then (fs_X4_walk_76 r1 l2 l4 g) else ((f_X5_easedPlaces r1 g).bind (fun u2 => (f_X0_openAfter l2 u2.1 u2.2).bind (fun u3 => gLet u3.1 (fun x4 => if x4 = (0 : Int32) then (fs_X4_walk_76 r1 l2 l4 u3.2) else ((f_X4_draw x4 u3.2).bind (fun u6 => gLet u6.1 (fun x7 => (f_X5_minutesBetween r1 l3 x7 u6.2).bind (fun u8 => gLet (l4 + u8.1) (fun x9 => gLet (l2 ||| ((1 : Int32) <<< (x7 &&& 31))) (fun x10 => gLet (l5 + (1 : Int32)) (fun x11 => F11 x10 x7 x9 x11 u8.2)))))))))))
def fb_X4_walk_11 (r1 : Nat) : Nat → Int32 → Int32 → Int32 → Int32 → gG → Option (Int32 × gG)
  | 0 => fun _ _ _ _ _ => none
  | n + 1 => fs_X4_walk_11 r1 (fb_X4_walk_11 r1 n)
def f_X4_walk (r1 : Nat)  (g : gG) : Option (Int32 × gG) :=
  fb_X4_walk_11 r1 gFuel (0 : Int32) (-9 : Int32) (0 : Int32) (0 : Int32) g
def fs_X4_run_14 (r1 : Nat) (F14 : Int32 → Int32 → Int32 → Int32 → gG → Option (Int32 × gG)) (l4 : Int32) (l5 : Int32) (l6 : Int32) (l7 : Int32) (g : gG) : Option (Int32 × gG) :=
  if l4 ≤ l7 then (some ((((100000 : Int32) * l5) + (if (99999 : Int32) < l6 then (99999 : Int32) else l6)), g)) else ((f_X4_walk r1 g).bind (fun u2 => gLet u2.1 (fun x3 => if x3 = (-9 : Int32) then (gLet (l7 + (1 : Int32)) (fun x5 => F14 l4 l5 l6 x5 u2.2)) else (gLet (l5 + (1 : Int32)) (fun x6 => gLet (l6 + x3) (fun x7 => gLet (l7 + (1 : Int32)) (fun x8 => F14 l4 x6 x7 x8 u2.2)))))))
def fb_X4_run_14 (r1 : Nat) : Nat → Int32 → Int32 → Int32 → Int32 → gG → Option (Int32 × gG)
  | 0 => fun _ _ _ _ _ => none
  | n + 1 => fs_X4_run_14 r1 (fb_X4_run_14 r1 n)
def f_X4_run (r1 : Nat) (a2 : Int64) (a4 : Int32) (g : gG) : Option (Int32 × gG) :=
  gLet (gL1 g 173 1 a2) (fun g1 => fb_X4_run_14 r1 gFuel a4 (0 : Int32) (0 : Int32) (0 : Int32) g1)
def fs_X9_append_11   (g : gG) : Option ((Int32 ⊕ Nat) × gG) :=
  some (.inr 1, g)
def f_X9_append  (a1 : Int32) (g : gG) : Option ((Int32 ⊕ Nat) × gG) :=
  if a1 < (0 : Int32) then (fs_X9_append_11 g) else (if a1 ≤ (255 : Int32) then ((f_X6_isFull g).bind (fun u3 => if u3.1 = (0 : Int32) then ((f_X6_add a1 u3.2).bind (fun u5 => some (.inl u5.1, u5.2))) else (some (.inr 2, u3.2)))) else (fs_X9_append_11 g))
def fs_X9_load_57 (F57 : Int32 → gG → Option ((Int32 ⊕ Nat) × gG)) (l1 : Int32) (g : gG) : Option ((Int32 ⊕ Nat) × gG) :=
  if (2 : Int32) ≤ l1 then ((f_X0_count g).bind (fun u2 => some (.inl u2.1, u2.2))) else (if inb l1 2 = true then gLet (gI1 g 155 l1.toNatClampNeg (vp_nar .boolean (0 : Int32))) (fun g3 => gLet (l1 + (1 : Int32)) (fun x4 => F57 x4 g3)) else none)
def fb_X9_load_57  : Nat → Int32 → gG → Option ((Int32 ⊕ Nat) × gG)
  | 0 => fun _ _ => none
  | n + 1 => fs_X9_load_57 (fb_X9_load_57 n)
def f_X9_load   (g : gG) : Option ((Int32 ⊕ Nat) × gG) :=
  (f_X2_errorIn g).bind (fun u1 => if u1.1 = (-9 : Int32) then ((f_X0_take u1.2).bind (fun u3 => (f_X5_begin 16 u3.2).bind (fun u4 => (f_X1_forget u4.2).bind (fun u5 => fb_X9_load_57 gFuel (0 : Int32) u5.2)))) else (some (.inr 2, u1.2)))
def f_X9_about  (a1 : Int32) (g : gG) : Option ((Int32 ⊕ Nat) × gG) :=
  if a1 = (0 : Int32) then ((f_X0_count g).bind (fun u2 => some (.inl u2.1, u2.2))) else (if a1 = (1 : Int32) then ((f_X5_teamCount 16 g).bind (fun u4 => some (.inl u4.1, u4.2))) else (if a1 = (2 : Int32) then ((f_X0_chest g).bind (fun u6 => (f_X5_teamsAt 16 u6.1 u6.2).bind (fun u7 => some (.inl u7.1, u7.2)))) else (if a1 = (3 : Int32) then ((f_X5_greatestScore 16 g).bind (fun u9 => some (.inl u9.1, u9.2))) else (if a1 = (4 : Int32) then ((f_X5_visitedByAny 16 g).bind (fun u11 => (f_J6_bitCount_0f7a4 u11.1 u11.2).bind (fun u12 => some (.inl u12.1, u12.2)))) else (if a1 = (5 : Int32) then ((f_X5_allHints 16 g).bind (fun u14 => some (.inl u14.1, u14.2))) else (some (.inr 1, g)))))))
def f_X9_requirePlace  (a1 : Int32) (g : gG) : Option ((Unit ⊕ Nat) × gG) :=
  (f_X0_hasPlace a1 g).bind (fun u1 => if u1.1 = (0 : Int32) then (some (.inr 3, u1.2)) else (some (.inl (), u1.2)))
def f_X9_place  (a1 : Int32) (a2 : Int32) (g : gG) : Option ((Int32 ⊕ Nat) × gG) :=
  gXb (f_X9_requirePlace a1 g) (fun _ g1 => if a2 = (0 : Int32) then ((f_X5_xOf 16 a1 g1).bind (fun u3 => some (.inl u3.1, u3.2))) else (if a2 = (1 : Int32) then ((f_X5_yOf 16 a1 g1).bind (fun u5 => some (.inl u5.1, u5.2))) else (if a2 = (2 : Int32) then ((f_X5_teamsAt 16 a1 g1).bind (fun u7 => some (.inl u7.1, u7.2))) else (if a2 = (3 : Int32) then ((f_X5_setsThatOpen 16 a1 g1).bind (fun u9 => some (.inl u9.1, u9.2))) else (some (.inr 1, g1))))))
def fs_X9_holds_20   (g : gG) : Option ((Int32 ⊕ Nat) × gG) :=
  some (.inr 1, g)
def f_X9_holds  (a1 : Int32) (a2 : Int32) (g : gG) : Option ((Int32 ⊕ Nat) × gG) :=
  gXb (f_X9_requirePlace a1 g) (fun _ g1 => if a2 < (0 : Int32) then (fs_X9_holds_20 g1) else ((f_X0_allPlaces g1).bind (fun u3 => if a2 ≤ u3.1 then ((f_X5_easedPlaces 16 u3.2).bind (fun u5 => (f_X0_isHeld a1 a2 u5.1 u5.2).bind (fun u6 => if gZb u6.1 = true then some (.inl u6.1, u6.2) else none))) else (fs_X9_holds_20 u3.2))))
def f_X9_requireTeam  (a1 : Int32) (g : gG) : Option ((Unit ⊕ Nat) × gG) :=
  (f_X5_hasTeam 16 a1 g).bind (fun u1 => if u1.1 = (0 : Int32) then (some (.inr 3, u1.2)) else (some (.inl (), u1.2)))
def f_X9_team  (a1 : Int32) (a2 : Int32) (g : gG) : Option ((Int32 ⊕ Nat) × gG) :=
  gXb (f_X9_requireTeam a1 g) (fun _ g1 => if a2 = (0 : Int32) then ((f_X5_visitedBy 16 a1 g1).bind (fun u3 => some (.inl u3.1, u3.2))) else (if a2 = (1 : Int32) then ((f_X5_visitsOf 16 a1 g1).bind (fun u5 => some (.inl u5.1, u5.2))) else (if a2 = (2 : Int32) then ((f_X5_minutesOf 16 a1 g1).bind (fun u7 => some (.inl u7.1, u7.2))) else (if a2 = (3 : Int32) then ((f_X5_hintsOf 16 a1 g1).bind (fun u9 => some (.inl u9.1, u9.2))) else (if a2 = (4 : Int32) then ((f_X5_scoreOf 16 a1 g1).bind (fun u11 => some (.inl u11.1, u11.2))) else (if a2 = (5 : Int32) then ((f_X5_lastOf 16 a1 g1).bind (fun u13 => some (.inl u13.1, u13.2))) else (some (.inr 1, g1))))))))
def f_X9_trail  (a1 : Int32) (a2 : Int32) (g : gG) : Option ((Int32 ⊕ Nat) × gG) :=
  gXb (f_X9_requireTeam a1 g) (fun _ g1 => if (0 : Int32) ≤ a2 then ((f_X5_visitOf 16 a1 a2 g1).bind (fun u3 => some (.inl u3.1, u3.2))) else (some (.inr 1, g1)))
def f_X9_open  (a1 : Int32) (g : gG) : Option ((Int32 ⊕ Nat) × gG) :=
  gXb (f_X9_requireTeam a1 g) (fun _ g1 => (f_X5_openTo 16 a1 g1).bind (fun u2 => some (.inl u2.1, u2.2)))
def f_X9_addTeam   (g : gG) : Option ((Int32 ⊕ Nat) × gG) :=
  (f_X5_hasRoom 16 g).bind (fun u1 => if u1.1 = (0 : Int32) then (some (.inr 2, u1.2)) else ((f_X1_keep 16 u1.2).bind (fun u3 => (f_X5_enrol 16 u3.2).bind (fun u4 => some (.inl u4.1, u4.2)))))
def f_X9_go  (a1 : Int32) (a2 : Int32) (g : gG) : Option ((Int32 ⊕ Nat) × gG) :=
  gXb (f_X9_requireTeam a1 g) (fun _ g1 => gXb (f_X9_requirePlace a2 g1) (fun _ g2 => (f_X5_canVisit 16 a1 a2 g2).bind (fun u3 => if u3.1 = (0 : Int32) then (some (.inr 2, u3.2)) else ((f_X1_keep 16 u3.2).bind (fun u5 => (f_X5_visit 16 a1 a2 u5.2).bind (fun u6 => some (.inl u6.1, u6.2)))))))
def f_X9_hint  (a1 : Int32) (g : gG) : Option ((Int32 ⊕ Nat) × gG) :=
  gXb (f_X9_requireTeam a1 g) (fun _ g1 => (f_X8_safeFor 16 a1 g1).bind (fun u2 => gLet u2.1 (fun x3 => if x3 = (0 : Int32) then (some (.inr 2, u2.2)) else ((f_X1_keep 16 u2.2).bind (fun u5 => (f_X5_countHint 16 a1 u5.2).bind (fun u6 => (f_X9_smallestOf x3 u6.2).bind (fun u7 => some (.inl u7.1, u7.2))))))))
def f_X9_giveUp  (a1 : Int32) (g : gG) : Option ((Int32 ⊕ Nat) × gG) :=
  gXb (f_X9_requireTeam a1 g) (fun _ g1 => (f_X1_keep 16 g1).bind (fun u2 => (f_X5_dismiss 16 a1 u2.2).bind (fun u3 => some (.inl u3.1, u3.2))))
def fs_X9_move_25   (g : gG) : Option ((Int32 ⊕ Nat) × gG) :=
  some (.inr 1, g)
def f_X9_move  (a1 : Int32) (a2 : Int32) (a3 : Int32) (g : gG) : Option ((Int32 ⊕ Nat) × gG) :=
  gXb (f_X9_requirePlace a1 g) (fun _ g1 => if a2 < (0 : Int32) then (fs_X9_move_25 g1) else (if (9 : Int32) < a2 then (fs_X9_move_25 g1) else (if a3 < (0 : Int32) then (fs_X9_move_25 g1) else (if a3 ≤ (9 : Int32) then ((f_X1_keep 16 g1).bind (fun u6 => (f_X5_put 16 a1 a2 a3 u6.2).bind (fun u7 => some (.inl u7.1, u7.2)))) else (fs_X9_move_25 g1)))))
def f_X9_ease  (a1 : Int32) (g : gG) : Option ((Int32 ⊕ Nat) × gG) :=
  gXb (f_X9_requirePlace a1 g) (fun _ g1 => (f_X1_keep 16 g1).bind (fun u2 => (f_X5_setsThatOpen 16 a1 u2.2).bind (fun u3 => gLet u3.1 (fun x4 => (f_X5_makeEasy 16 a1 u3.2).bind (fun u5 => some (.inl x4, u5.2))))))
def f_X9_undo   (g : gG) : Option ((Int32 ⊕ Nat) × gG) :=
  (f_X1_isEmpty g).bind (fun u1 => if u1.1 = (0 : Int32) then ((f_X1_takeBack 16 u1.2).bind (fun u3 => some (.inl u3.1, u3.2))) else (some (.inr 2, u1.2)))
def f_X9_requireZeroOrOne  (a0 : Int32) (g : gG) : Option ((Unit ⊕ Nat) × gG) :=
  if a0 = (0 : Int32) then (some (.inl (), g)) else (if a0 = (1 : Int32) then (some (.inl (), g)) else (some (.inr 1, g)))
def f_X9_shortest  (a1 : Int32) (a2 : Int32) (g : gG) : Option ((Int32 ⊕ Nat) × gG) :=
  gXb (f_X9_requireTeam a1 g) (fun _ g1 => gXb (f_X9_requireZeroOrOne a2 g1) (fun _ g2 => if a2 = (0 : Int32) then ((f_X8_fewestVisits 16 a1 g2).bind (fun u5 => some (.inl u5.1, u5.2))) else ((f_X8_firstOfShortest 16 a1 g2).bind (fun u4 => some (.inl u4.1, u4.2)))))
def f_X9_quickest  (a1 : Int32) (a2 : Int32) (g : gG) : Option ((Int32 ⊕ Nat) × gG) :=
  gXb (f_X9_requireTeam a1 g) (fun _ g1 => gXb (f_X9_requireZeroOrOne a2 g1) (fun _ g2 => if a2 = (0 : Int32) then ((f_X8_fewestMinutes 16 a1 g2).bind (fun u5 => some (.inl u5.1, u5.2))) else ((f_X8_firstOfQuickest 16 a1 g2).bind (fun u4 => some (.inl u4.1, u4.2)))))
def f_X9_orders  (a1 : Int32) (g : gG) : Option ((Int32 ⊕ Nat) × gG) :=
  gXb (f_X9_requireTeam a1 g) (fun _ g1 => (f_X8_ordersOf 16 a1 g1).bind (fun u2 => some (.inl u2.1, u2.2)))
def f_X9_safe  (a1 : Int32) (g : gG) : Option ((Int32 ⊕ Nat) × gG) :=
  gXb (f_X9_requireTeam a1 g) (fun _ g1 => (f_X8_safeFor 16 a1 g1).bind (fun u2 => some (.inl u2.1, u2.2)))
def f_X9_needed  (a1 : Int32) (g : gG) : Option ((Int32 ⊕ Nat) × gG) :=
  gXb (f_X9_requireTeam a1 g) (fun _ g1 => (f_X8_neededBy 16 a1 g1).bind (fun u2 => some (.inl u2.1, u2.2)))
def fs_X9_runScript_10   (g : gG) : Option ((Int32 ⊕ Nat) × gG) :=
  some (.inr 1, g)
def fs_X9_runScript_36   (g : gG) : Option ((Int32 ⊕ Nat) × gG) :=
  some (.inr 1, g)
def fs_X9_runScript_61 (F61 : Int32 → Int64 → Int32 → gG → Option ((Int32 ⊕ Nat) × gG)) (l1 : Int32) (l2 : Int64) (l4 : Int32) (g : gG) : Option ((Int32 ⊕ Nat) × gG) :=
  if l1 ≤ l4 then (some (.inl (-9 : Int32), g)) else ((f_X3_groupAt l4 l1 l2 g).bind (fun u2 => (f_X3_succeeds u2.1 u2.2).bind (fun u3 => if u3.1 = (0 : Int32) then (some (.inl l4, u3.2)) else (gLet (l4 + (1 : Int32)) (fun x5 => F61 l1 l2 x5 u3.2)))))
def fb_X9_runScript_61  : Nat → Int32 → Int64 → Int32 → gG → Option ((Int32 ⊕ Nat) × gG)
  | 0 => fun _ _ _ _ => none
  | n + 1 => fs_X9_runScript_61 (fb_X9_runScript_61 n)
def f_X9_runScript  (a1 : Int32) (a2 : Int64) (g : gG) : Option ((Int32 ⊕ Nat) × gG) :=
  if a1 < (1 : Int32) then (fs_X9_runScript_10 g) else (if a1 ≤ (4 : Int32) then (if (lg_cmp a2 (0 : Int64)) < (0 : Int32) then (fs_X9_runScript_36 g) else ((f_X3_pastEnd a1 g).bind (fun u4 => if (lg_cmp a2 u4.1) < (0 : Int32) then ((f_X3_begin 16 u4.2).bind (fun u6 => fb_X9_runScript_61 gFuel a1 a2 (0 : Int32) u6.2)) else (fs_X9_runScript_36 u4.2)))) else (fs_X9_runScript_10 g))
def fs_X9_simulate_11   (g : gG) : Option ((Int32 ⊕ Nat) × gG) :=
  some (.inr 1, g)
def f_X9_simulate  (a1 : Int64) (a3 : Int32) (g : gG) : Option ((Int32 ⊕ Nat) × gG) :=
  if a3 < (1 : Int32) then (fs_X9_simulate_11 g) else (if a3 ≤ (50 : Int32) then ((f_X4_run 16 a1 a3 g).bind (fun u3 => some (.inl u3.1, u3.2))) else (fs_X9_simulate_11 g))
def fs_X9_requireSlot_9   (g : gG) : Option ((Unit ⊕ Nat) × gG) :=
  some (.inr 3, g)
def f_X9_requireSlot  (a0 : Int32) (g : gG) : Option ((Unit ⊕ Nat) × gG) :=
  if a0 < (0 : Int32) then (fs_X9_requireSlot_9 g) else (if a0 < (2 : Int32) then (some (.inl (), g)) else (fs_X9_requireSlot_9 g))
def f_X9_save  (a1 : Int32) (g : gG) : Option ((Int32 ⊕ Nat) × gG) :=
  gXb (f_X9_requireSlot a1 g) (fun _ g1 => if inb a1 2 = true then (f_X5_copyFrom (139 + 8 * a1.toNatClampNeg) 16 g1).bind (fun u3 => if inb a1 2 = true then gLet (gI1 u3.2 155 a1.toNatClampNeg (vp_nar .boolean (1 : Int32))) (fun g4 => (f_X5_teamCount 16 g4).bind (fun u5 => some (.inl u5.1, u5.2))) else none) else none)
def f_X9_restore  (a1 : Int32) (g : gG) : Option ((Int32 ⊕ Nat) × gG) :=
  gXb (f_X9_requireSlot a1 g) (fun _ g1 => if inb a1 2 = true then if (g1.1 155 a1.toNatClampNeg) = (0 : Int32) then (some (.inr 2, g1)) else (if inb a1 2 = true then (f_X5_copyFrom 16 (139 + 8 * a1.toNatClampNeg) g1).bind (fun u4 => (f_X1_forget u4.2).bind (fun u5 => (f_X5_teamCount 16 u5.2).bind (fun u6 => some (.inl u6.1, u6.2)))) else none) else none)
def f_L_append  (a1 : Int32) (g : gG) : Option (Int64 × gG) :=
  gXh (f_X9_append a1 g) (fun r2 g1 => some (r2.toInt64, g1)) (fun n3 g4 => if n3 = 1 then (some ((-9000000000000000002 : Int64), g4)) else (if n3 = 2 then (some ((-9000000000000000003 : Int64), g4)) else (none)))
def f_L_load   (g : gG) : Option (Int64 × gG) :=
  gXh (f_X9_load g) (fun r2 g1 => some (r2.toInt64, g1)) (fun n3 g4 => if n3 = 2 then (some ((-9000000000000000003 : Int64), g4)) else (none))
def f_L_about  (a1 : Int32) (g : gG) : Option (Int64 × gG) :=
  gXh (f_X9_about a1 g) (fun r2 g1 => some (r2.toInt64, g1)) (fun n3 g4 => if n3 = 1 then (some ((-9000000000000000002 : Int64), g4)) else (none))
def f_L_place  (a1 : Int32) (a2 : Int32) (g : gG) : Option (Int64 × gG) :=
  gXh (f_X9_place a1 a2 g) (fun r2 g1 => some (r2.toInt64, g1)) (fun n3 g4 => if n3 = 3 then (some ((-9000000000000000001 : Int64), g4)) else (if n3 = 1 then (some ((-9000000000000000002 : Int64), g4)) else (none)))
def f_L_holds  (a1 : Int32) (a2 : Int32) (g : gG) : Option (Int64 × gG) :=
  gXh (f_X9_holds a1 a2 g) (fun r2 g1 => if r2 = (0 : Int32) then (some ((0 : Int64), g1)) else (some ((1 : Int64), g1))) (fun n3 g4 => if n3 = 3 then (some ((-9000000000000000001 : Int64), g4)) else (if n3 = 1 then (some ((-9000000000000000002 : Int64), g4)) else (none)))
def f_L_team  (a1 : Int32) (a2 : Int32) (g : gG) : Option (Int64 × gG) :=
  gXh (f_X9_team a1 a2 g) (fun r2 g1 => some (r2.toInt64, g1)) (fun n3 g4 => if n3 = 3 then (some ((-9000000000000000001 : Int64), g4)) else (if n3 = 1 then (some ((-9000000000000000002 : Int64), g4)) else (none)))
def f_L_trail  (a1 : Int32) (a2 : Int32) (g : gG) : Option (Int64 × gG) :=
  gXh (f_X9_trail a1 a2 g) (fun r2 g1 => some (r2.toInt64, g1)) (fun n3 g4 => if n3 = 3 then (some ((-9000000000000000001 : Int64), g4)) else (if n3 = 1 then (some ((-9000000000000000002 : Int64), g4)) else (none)))
def f_L_open  (a1 : Int32) (g : gG) : Option (Int64 × gG) :=
  gXh (f_X9_open a1 g) (fun r2 g1 => some (r2.toInt64, g1)) (fun n3 g4 => if n3 = 3 then (some ((-9000000000000000001 : Int64), g4)) else (none))
def f_L_addTeam   (g : gG) : Option (Int64 × gG) :=
  gXh (f_X9_addTeam g) (fun r2 g1 => some (r2.toInt64, g1)) (fun n3 g4 => if n3 = 2 then (some ((-9000000000000000003 : Int64), g4)) else (none))
def f_L_go  (a1 : Int32) (a2 : Int32) (g : gG) : Option (Int64 × gG) :=
  gXh (f_X9_go a1 a2 g) (fun r2 g1 => some (r2.toInt64, g1)) (fun n3 g4 => if n3 = 3 then (some ((-9000000000000000001 : Int64), g4)) else (if n3 = 2 then (some ((-9000000000000000003 : Int64), g4)) else (none)))
def f_L_hint  (a1 : Int32) (g : gG) : Option (Int64 × gG) :=
  gXh (f_X9_hint a1 g) (fun r2 g1 => some (r2.toInt64, g1)) (fun n3 g4 => if n3 = 3 then (some ((-9000000000000000001 : Int64), g4)) else (if n3 = 2 then (some ((-9000000000000000003 : Int64), g4)) else (none)))
def f_L_giveUp  (a1 : Int32) (g : gG) : Option (Int64 × gG) :=
  gXh (f_X9_giveUp a1 g) (fun r2 g1 => some (r2.toInt64, g1)) (fun n3 g4 => if n3 = 3 then (some ((-9000000000000000001 : Int64), g4)) else (none))
def f_L_move  (a1 : Int32) (a2 : Int32) (a3 : Int32) (g : gG) : Option (Int64 × gG) :=
  gXh (f_X9_move a1 a2 a3 g) (fun r2 g1 => some (r2.toInt64, g1)) (fun n3 g4 => if n3 = 3 then (some ((-9000000000000000001 : Int64), g4)) else (if n3 = 1 then (some ((-9000000000000000002 : Int64), g4)) else (none)))
def f_L_ease  (a1 : Int32) (g : gG) : Option (Int64 × gG) :=
  gXh (f_X9_ease a1 g) (fun r2 g1 => some (r2.toInt64, g1)) (fun n3 g4 => if n3 = 3 then (some ((-9000000000000000001 : Int64), g4)) else (none))
def f_L_undo   (g : gG) : Option (Int64 × gG) :=
  gXh (f_X9_undo g) (fun r2 g1 => some (r2.toInt64, g1)) (fun n3 g4 => if n3 = 2 then (some ((-9000000000000000003 : Int64), g4)) else (none))
def f_L_shortest  (a1 : Int32) (a2 : Int32) (g : gG) : Option (Int64 × gG) :=
  gXh (f_X9_shortest a1 a2 g) (fun r2 g1 => some (r2.toInt64, g1)) (fun n3 g4 => if n3 = 3 then (some ((-9000000000000000001 : Int64), g4)) else (if n3 = 1 then (some ((-9000000000000000002 : Int64), g4)) else (none)))
def f_L_quickest  (a1 : Int32) (a2 : Int32) (g : gG) : Option (Int64 × gG) :=
  gXh (f_X9_quickest a1 a2 g) (fun r2 g1 => some (r2.toInt64, g1)) (fun n3 g4 => if n3 = 3 then (some ((-9000000000000000001 : Int64), g4)) else (if n3 = 1 then (some ((-9000000000000000002 : Int64), g4)) else (none)))
def f_L_orders  (a1 : Int32) (g : gG) : Option (Int64 × gG) :=
  gXh (f_X9_orders a1 g) (fun r2 g1 => some (r2.toInt64, g1)) (fun n3 g4 => if n3 = 3 then (some ((-9000000000000000001 : Int64), g4)) else (none))
def f_L_safe  (a1 : Int32) (g : gG) : Option (Int64 × gG) :=
  gXh (f_X9_safe a1 g) (fun r2 g1 => some (r2.toInt64, g1)) (fun n3 g4 => if n3 = 3 then (some ((-9000000000000000001 : Int64), g4)) else (none))
def f_L_needed  (a1 : Int32) (g : gG) : Option (Int64 × gG) :=
  gXh (f_X9_needed a1 g) (fun r2 g1 => some (r2.toInt64, g1)) (fun n3 g4 => if n3 = 3 then (some ((-9000000000000000001 : Int64), g4)) else (none))
def f_L_script  (a1 : Int32) (a2 : Int64) (g : gG) : Option (Int64 × gG) :=
  gXh (f_X9_runScript a1 a2 g) (fun r2 g1 => some (r2.toInt64, g1)) (fun n3 g4 => if n3 = 1 then (some ((-9000000000000000002 : Int64), g4)) else (none))
def f_L_simulate  (a1 : Int64) (a3 : Int32) (g : gG) : Option (Int64 × gG) :=
  gXh (f_X9_simulate a1 a3 g) (fun r2 g1 => some (r2.toInt64, g1)) (fun n3 g4 => if n3 = 1 then (some ((-9000000000000000002 : Int64), g4)) else (none))
def f_L_save  (a1 : Int32) (g : gG) : Option (Int64 × gG) :=
  gXh (f_X9_save a1 g) (fun r2 g1 => some (r2.toInt64, g1)) (fun n3 g4 => if n3 = 3 then (some ((-9000000000000000001 : Int64), g4)) else (none))
def f_L_restore  (a1 : Int32) (g : gG) : Option (Int64 × gG) :=
  gXh (f_X9_restore a1 g) (fun r2 g1 => some (r2.toInt64, g1)) (fun n3 g4 => if n3 = 3 then (some ((-9000000000000000001 : Int64), g4)) else (if n3 = 2 then (some ((-9000000000000000003 : Int64), g4)) else (none)))
def f_L_in  (a0 : Int64) (a2 : Int64) (a4 : Int64) (g : gG) : Option (Int32 × gG) :=
  if (lg_cmp a0 a2) < (0 : Int32) then (some ((0 : Int32), g)) else (if (0 : Int32) < (lg_cmp a0 a4) then (some ((0 : Int32), g)) else (some ((1 : Int32), g)))
def f_L_has  (a0 : Int64) (a2 : Int32) (g : gG) : Option (Int32 × gG) :=
  if (lg_cmp ((a0 >>> (a2.toInt64 &&& 63)) &&& (1 : Int64)) (1 : Int64)) = (0 : Int32) then (some ((1 : Int32), g)) else (some ((0 : Int32), g))
def fs_L_now_94 (F80 : Int64 → Int32 → gG → Option (Int64 × gG)) (F94 : Int64 → Int32 → Int32 → gG → Option (Int64 × gG)) (l1 : Int64) (l3 : Int32) (l4 : Int32) (g : gG) : Option (Int64 × gG) :=
  if (6 : Int32) ≤ l4 then ((f_L_open l3 g).bind (fun u2 => (f_L_orders l3 u2.2).bind (fun u3 => gLet (((31 : Int64) * (((31 : Int64) * l1) + u2.1)) + u3.1) (fun x4 => gLet (l3 + (1 : Int32)) (fun x5 => F80 x4 x5 u3.2))))) else ((f_L_team l3 l4 g).bind (fun u6 => gLet (((31 : Int64) * l1) + u6.1) (fun x7 => gLet (l4 + (1 : Int32)) (fun x8 => F94 x7 l3 x8 u6.2))))
def fb_L_now_94 (F80 : Int64 → Int32 → gG → Option (Int64 × gG)) : Nat → Int64 → Int32 → Int32 → gG → Option (Int64 × gG)
  | 0 => fun _ _ _ _ => none
  | n + 1 => fs_L_now_94 F80 (fb_L_now_94 F80 n)
def fs_L_now_80 (F80 : Int64 → Int32 → gG → Option (Int64 × gG)) (l1 : Int64) (l3 : Int32) (g : gG) : Option (Int64 × gG) :=
  (f_L_about (1 : Int32) g).bind (fun u1 => if (0 : Int32) ≤ (lg_cmp l3.toInt64 u1.1) then (some (l1, u1.2)) else (fb_L_now_94 F80 gFuel7 l1 l3 (0 : Int32) u1.2))
def fb_L_now_80  : Nat → Int64 → Int32 → gG → Option (Int64 × gG)
  | 0 => fun _ _ _ => none
  | n + 1 => fs_L_now_80 (fb_L_now_80 n)
def fs_L_now_46 (F32 : Int64 → Int32 → gG → Option (Int64 × gG)) (F46 : Int64 → Int32 → Int32 → gG → Option (Int64 × gG)) (l1 : Int64) (l3 : Int32) (l4 : Int32) (g : gG) : Option (Int64 × gG) :=
  if (4 : Int32) ≤ l4 then (gLet (l3 + (1 : Int32)) (fun x2 => F32 l1 x2 g)) else ((f_L_place l3 l4 g).bind (fun u3 => gLet (((31 : Int64) * l1) + u3.1) (fun x4 => gLet (l4 + (1 : Int32)) (fun x5 => F46 x4 l3 x5 u3.2))))
def fb_L_now_46 (F32 : Int64 → Int32 → gG → Option (Int64 × gG)) : Nat → Int64 → Int32 → Int32 → gG → Option (Int64 × gG)
  | 0 => fun _ _ _ _ => none
  | n + 1 => fs_L_now_46 F32 (fb_L_now_46 F32 n)
def fs_L_now_32 (F32 : Int64 → Int32 → gG → Option (Int64 × gG)) (l1 : Int64) (l3 : Int32) (g : gG) : Option (Int64 × gG) :=
  (f_L_about (0 : Int32) g).bind (fun u1 => if (0 : Int32) ≤ (lg_cmp l3.toInt64 u1.1) then (fb_L_now_80 gFuel5 l1 (0 : Int32) u1.2) else (fb_L_now_46 F32 gFuel5 l1 l3 (0 : Int32) u1.2))
def fb_L_now_32  : Nat → Int64 → Int32 → gG → Option (Int64 × gG)
  | 0 => fun _ _ _ => none
  | n + 1 => fs_L_now_32 (fb_L_now_32 n)
def fs_L_now_6 (F6 : Int64 → Int32 → gG → Option (Int64 × gG)) (l1 : Int64) (l3 : Int32) (g : gG) : Option (Int64 × gG) :=
  if (6 : Int32) ≤ l3 then (fb_L_now_32 gFuelL l1 (0 : Int32) g) else ((f_L_about l3 g).bind (fun u2 => gLet (((31 : Int64) * l1) + u2.1) (fun x3 => gLet (l3 + (1 : Int32)) (fun x4 => F6 x3 x4 u2.2))))
def fb_L_now_6  : Nat → Int64 → Int32 → gG → Option (Int64 × gG)
  | 0 => fun _ _ _ => none
  | n + 1 => fs_L_now_6 (fb_L_now_6 n)
def f_L_now   (g : gG) : Option (Int64 × gG) :=
  fb_L_now_6 gFuel7 (41 : Int64) (0 : Int32) g
def fs_L_many_24 (F4 : Int64 → Int32 → Int32 → gG → Option (Int32 × gG)) (l0 : Int64) (l3 : Int32) (s0 : Int32) (s1 : Int32) (g : gG) : Option (Int32 × gG) :=
  gLet (s0 + s1) (fun x1 => gLet (l3 + (1 : Int32)) (fun x2 => F4 l0 x1 x2 g))
def fs_L_many_4 (F4 : Int64 → Int32 → Int32 → gG → Option (Int32 × gG)) (l0 : Int64) (l2 : Int32) (l3 : Int32) (g : gG) : Option (Int32 × gG) :=
  if (10 : Int32) ≤ l3 then (some (l2, g)) else ((f_L_has l0 l3 g).bind (fun u2 => if u2.1 = (0 : Int32) then (fs_L_many_24 F4 l0 l3 l2 (0 : Int32) u2.2) else (fs_L_many_24 F4 l0 l3 l2 (1 : Int32) u2.2)))
def fb_L_many_4  : Nat → Int64 → Int32 → Int32 → gG → Option (Int32 × gG)
  | 0 => fun _ _ _ _ => none
  | n + 1 => fs_L_many_4 (fb_L_many_4 n)
def f_L_many  (a0 : Int64) (g : gG) : Option (Int32 × gG) :=
  fb_L_many_4 gFuel a0 (0 : Int32) (0 : Int32) g
def fs_L_errors_438  (l1 : Int64) (l4 : Int32) (l5 : Int32) (g : gG) : Option (Int32 × gG) :=
  if l5 = (0 : Int32) then (some ((0 : Int32), g)) else ((f_L_shortest l4 (0 : Int32) g).bind (fun u2 => if (lg_cmp u2.1 (-9000000000000000001 : Int64)) = (0 : Int32) then ((f_L_quickest l4 (0 : Int32) u2.2).bind (fun u4 => if (lg_cmp u4.1 (-9000000000000000001 : Int64)) = (0 : Int32) then ((f_L_orders (-1 : Int32) u4.2).bind (fun u6 => if (lg_cmp u6.1 (-9000000000000000001 : Int64)) = (0 : Int32) then ((f_L_safe l4 u6.2).bind (fun u8 => if (lg_cmp u8.1 (-9000000000000000001 : Int64)) = (0 : Int32) then ((f_L_needed l4 u8.2).bind (fun u10 => if (lg_cmp u10.1 (-9000000000000000001 : Int64)) = (0 : Int32) then ((f_L_script (0 : Int32) (0 : Int64) u10.2).bind (fun u12 => if (lg_cmp u12.1 (-9000000000000000002 : Int64)) = (0 : Int32) then ((f_L_script (4 : Int32) (10000000000000000 : Int64) u12.2).bind (fun u14 => if (lg_cmp u14.1 (-9000000000000000002 : Int64)) = (0 : Int32) then ((f_L_simulate (1 : Int64) (0 : Int32) u14.2).bind (fun u16 => if (lg_cmp u16.1 (-9000000000000000002 : Int64)) = (0 : Int32) then ((f_L_save (2 : Int32) u16.2).bind (fun u18 => if (lg_cmp u18.1 (-9000000000000000001 : Int64)) = (0 : Int32) then ((f_L_restore (2 : Int32) u18.2).bind (fun u20 => if (lg_cmp u20.1 (-9000000000000000001 : Int64)) = (0 : Int32) then ((f_L_append (-1 : Int32) u20.2).bind (fun u22 => if (lg_cmp u22.1 (-9000000000000000002 : Int64)) = (0 : Int32) then ((f_L_now u22.2).bind (fun u24 => if (lg_cmp u24.1 l1) = (0 : Int32) then (some ((1 : Int32), u24.2)) else (some ((0 : Int32), u24.2)))) else (some ((0 : Int32), u22.2)))) else (some ((0 : Int32), u20.2)))) else (some ((0 : Int32), u18.2)))) else (some ((0 : Int32), u16.2)))) else (some ((0 : Int32), u14.2)))) else (some ((0 : Int32), u12.2)))) else (some ((0 : Int32), u10.2)))) else (some ((0 : Int32), u8.2)))) else (some ((0 : Int32), u6.2)))) else (some ((0 : Int32), u4.2)))) else (some ((0 : Int32), u2.2))))
def fs_L_errors_424 (F262 : Int64 → Int32 → Int32 → Int32 → Int32 → gG → Option (Int32 × gG)) (F379 : Int64 → Int32 → Int32 → Int32 → Int32 → Int32 → gG → Option (Int32 × gG)) (l1 : Int64) (l3 : Int32) (l4 : Int32) (l6 : Int32) (l7 : Int32) (s0 : Int32) (g : gG) : Option (Int32 × gG) :=
  gLet (l7 + (1 : Int32)) (fun x1 => F379 l1 l3 l4 s0 l6 x1 g)
def fs_L_errors_419 (F262 : Int64 → Int32 → Int32 → Int32 → Int32 → gG → Option (Int32 × gG)) (F379 : Int64 → Int32 → Int32 → Int32 → Int32 → Int32 → gG → Option (Int32 × gG)) (l1 : Int64) (l3 : Int32) (l4 : Int32) (l6 : Int32) (l7 : Int32) (g : gG) : Option (Int32 × gG) :=
  fs_L_errors_424 F262 F379 l1 l3 l4 l6 l7 (1 : Int32) g
def fs_L_errors_379 (F262 : Int64 → Int32 → Int32 → Int32 → Int32 → gG → Option (Int32 × gG)) (F379 : Int64 → Int32 → Int32 → Int32 → Int32 → Int32 → gG → Option (Int32 × gG)) (l1 : Int64) (l3 : Int32) (l4 : Int32) (l5 : Int32) (l6 : Int32) (l7 : Int32) (g : gG) : Option (Int32 × gG) :=
  if l3 ≤ l7 then (gLet (l6 + (1 : Int32)) (fun x2 => F262 l1 l3 l4 l5 x2 g)) else (if l5 = (0 : Int32) then (gLet (l6 + (1 : Int32)) (fun x4 => F262 l1 l3 l4 l5 x4 g)) else ((f_L_open l6 g).bind (fun u5 => (f_L_has u5.1 l7 u5.2).bind (fun u6 => if u6.1 = (0 : Int32) then ((f_L_go l6 l7 u6.2).bind (fun u8 => if (lg_cmp u8.1 (-9000000000000000003 : Int64)) = (0 : Int32) then (fs_L_errors_419 F262 F379 l1 l3 l4 l6 l7 u8.2) else (fs_L_errors_424 F262 F379 l1 l3 l4 l6 l7 (0 : Int32) u8.2))) else (fs_L_errors_419 F262 F379 l1 l3 l4 l6 l7 u6.2)))))
def fb_L_errors_379 (F262 : Int64 → Int32 → Int32 → Int32 → Int32 → gG → Option (Int32 × gG)) : Nat → Int64 → Int32 → Int32 → Int32 → Int32 → Int32 → gG → Option (Int32 × gG)
  | 0 => fun _ _ _ _ _ _ _ => none
  | n + 1 => fs_L_errors_379 F262 (fb_L_errors_379 F262 n)
def fs_L_errors_374 (F262 : Int64 → Int32 → Int32 → Int32 → Int32 → gG → Option (Int32 × gG)) (l1 : Int64) (l3 : Int32) (l4 : Int32) (l6 : Int32) (s0 : Int32) (g : gG) : Option (Int32 × gG) :=
  fb_L_errors_379 F262 gFuelL l1 l3 l4 s0 l6 (0 : Int32) g
def fs_L_errors_373 (F262 : Int64 → Int32 → Int32 → Int32 → Int32 → gG → Option (Int32 × gG)) (l1 : Int64) (l3 : Int32) (l4 : Int32) (l6 : Int32) (g : gG) : Option (Int32 × gG) :=
  fs_L_errors_374 F262 l1 l3 l4 l6 (0 : Int32) g
def fs_L_errors_369 (F262 : Int64 → Int32 → Int32 → Int32 → Int32 → gG → Option (Int32 × gG)) (l1 : Int64) (l3 : Int32) (l4 : Int32) (l6 : Int32) (g : gG) : Option (Int32 × gG) :=
  fs_L_errors_374 F262 l1 l3 l4 l6 (1 : Int32) g
def fs_L_errors_262 (F262 : Int64 → Int32 → Int32 → Int32 → Int32 → gG → Option (Int32 × gG)) (l1 : Int64) (l3 : Int32) (l4 : Int32) (l5 : Int32) (l6 : Int32) (g : gG) : Option (Int32 × gG) :=
  if l4 ≤ l6 then (fs_L_errors_438 l1 l4 l5 g) else (if l5 = (0 : Int32) then (fs_L_errors_438 l1 l4 l5 g) else ((f_L_team l6 (6 : Int32) g).bind (fun u3 => if (lg_cmp u3.1 (-9000000000000000002 : Int64)) = (0 : Int32) then ((f_L_trail l6 (-1 : Int32) u3.2).bind (fun u5 => if (lg_cmp u5.1 (-9000000000000000002 : Int64)) = (0 : Int32) then ((f_L_go l6 l3 u5.2).bind (fun u7 => if (lg_cmp u7.1 (-9000000000000000001 : Int64)) = (0 : Int32) then ((f_L_shortest l6 (2 : Int32) u7.2).bind (fun u9 => if (lg_cmp u9.1 (-9000000000000000002 : Int64)) = (0 : Int32) then ((f_L_quickest l6 (-1 : Int32) u9.2).bind (fun u11 => if (lg_cmp u11.1 (-9000000000000000002 : Int64)) = (0 : Int32) then ((f_L_safe l6 u11.2).bind (fun u13 => if (0 : Int32) < (lg_cmp u13.1 (0 : Int64)) then (fs_L_errors_369 F262 l1 l3 l4 l6 u13.2) else ((f_L_hint l6 u13.2).bind (fun u15 => if (lg_cmp u15.1 (-9000000000000000003 : Int64)) = (0 : Int32) then (fs_L_errors_369 F262 l1 l3 l4 l6 u15.2) else (fs_L_errors_373 F262 l1 l3 l4 l6 u15.2))))) else (fs_L_errors_373 F262 l1 l3 l4 l6 u11.2))) else (fs_L_errors_373 F262 l1 l3 l4 l6 u9.2))) else (fs_L_errors_373 F262 l1 l3 l4 l6 u7.2))) else (fs_L_errors_373 F262 l1 l3 l4 l6 u5.2))) else (fs_L_errors_373 F262 l1 l3 l4 l6 u3.2))))
def fb_L_errors_262  : Nat → Int64 → Int32 → Int32 → Int32 → Int32 → gG → Option (Int32 × gG)
  | 0 => fun _ _ _ _ _ _ => none
  | n + 1 => fs_L_errors_262 (fb_L_errors_262 n)
def fs_L_errors_257  (l1 : Int64) (l3 : Int32) (l4 : Int32) (s0 : Int32) (g : gG) : Option (Int32 × gG) :=
  fb_L_errors_262 gFuel5 l1 l3 l4 s0 (0 : Int32) g
def fs_L_errors_256  (l1 : Int64) (l3 : Int32) (l4 : Int32) (g : gG) : Option (Int32 × gG) :=
  fs_L_errors_257 l1 l3 l4 (0 : Int32) g
def fs_L_errors_252  (l1 : Int64) (l3 : Int32) (l4 : Int32) (g : gG) : Option (Int32 × gG) :=
  fs_L_errors_257 l1 l3 l4 (1 : Int32) g
def f_L_errors   (g : gG) : Option (Int32 × gG) :=
  (f_L_now g).bind (fun u1 => gLet u1.1 (fun x2 => (f_L_about (0 : Int32) u1.2).bind (fun u3 => gLet u3.1.toInt32 (fun x4 => (f_L_about (1 : Int32) u3.2).bind (fun u5 => gLet u5.1.toInt32 (fun x6 => (f_L_about (-1 : Int32) u5.2).bind (fun u7 => if (lg_cmp u7.1 (-9000000000000000002 : Int64)) = (0 : Int32) then ((f_L_about (6 : Int32) u7.2).bind (fun u9 => if (lg_cmp u9.1 (-9000000000000000002 : Int64)) = (0 : Int32) then ((f_L_place x4 (9 : Int32) u9.2).bind (fun u11 => if (lg_cmp u11.1 (-9000000000000000001 : Int64)) = (0 : Int32) then ((f_L_place (0 : Int32) (4 : Int32) u11.2).bind (fun u13 => if (lg_cmp u13.1 (-9000000000000000002 : Int64)) = (0 : Int32) then ((f_L_holds x4 (-1 : Int32) u13.2).bind (fun u15 => if (lg_cmp u15.1 (-9000000000000000001 : Int64)) = (0 : Int32) then ((f_L_holds (0 : Int32) (-1 : Int32) u15.2).bind (fun u17 => if (lg_cmp u17.1 (-9000000000000000002 : Int64)) = (0 : Int32) then ((f_L_holds (0 : Int32) ((1 : Int32) <<< (x4 &&& 31)) u17.2).bind (fun u19 => if (lg_cmp u19.1 (-9000000000000000002 : Int64)) = (0 : Int32) then ((f_L_team x6 (9 : Int32) u19.2).bind (fun u21 => if (lg_cmp u21.1 (-9000000000000000001 : Int64)) = (0 : Int32) then ((f_L_trail x6 (-1 : Int32) u21.2).bind (fun u23 => if (lg_cmp u23.1 (-9000000000000000001 : Int64)) = (0 : Int32) then ((f_L_open (-1 : Int32) u23.2).bind (fun u25 => if (lg_cmp u25.1 (-9000000000000000001 : Int64)) = (0 : Int32) then ((f_L_go x6 (0 : Int32) u25.2).bind (fun u27 => if (lg_cmp u27.1 (-9000000000000000001 : Int64)) = (0 : Int32) then ((f_L_hint x6 u27.2).bind (fun u29 => if (lg_cmp u29.1 (-9000000000000000001 : Int64)) = (0 : Int32) then ((f_L_giveUp (-1 : Int32) u29.2).bind (fun u31 => if (lg_cmp u31.1 (-9000000000000000001 : Int64)) = (0 : Int32) then ((f_L_move x4 (10 : Int32) (0 : Int32) u31.2).bind (fun u33 => if (lg_cmp u33.1 (-9000000000000000001 : Int64)) = (0 : Int32) then ((f_L_move (0 : Int32) (0 : Int32) (10 : Int32) u33.2).bind (fun u35 => if (lg_cmp u35.1 (-9000000000000000002 : Int64)) = (0 : Int32) then ((f_L_ease x4 u35.2).bind (fun u37 => if (lg_cmp u37.1 (-9000000000000000001 : Int64)) = (0 : Int32) then (if x6 < (4 : Int32) then (fs_L_errors_252 x2 x4 x6 u37.2) else ((f_L_addTeam u37.2).bind (fun u40 => if (lg_cmp u40.1 (-9000000000000000003 : Int64)) = (0 : Int32) then (fs_L_errors_252 x2 x4 x6 u40.2) else (fs_L_errors_256 x2 x4 x6 u40.2)))) else (fs_L_errors_256 x2 x4 x6 u37.2))) else (fs_L_errors_256 x2 x4 x6 u35.2))) else (fs_L_errors_256 x2 x4 x6 u33.2))) else (fs_L_errors_256 x2 x4 x6 u31.2))) else (fs_L_errors_256 x2 x4 x6 u29.2))) else (fs_L_errors_256 x2 x4 x6 u27.2))) else (fs_L_errors_256 x2 x4 x6 u25.2))) else (fs_L_errors_256 x2 x4 x6 u23.2))) else (fs_L_errors_256 x2 x4 x6 u21.2))) else (fs_L_errors_256 x2 x4 x6 u19.2))) else (fs_L_errors_256 x2 x4 x6 u17.2))) else (fs_L_errors_256 x2 x4 x6 u15.2))) else (fs_L_errors_256 x2 x4 x6 u13.2))) else (fs_L_errors_256 x2 x4 x6 u11.2))) else (fs_L_errors_256 x2 x4 x6 u9.2))) else (fs_L_errors_256 x2 x4 x6 u7.2))))))))
def fs_L_kept_892  (l1 : Int32) (g : gG) : Option (Int32 × gG) :=
  (f_L_place (0 : Int32) (3 : Int32) g).bind (fun u1 => (f_L_in u1.1 (0 : Int64) (((1 : Int32) <<< ((l1 - (1 : Int32)) &&& 31)).toInt64) u1.2).bind (fun u2 => if u2.1 = (0 : Int32) then (some ((0 : Int32), u2.2)) else (some ((1 : Int32), u2.2))))
def fs_L_kept_812  (l1 : Int32) (l3 : Int32) (l4 : Int64) (l6 : Int64) (l8 : Int64) (l10 : Int32) (g : gG) : Option (Int32 × gG) :=
  (f_X9_easeBy g).bind (fun u1 => gLet u1.1 (fun x2 => if l3 = (0 : Int32) then (some ((0 : Int32), u1.2)) else ((f_L_about (2 : Int32) u1.2).bind (fun u4 => if (lg_cmp u4.1 l10.toInt64) = (0 : Int32) then ((f_L_about (3 : Int32) u4.2).bind (fun u6 => if (lg_cmp u6.1 l6) = (0 : Int32) then ((f_L_about (4 : Int32) u6.2).bind (fun u8 => (f_L_many l4 u8.2).bind (fun u9 => if (lg_cmp u8.1 u9.1.toInt64) = (0 : Int32) then ((f_L_about (5 : Int32) u9.2).bind (fun u11 => if (lg_cmp u11.1 l8) = (0 : Int32) then ((f_X9_deadEnds u11.2).bind (fun u13 => if u13.1 < (0 : Int32) then (some ((0 : Int32), u13.2)) else ((f_X9_deadEnds u13.2).bind (fun u15 => if (0 : Int32) < u15.1 then (fs_L_kept_892 l1 u15.2) else (if x2 = (-9 : Int32) then (fs_L_kept_892 l1 u15.2) else (some ((0 : Int32), u15.2))))))) else (some ((0 : Int32), u11.2)))) else (some ((0 : Int32), u9.2))))) else (some ((0 : Int32), u6.2)))) else (some ((0 : Int32), u4.2))))))
def fs_L_kept_803 (F61 : Int32 → Int32 → Int32 → Int64 → Int64 → Int64 → Int32 → Int32 → gG → Option (Int32 × gG)) (l1 : Int32) (l2 : Int32) (l3 : Int32) (l4 : Int64) (l6 : Int64) (l8 : Int64) (l11 : Int32) (s0 : Int32) (s1 : Int32) (g : gG) : Option (Int32 × gG) :=
  gLet (s0 + s1) (fun x1 => gLet (l11 + (1 : Int32)) (fun x2 => F61 l1 l2 l3 l4 l6 l8 x1 x2 g))
def fs_L_kept_777 (F61 : Int32 → Int32 → Int32 → Int64 → Int64 → Int64 → Int32 → Int32 → gG → Option (Int32 × gG)) (l1 : Int32) (l2 : Int32) (l3 : Int32) (l4 : Int64) (l8 : Int64) (l10 : Int32) (l11 : Int32) (l15 : Int32) (s0 : Int64) (g : gG) : Option (Int32 × gG) :=
  (f_L_team l11 (3 : Int32) g).bind (fun u1 => gLet (l8 + u1.1) (fun x2 => if l15 = (0 : Int32) then (fs_L_kept_803 F61 l1 l2 l3 l4 s0 x2 l11 l10 (0 : Int32) u1.2) else (fs_L_kept_803 F61 l1 l2 l3 l4 s0 x2 l11 l10 (1 : Int32) u1.2)))
def fs_L_kept_754 (F61 : Int32 → Int32 → Int32 → Int64 → Int64 → Int64 → Int32 → Int32 → gG → Option (Int32 × gG)) (l1 : Int32) (l2 : Int32) (l4 : Int64) (l6 : Int64) (l8 : Int64) (l10 : Int32) (l11 : Int32) (l12 : Int64) (l15 : Int32) (l16 : Int64) (s0 : Int32) (g : gG) : Option (Int32 × gG) :=
  gLet (l4 ||| l12) (fun x1 => if (lg_cmp l16 l6) ≤ (0 : Int32) then (fs_L_kept_777 F61 l1 l2 s0 x1 l8 l10 l11 l15 l6 g) else (fs_L_kept_777 F61 l1 l2 s0 x1 l8 l10 l11 l15 l16 g))
def fs_L_kept_753 (F61 : Int32 → Int32 → Int32 → Int64 → Int64 → Int64 → Int32 → Int32 → gG → Option (Int32 × gG)) (l1 : Int32) (l2 : Int32) (l4 : Int64) (l6 : Int64) (l8 : Int64) (l10 : Int32) (l11 : Int32) (l12 : Int64) (l15 : Int32) (l16 : Int64) (g : gG) : Option (Int32 × gG) :=
  fs_L_kept_754 F61 l1 l2 l4 l6 l8 l10 l11 l12 l15 l16 (0 : Int32) g
def fs_L_kept_749 (F61 : Int32 → Int32 → Int32 → Int64 → Int64 → Int64 → Int32 → Int32 → gG → Option (Int32 × gG)) (l1 : Int32) (l2 : Int32) (l4 : Int64) (l6 : Int64) (l8 : Int64) (l10 : Int32) (l11 : Int32) (l12 : Int64) (l15 : Int32) (l16 : Int64) (g : gG) : Option (Int32 × gG) :=
  fs_L_kept_754 F61 l1 l2 l4 l6 l8 l10 l11 l12 l15 l16 (1 : Int32) g
def fs_L_kept_642 (F61 : Int32 → Int32 → Int32 → Int64 → Int64 → Int64 → Int32 → Int32 → gG → Option (Int32 × gG)) (l1 : Int32) (l2 : Int32) (l4 : Int64) (l6 : Int64) (l8 : Int64) (l10 : Int32) (l11 : Int32) (l12 : Int64) (l15 : Int32) (l16 : Int64) (l22 : Int32) (l23 : Int64) (l25 : Int64) (g : gG) : Option (Int32 × gG) :=
  if l15 = (0 : Int32) then (if l22 = (0 : Int32) then ((f_L_shortest l11 (0 : Int32) g).bind (fun u3 => if (lg_cmp u3.1 (-9 : Int64)) = (0 : Int32) then ((f_L_shortest l11 (1 : Int32) u3.2).bind (fun u5 => if (lg_cmp u5.1 (-9 : Int64)) = (0 : Int32) then ((f_L_quickest l11 (0 : Int32) u5.2).bind (fun u7 => if (lg_cmp u7.1 (-9 : Int64)) = (0 : Int32) then ((f_L_quickest l11 (1 : Int32) u7.2).bind (fun u9 => if (lg_cmp u9.1 (-9 : Int64)) = (0 : Int32) then (fs_L_kept_749 F61 l1 l2 l4 l6 l8 l10 l11 l12 l15 l16 u9.2) else (fs_L_kept_753 F61 l1 l2 l4 l6 l8 l10 l11 l12 l15 l16 u9.2))) else (fs_L_kept_753 F61 l1 l2 l4 l6 l8 l10 l11 l12 l15 l16 u7.2))) else (fs_L_kept_753 F61 l1 l2 l4 l6 l8 l10 l11 l12 l15 l16 u5.2))) else (fs_L_kept_753 F61 l1 l2 l4 l6 l8 l10 l11 l12 l15 l16 u3.2))) else (fs_L_kept_749 F61 l1 l2 l4 l6 l8 l10 l11 l12 l15 l16 g)) else ((f_L_shortest l11 (0 : Int32) g).bind (fun u11 => if (lg_cmp u11.1 (0 : Int64)) = (0 : Int32) then ((f_L_quickest l11 (0 : Int32) u11.2).bind (fun u13 => if (lg_cmp u13.1 (0 : Int64)) = (0 : Int32) then (if (lg_cmp l23 (1 : Int64)) = (0 : Int32) then (if (lg_cmp l25 (0 : Int64)) = (0 : Int32) then (fs_L_kept_749 F61 l1 l2 l4 l6 l8 l10 l11 l12 l15 l16 u13.2) else (fs_L_kept_753 F61 l1 l2 l4 l6 l8 l10 l11 l12 l15 l16 u13.2)) else (fs_L_kept_753 F61 l1 l2 l4 l6 l8 l10 l11 l12 l15 l16 u13.2)) else (fs_L_kept_753 F61 l1 l2 l4 l6 l8 l10 l11 l12 l15 l16 u13.2))) else (fs_L_kept_753 F61 l1 l2 l4 l6 l8 l10 l11 l12 l15 l16 u11.2)))
def fs_L_kept_546 (F61 : Int32 → Int32 → Int32 → Int64 → Int64 → Int64 → Int32 → Int32 → gG → Option (Int32 × gG)) (l1 : Int32) (l2 : Int32) (l4 : Int64) (l6 : Int64) (l8 : Int64) (l10 : Int32) (l11 : Int32) (l12 : Int64) (l15 : Int32) (l16 : Int64) (l20 : Int64) (l22 : Int32) (l23 : Int64) (l25 : Int64) (s0 : Int32) (s1 : Int32) (g : gG) : Option (Int32 × gG) :=
  if s0 = s1 then (if l22 = (0 : Int32) then (fs_L_kept_642 F61 l1 l2 l4 l6 l8 l10 l11 l12 l15 l16 l22 l23 l25 g) else ((f_L_has l25 (l1 - (1 : Int32)) g).bind (fun u3 => if u3.1 = (0 : Int32) then (fs_L_kept_753 F61 l1 l2 l4 l6 l8 l10 l11 l12 l15 l16 u3.2) else (if (lg_cmp (l25 &&& l12) (0 : Int64)) = (0 : Int32) then ((f_L_many l25 u3.2).bind (fun u6 => (f_L_shortest l11 (0 : Int32) u6.2).bind (fun u7 => if (0 : Int32) < (lg_cmp u6.1.toInt64 u7.1) then (fs_L_kept_753 F61 l1 l2 l4 l6 l8 l10 l11 l12 l15 l16 u7.2) else ((f_L_shortest l11 (0 : Int32) u7.2).bind (fun u9 => (f_L_quickest l11 (0 : Int32) u9.2).bind (fun u10 => if (0 : Int32) < (lg_cmp u9.1 u10.1) then (fs_L_kept_753 F61 l1 l2 l4 l6 l8 l10 l11 l12 l15 l16 u10.2) else ((f_L_shortest l11 (1 : Int32) u10.2).bind (fun u12 => (f_L_has l20 u12.1.toInt32 u12.2).bind (fun u13 => if u13.1 = (0 : Int32) then (fs_L_kept_753 F61 l1 l2 l4 l6 l8 l10 l11 l12 l15 l16 u13.2) else ((f_L_quickest l11 (1 : Int32) u13.2).bind (fun u15 => (f_L_has l20 u15.1.toInt32 u15.2).bind (fun u16 => if u16.1 = (0 : Int32) then (fs_L_kept_753 F61 l1 l2 l4 l6 l8 l10 l11 l12 l15 l16 u16.2) else (fs_L_kept_642 F61 l1 l2 l4 l6 l8 l10 l11 l12 l15 l16 l22 l23 l25 u16.2))))))))))))) else (fs_L_kept_753 F61 l1 l2 l4 l6 l8 l10 l11 l12 l15 l16 u3.2))))) else (fs_L_kept_753 F61 l1 l2 l4 l6 l8 l10 l11 l12 l15 l16 g)
def fs_L_kept_545 (F61 : Int32 → Int32 → Int32 → Int64 → Int64 → Int64 → Int32 → Int32 → gG → Option (Int32 × gG)) (l1 : Int32) (l2 : Int32) (l4 : Int64) (l6 : Int64) (l8 : Int64) (l10 : Int32) (l11 : Int32) (l12 : Int64) (l15 : Int32) (l16 : Int64) (l20 : Int64) (l22 : Int32) (l23 : Int64) (l25 : Int64) (s0 : Int32) (g : gG) : Option (Int32 × gG) :=
  fs_L_kept_546 F61 l1 l2 l4 l6 l8 l10 l11 l12 l15 l16 l20 l22 l23 l25 s0 (0 : Int32) g
def fs_L_kept_531 (F61 : Int32 → Int32 → Int32 → Int64 → Int64 → Int64 → Int32 → Int32 → gG → Option (Int32 × gG)) (l1 : Int32) (l2 : Int32) (l4 : Int64) (l6 : Int64) (l8 : Int64) (l10 : Int32) (l11 : Int32) (l12 : Int64) (l15 : Int32) (l16 : Int64) (l20 : Int64) (l22 : Int32) (l23 : Int64) (l25 : Int64) (s0 : Int32) (g : gG) : Option (Int32 × gG) :=
  if l15 = (0 : Int32) then (if l22 = (0 : Int32) then (fs_L_kept_546 F61 l1 l2 l4 l6 l8 l10 l11 l12 l15 l16 l20 l22 l23 l25 s0 (1 : Int32) g) else (fs_L_kept_545 F61 l1 l2 l4 l6 l8 l10 l11 l12 l15 l16 l20 l22 l23 l25 s0 g)) else (fs_L_kept_545 F61 l1 l2 l4 l6 l8 l10 l11 l12 l15 l16 l20 l22 l23 l25 s0 g)
def fs_L_kept_514 (F61 : Int32 → Int32 → Int32 → Int64 → Int64 → Int64 → Int32 → Int32 → gG → Option (Int32 × gG)) (l1 : Int32) (l2 : Int32) (l4 : Int64) (l6 : Int64) (l8 : Int64) (l10 : Int32) (l11 : Int32) (l12 : Int64) (l15 : Int32) (l16 : Int64) (l20 : Int64) (l22 : Int32) (l23 : Int64) (l25 : Int64) (s0 : Int32) (s1 : Int32) (g : gG) : Option (Int32 × gG) :=
  if s0 = s1 then (if (lg_cmp l25 (-9 : Int64)) = (0 : Int32) then (fs_L_kept_531 F61 l1 l2 l4 l6 l8 l10 l11 l12 l15 l16 l20 l22 l23 l25 (1 : Int32) g) else (fs_L_kept_531 F61 l1 l2 l4 l6 l8 l10 l11 l12 l15 l16 l20 l22 l23 l25 (0 : Int32) g)) else (fs_L_kept_753 F61 l1 l2 l4 l6 l8 l10 l11 l12 l15 l16 g)
def fs_L_kept_509 (F61 : Int32 → Int32 → Int32 → Int64 → Int64 → Int64 → Int32 → Int32 → gG → Option (Int32 × gG)) (l1 : Int32) (l2 : Int32) (l4 : Int64) (l6 : Int64) (l8 : Int64) (l10 : Int32) (l11 : Int32) (l12 : Int64) (l15 : Int32) (l16 : Int64) (l20 : Int64) (l22 : Int32) (l23 : Int64) (l25 : Int64) (s0 : Int32) (g : gG) : Option (Int32 × gG) :=
  fs_L_kept_514 F61 l1 l2 l4 l6 l8 l10 l11 l12 l15 l16 l20 l22 l23 l25 s0 (1 : Int32) g
def fs_L_kept_499 (F61 : Int32 → Int32 → Int32 → Int64 → Int64 → Int64 → Int32 → Int32 → gG → Option (Int32 × gG)) (l1 : Int32) (l2 : Int32) (l4 : Int64) (l6 : Int64) (l8 : Int64) (l10 : Int32) (l11 : Int32) (l12 : Int64) (l15 : Int32) (l16 : Int64) (l20 : Int64) (l22 : Int32) (l23 : Int64) (l25 : Int64) (s0 : Int32) (g : gG) : Option (Int32 × gG) :=
  if l15 = (0 : Int32) then (if l22 = (0 : Int32) then (fs_L_kept_514 F61 l1 l2 l4 l6 l8 l10 l11 l12 l15 l16 l20 l22 l23 l25 s0 (0 : Int32) g) else (fs_L_kept_509 F61 l1 l2 l4 l6 l8 l10 l11 l12 l15 l16 l20 l22 l23 l25 s0 g)) else (fs_L_kept_509 F61 l1 l2 l4 l6 l8 l10 l11 l12 l15 l16 l20 l22 l23 l25 s0 g)
def fs_L_kept_465 (F61 : Int32 → Int32 → Int32 → Int64 → Int64 → Int64 → Int32 → Int32 → gG → Option (Int32 × gG)) (l1 : Int32) (l2 : Int32) (l3 : Int32) (l4 : Int64) (l6 : Int64) (l8 : Int64) (l10 : Int32) (l11 : Int32) (l12 : Int64) (l15 : Int32) (l16 : Int64) (l20 : Int64) (s0 : Int32) (g : gG) : Option (Int32 × gG) :=
  (f_L_orders l11 g).bind (fun u1 => gLet u1.1 (fun x2 => (f_L_needed l11 u1.2).bind (fun u3 => gLet u3.1 (fun x4 => if l3 = (0 : Int32) then (fs_L_kept_753 F61 l1 l2 l4 l6 l8 l10 l11 l12 l15 l16 u3.2) else (if (lg_cmp x2 (0 : Int64)) ≤ (0 : Int32) then (fs_L_kept_499 F61 l1 l2 l4 l6 l8 l10 l11 l12 l15 l16 l20 s0 x2 x4 (0 : Int32) u3.2) else (fs_L_kept_499 F61 l1 l2 l4 l6 l8 l10 l11 l12 l15 l16 l20 s0 x2 x4 (1 : Int32) u3.2))))))
def fs_L_kept_464 (F61 : Int32 → Int32 → Int32 → Int64 → Int64 → Int64 → Int32 → Int32 → gG → Option (Int32 × gG)) (l1 : Int32) (l2 : Int32) (l3 : Int32) (l4 : Int64) (l6 : Int64) (l8 : Int64) (l10 : Int32) (l11 : Int32) (l12 : Int64) (l15 : Int32) (l16 : Int64) (l20 : Int64) (g : gG) : Option (Int32 × gG) :=
  fs_L_kept_465 F61 l1 l2 l3 l4 l6 l8 l10 l11 l12 l15 l16 l20 (0 : Int32) g
def fs_L_kept_448 (F61 : Int32 → Int32 → Int32 → Int64 → Int64 → Int64 → Int32 → Int32 → gG → Option (Int32 × gG)) (l1 : Int32) (l2 : Int32) (l3 : Int32) (l4 : Int64) (l6 : Int64) (l8 : Int64) (l10 : Int32) (l11 : Int32) (l12 : Int64) (l15 : Int32) (l16 : Int64) (l20 : Int64) (g : gG) : Option (Int32 × gG) :=
  if l15 = (0 : Int32) then (if (lg_cmp l20 (0 : Int64)) = (0 : Int32) then (fs_L_kept_464 F61 l1 l2 l3 l4 l6 l8 l10 l11 l12 l15 l16 l20 g) else (fs_L_kept_465 F61 l1 l2 l3 l4 l6 l8 l10 l11 l12 l15 l16 l20 (1 : Int32) g)) else (fs_L_kept_464 F61 l1 l2 l3 l4 l6 l8 l10 l11 l12 l15 l16 l20 g)
def fs_L_kept_441 (F61 : Int32 → Int32 → Int32 → Int64 → Int64 → Int64 → Int32 → Int32 → gG → Option (Int32 × gG)) (F382 : Int32 → Int32 → Int32 → Int64 → Int64 → Int64 → Int32 → Int32 → Int64 → Int32 → Int64 → Int64 → Int64 → Int32 → gG → Option (Int32 × gG)) (l1 : Int32) (l2 : Int32) (l4 : Int64) (l6 : Int64) (l8 : Int64) (l10 : Int32) (l11 : Int32) (l12 : Int64) (l15 : Int32) (l16 : Int64) (l18 : Int64) (l20 : Int64) (l22 : Int32) (s0 : Int32) (g : gG) : Option (Int32 × gG) :=
  gLet (l22 + (1 : Int32)) (fun x1 => F382 l1 l2 s0 l4 l6 l8 l10 l11 l12 l15 l16 l18 l20 x1 g)
def fs_L_kept_433 (F61 : Int32 → Int32 → Int32 → Int64 → Int64 → Int64 → Int32 → Int32 → gG → Option (Int32 × gG)) (F382 : Int32 → Int32 → Int32 → Int64 → Int64 → Int64 → Int32 → Int32 → Int64 → Int32 → Int64 → Int64 → Int64 → Int32 → gG → Option (Int32 × gG)) (l1 : Int32) (l2 : Int32) (l4 : Int64) (l6 : Int64) (l8 : Int64) (l10 : Int32) (l11 : Int32) (l12 : Int64) (l15 : Int32) (l16 : Int64) (l18 : Int64) (l20 : Int64) (l22 : Int32) (s0 : Int32) (s1 : Int32) (g : gG) : Option (Int32 × gG) :=
  if s0 = s1 then (fs_L_kept_441 F61 F382 l1 l2 l4 l6 l8 l10 l11 l12 l15 l16 l18 l20 l22 (1 : Int32) g) else (fs_L_kept_441 F61 F382 l1 l2 l4 l6 l8 l10 l11 l12 l15 l16 l18 l20 l22 (0 : Int32) g)
def fs_L_kept_432 (F61 : Int32 → Int32 → Int32 → Int64 → Int64 → Int64 → Int32 → Int32 → gG → Option (Int32 × gG)) (F382 : Int32 → Int32 → Int32 → Int64 → Int64 → Int64 → Int32 → Int32 → Int64 → Int32 → Int64 → Int64 → Int64 → Int32 → gG → Option (Int32 × gG)) (l1 : Int32) (l2 : Int32) (l4 : Int64) (l6 : Int64) (l8 : Int64) (l10 : Int32) (l11 : Int32) (l12 : Int64) (l15 : Int32) (l16 : Int64) (l18 : Int64) (l20 : Int64) (l22 : Int32) (s0 : Int32) (g : gG) : Option (Int32 × gG) :=
  fs_L_kept_433 F61 F382 l1 l2 l4 l6 l8 l10 l11 l12 l15 l16 l18 l20 l22 s0 (0 : Int32) g
def fs_L_kept_382 (F61 : Int32 → Int32 → Int32 → Int64 → Int64 → Int64 → Int32 → Int32 → gG → Option (Int32 × gG)) (F382 : Int32 → Int32 → Int32 → Int64 → Int64 → Int64 → Int32 → Int32 → Int64 → Int32 → Int64 → Int64 → Int64 → Int32 → gG → Option (Int32 × gG)) (l1 : Int32) (l2 : Int32) (l3 : Int32) (l4 : Int64) (l6 : Int64) (l8 : Int64) (l10 : Int32) (l11 : Int32) (l12 : Int64) (l15 : Int32) (l16 : Int64) (l18 : Int64) (l20 : Int64) (l22 : Int32) (g : gG) : Option (Int32 × gG) :=
  if l1 ≤ l22 then (fs_L_kept_448 F61 l1 l2 l3 l4 l6 l8 l10 l11 l12 l15 l16 l20 g) else (if l3 = (0 : Int32) then (fs_L_kept_448 F61 l1 l2 l3 l4 l6 l8 l10 l11 l12 l15 l16 l20 g) else ((f_L_has l18 l22 g).bind (fun u3 => if l15 = (0 : Int32) then ((f_L_has l12 l22 u3.2).bind (fun u5 => if u5.1 = (0 : Int32) then ((f_L_holds l22 l12.toInt32 u5.2).bind (fun u7 => if (lg_cmp u7.1 (1 : Int64)) = (0 : Int32) then (fs_L_kept_433 F61 F382 l1 l2 l4 l6 l8 l10 l11 l12 l15 l16 l18 l20 l22 u3.1 (1 : Int32) u7.2) else (fs_L_kept_432 F61 F382 l1 l2 l4 l6 l8 l10 l11 l12 l15 l16 l18 l20 l22 u3.1 u7.2))) else (fs_L_kept_432 F61 F382 l1 l2 l4 l6 l8 l10 l11 l12 l15 l16 l18 l20 l22 u3.1 u5.2))) else (fs_L_kept_432 F61 F382 l1 l2 l4 l6 l8 l10 l11 l12 l15 l16 l18 l20 l22 u3.1 u3.2))))
def fb_L_kept_382 (F61 : Int32 → Int32 → Int32 → Int64 → Int64 → Int64 → Int32 → Int32 → gG → Option (Int32 × gG)) : Nat → Int32 → Int32 → Int32 → Int64 → Int64 → Int64 → Int32 → Int32 → Int64 → Int32 → Int64 → Int64 → Int64 → Int32 → gG → Option (Int32 × gG)
  | 0 => fun _ _ _ _ _ _ _ _ _ _ _ _ _ _ _ => none
  | n + 1 => fs_L_kept_382 F61 (fb_L_kept_382 F61 n)
def fs_L_kept_378 (F61 : Int32 → Int32 → Int32 → Int64 → Int64 → Int64 → Int32 → Int32 → gG → Option (Int32 × gG)) (l1 : Int32) (l2 : Int32) (l4 : Int64) (l6 : Int64) (l8 : Int64) (l10 : Int32) (l11 : Int32) (l12 : Int64) (l15 : Int32) (l16 : Int64) (l18 : Int64) (l20 : Int64) (s0 : Int32) (g : gG) : Option (Int32 × gG) :=
  fb_L_kept_382 F61 gFuelL l1 l2 s0 l4 l6 l8 l10 l11 l12 l15 l16 l18 l20 (0 : Int32) g
def fs_L_kept_377 (F61 : Int32 → Int32 → Int32 → Int64 → Int64 → Int64 → Int32 → Int32 → gG → Option (Int32 × gG)) (l1 : Int32) (l2 : Int32) (l4 : Int64) (l6 : Int64) (l8 : Int64) (l10 : Int32) (l11 : Int32) (l12 : Int64) (l15 : Int32) (l16 : Int64) (l18 : Int64) (l20 : Int64) (g : gG) : Option (Int32 × gG) :=
  fs_L_kept_378 F61 l1 l2 l4 l6 l8 l10 l11 l12 l15 l16 l18 l20 (0 : Int32) g
def fs_L_kept_310 (F61 : Int32 → Int32 → Int32 → Int64 → Int64 → Int64 → Int32 → Int32 → gG → Option (Int32 × gG)) (l1 : Int32) (l2 : Int32) (l4 : Int64) (l6 : Int64) (l8 : Int64) (l10 : Int32) (l11 : Int32) (l12 : Int64) (l14 : Int32) (l15 : Int32) (l16 : Int64) (l18 : Int64) (l20 : Int64) (s0 : Int64) (s1 : Int64) (g : gG) : Option (Int32 × gG) :=
  if (lg_cmp s0 s1) = (0 : Int32) then ((f_L_team l11 (4 : Int32) g).bind (fun u2 => if (lg_cmp u2.1 l16) = (0 : Int32) then ((f_L_team l11 (2 : Int32) u2.2).bind (fun u4 => (f_L_in u4.1 l14.toInt64 (((19 : Int32) * l14).toInt64) u4.2).bind (fun u5 => if u5.1 = (0 : Int32) then (fs_L_kept_377 F61 l1 l2 l4 l6 l8 l10 l11 l12 l15 l16 l18 l20 u5.2) else (if (lg_cmp (l20 &&& (l18 ^^^ (-1 : Int64))) (0 : Int64)) = (0 : Int32) then (if (lg_cmp (l18 &&& l12) (0 : Int64)) = (0 : Int32) then (fs_L_kept_378 F61 l1 l2 l4 l6 l8 l10 l11 l12 l15 l16 l18 l20 (1 : Int32) u5.2) else (fs_L_kept_377 F61 l1 l2 l4 l6 l8 l10 l11 l12 l15 l16 l18 l20 u5.2)) else (fs_L_kept_377 F61 l1 l2 l4 l6 l8 l10 l11 l12 l15 l16 l18 l20 u5.2))))) else (fs_L_kept_377 F61 l1 l2 l4 l6 l8 l10 l11 l12 l15 l16 l18 l20 u2.2))) else (fs_L_kept_377 F61 l1 l2 l4 l6 l8 l10 l11 l12 l15 l16 l18 l20 g)
def fs_L_kept_233 (F61 : Int32 → Int32 → Int32 → Int64 → Int64 → Int64 → Int32 → Int32 → gG → Option (Int32 × gG)) (l1 : Int32) (l2 : Int32) (l3 : Int32) (l4 : Int64) (l6 : Int64) (l8 : Int64) (l10 : Int32) (l11 : Int32) (l12 : Int64) (l14 : Int32) (l15 : Int32) (s0 : Int64) (g : gG) : Option (Int32 × gG) :=
  (f_L_open l11 g).bind (fun u1 => gLet u1.1 (fun x2 => (f_L_safe l11 u1.2).bind (fun u3 => gLet u3.1 (fun x4 => if l3 = (0 : Int32) then (fs_L_kept_377 F61 l1 l2 l4 l6 l8 l10 l11 l12 l15 s0 x2 x4 u3.2) else ((f_L_team l11 (0 : Int32) u3.2).bind (fun u6 => if (lg_cmp u6.1 l12) = (0 : Int32) then ((f_L_team l11 (1 : Int32) u6.2).bind (fun u8 => if (lg_cmp u8.1 l14.toInt64) = (0 : Int32) then ((f_L_team l11 (5 : Int32) u8.2).bind (fun u10 => if l14 = (0 : Int32) then (fs_L_kept_310 F61 l1 l2 l4 l6 l8 l10 l11 l12 l14 l15 s0 x2 x4 u10.1 (-9 : Int64) u10.2) else ((f_L_trail l11 (l14 - (1 : Int32)) u10.2).bind (fun u12 => fs_L_kept_310 F61 l1 l2 l4 l6 l8 l10 l11 l12 l14 l15 s0 x2 x4 u10.1 u12.1 u12.2)))) else (fs_L_kept_377 F61 l1 l2 l4 l6 l8 l10 l11 l12 l15 s0 x2 x4 u8.2))) else (fs_L_kept_377 F61 l1 l2 l4 l6 l8 l10 l11 l12 l15 s0 x2 x4 u6.2)))))))
def fs_L_kept_232 (F61 : Int32 → Int32 → Int32 → Int64 → Int64 → Int64 → Int32 → Int32 → gG → Option (Int32 × gG)) (l1 : Int32) (l2 : Int32) (l3 : Int32) (l4 : Int64) (l6 : Int64) (l8 : Int64) (l10 : Int32) (l11 : Int32) (l12 : Int64) (l14 : Int32) (l15 : Int32) (g : gG) : Option (Int32 × gG) :=
  fs_L_kept_233 F61 l1 l2 l3 l4 l6 l8 l10 l11 l12 l14 l15 (0 : Int64) g
def fs_L_kept_180 (F61 : Int32 → Int32 → Int32 → Int64 → Int64 → Int64 → Int32 → Int32 → gG → Option (Int32 × gG)) (l1 : Int32) (l2 : Int32) (l3 : Int32) (l4 : Int64) (l6 : Int64) (l8 : Int64) (l10 : Int32) (l11 : Int32) (l12 : Int64) (l14 : Int32) (g : gG) : Option (Int32 × gG) :=
  (f_L_has l12 (l1 - (1 : Int32)) g).bind (fun u1 => gLet u1.1 (fun x2 => (f_L_team l11 (2 : Int32) u1.2).bind (fun u3 => (f_L_team l11 (3 : Int32) u3.2).bind (fun u4 => gLet (((200 : Int64) - u3.1) - ((10 : Int64) * u4.1)) (fun x5 => if x2 = (0 : Int32) then (fs_L_kept_232 F61 l1 l2 l3 l4 l6 l8 l10 l11 l12 l14 x2 u4.2) else (if (lg_cmp x5 (0 : Int64)) ≤ (0 : Int32) then (fs_L_kept_232 F61 l1 l2 l3 l4 l6 l8 l10 l11 l12 l14 x2 u4.2) else (fs_L_kept_233 F61 l1 l2 l3 l4 l6 l8 l10 l11 l12 l14 x2 x5 u4.2)))))))
def fs_L_kept_157 (F61 : Int32 → Int32 → Int32 → Int64 → Int64 → Int64 → Int32 → Int32 → gG → Option (Int32 × gG)) (F77 : Int32 → Int32 → Int32 → Int64 → Int64 → Int64 → Int32 → Int32 → Int64 → Int32 → gG → Option (Int32 × gG)) (l1 : Int32) (l2 : Int32) (l4 : Int64) (l6 : Int64) (l8 : Int64) (l10 : Int32) (l11 : Int32) (l12 : Int64) (l14 : Int32) (s0 : Int32) (g : gG) : Option (Int32 × gG) :=
  (f_L_trail l11 l14 g).bind (fun u1 => gLet (l12 ||| ((1 : Int64) <<< (u1.1.toInt32.toInt64 &&& 63))) (fun x2 => gLet (l14 + (1 : Int32)) (fun x3 => F77 l1 l2 s0 l4 l6 l8 l10 l11 x2 x3 u1.2)))
def fs_L_kept_156 (F61 : Int32 → Int32 → Int32 → Int64 → Int64 → Int64 → Int32 → Int32 → gG → Option (Int32 × gG)) (F77 : Int32 → Int32 → Int32 → Int64 → Int64 → Int64 → Int32 → Int32 → Int64 → Int32 → gG → Option (Int32 × gG)) (l1 : Int32) (l2 : Int32) (l4 : Int64) (l6 : Int64) (l8 : Int64) (l10 : Int32) (l11 : Int32) (l12 : Int64) (l14 : Int32) (g : gG) : Option (Int32 × gG) :=
  fs_L_kept_157 F61 F77 l1 l2 l4 l6 l8 l10 l11 l12 l14 (0 : Int32) g
def fs_L_kept_77 (F61 : Int32 → Int32 → Int32 → Int64 → Int64 → Int64 → Int32 → Int32 → gG → Option (Int32 × gG)) (F77 : Int32 → Int32 → Int32 → Int64 → Int64 → Int64 → Int32 → Int32 → Int64 → Int32 → gG → Option (Int32 × gG)) (l1 : Int32) (l2 : Int32) (l3 : Int32) (l4 : Int64) (l6 : Int64) (l8 : Int64) (l10 : Int32) (l11 : Int32) (l12 : Int64) (l14 : Int32) (g : gG) : Option (Int32 × gG) :=
  if (10 : Int32) ≤ l14 then (fs_L_kept_180 F61 l1 l2 l3 l4 l6 l8 l10 l11 l12 l14 g) else ((f_L_trail l11 l14 g).bind (fun u2 => if (lg_cmp u2.1 (-9 : Int64)) = (0 : Int32) then (fs_L_kept_180 F61 l1 l2 l3 l4 l6 l8 l10 l11 l12 l14 u2.2) else (if l3 = (0 : Int32) then (fs_L_kept_180 F61 l1 l2 l3 l4 l6 l8 l10 l11 l12 l14 u2.2) else ((f_L_trail l11 l14 u2.2).bind (fun u5 => (f_L_has l12 u5.1.toInt32 u5.2).bind (fun u6 => if u6.1 = (0 : Int32) then ((f_L_trail l11 l14 u6.2).bind (fun u8 => (f_L_holds u8.1.toInt32 l12.toInt32 u8.2).bind (fun u9 => if (lg_cmp u9.1 (1 : Int64)) = (0 : Int32) then ((f_L_has l12 (l1 - (1 : Int32)) u9.2).bind (fun u11 => if u11.1 = (0 : Int32) then (fs_L_kept_157 F61 F77 l1 l2 l4 l6 l8 l10 l11 l12 l14 (1 : Int32) u11.2) else (fs_L_kept_156 F61 F77 l1 l2 l4 l6 l8 l10 l11 l12 l14 u11.2))) else (fs_L_kept_156 F61 F77 l1 l2 l4 l6 l8 l10 l11 l12 l14 u9.2)))) else (fs_L_kept_156 F61 F77 l1 l2 l4 l6 l8 l10 l11 l12 l14 u6.2)))))))
def fb_L_kept_77 (F61 : Int32 → Int32 → Int32 → Int64 → Int64 → Int64 → Int32 → Int32 → gG → Option (Int32 × gG)) : Nat → Int32 → Int32 → Int32 → Int64 → Int64 → Int64 → Int32 → Int32 → Int64 → Int32 → gG → Option (Int32 × gG)
  | 0 => fun _ _ _ _ _ _ _ _ _ _ _ => none
  | n + 1 => fs_L_kept_77 F61 (fb_L_kept_77 F61 n)
def fs_L_kept_61 (F61 : Int32 → Int32 → Int32 → Int64 → Int64 → Int64 → Int32 → Int32 → gG → Option (Int32 × gG)) (l1 : Int32) (l2 : Int32) (l3 : Int32) (l4 : Int64) (l6 : Int64) (l8 : Int64) (l10 : Int32) (l11 : Int32) (g : gG) : Option (Int32 × gG) :=
  if l2 ≤ l11 then (fs_L_kept_812 l1 l3 l4 l6 l8 l10 g) else (if l3 = (0 : Int32) then (fs_L_kept_812 l1 l3 l4 l6 l8 l10 g) else (fb_L_kept_77 F61 gFuelL l1 l2 l3 l4 l6 l8 l10 l11 (0 : Int64) (0 : Int32) g))
def fb_L_kept_61  : Nat → Int32 → Int32 → Int32 → Int64 → Int64 → Int64 → Int32 → Int32 → gG → Option (Int32 × gG)
  | 0 => fun _ _ _ _ _ _ _ _ _ => none
  | n + 1 => fs_L_kept_61 (fb_L_kept_61 n)
def fs_L_kept_45  (l1 : Int32) (l2 : Int32) (s0 : Int32) (g : gG) : Option (Int32 × gG) :=
  fb_L_kept_61 gFuel5 l1 l2 s0 (0 : Int64) (0 : Int64) (0 : Int64) (0 : Int32) (0 : Int32) g
def fs_L_kept_44  (l1 : Int32) (l2 : Int32) (g : gG) : Option (Int32 × gG) :=
  fs_L_kept_45 l1 l2 (0 : Int32) g
def f_L_kept   (g : gG) : Option (Int32 × gG) :=
  (f_L_about (0 : Int32) g).bind (fun u1 => gLet u1.1.toInt32 (fun x2 => (f_L_about (1 : Int32) u1.2).bind (fun u3 => gLet u3.1.toInt32 (fun x4 => (f_L_in x2.toInt64 (2 : Int64) (10 : Int64) u3.2).bind (fun u5 => if u5.1 = (0 : Int32) then (fs_L_kept_44 x2 x4 u5.2) else ((f_L_in x4.toInt64 (0 : Int64) (4 : Int64) u5.2).bind (fun u7 => if u7.1 = (0 : Int32) then (fs_L_kept_44 x2 x4 u7.2) else (fs_L_kept_45 x2 x4 (1 : Int32) u7.2))))))))
def fs_L_follows_813  (l2 : Int64) (l5 : Int32) (l6 : Int32) (g : gG) : Option (Int32 × gG) :=
  if l6 = (0 : Int32) then (some ((0 : Int32), g)) else ((f_L_restore (1 : Int32) g).bind (fun u2 => if (lg_cmp u2.1 l5.toInt64) = (0 : Int32) then ((f_L_now u2.2).bind (fun u4 => if (lg_cmp u4.1 l2) = (0 : Int32) then ((f_L_undo u4.2).bind (fun u6 => if (lg_cmp u6.1 (-9000000000000000003 : Int64)) = (0 : Int32) then (some ((1 : Int32), u6.2)) else (some ((0 : Int32), u6.2)))) else (some ((0 : Int32), u4.2)))) else (some ((0 : Int32), u2.2))))
def fs_L_follows_811  (l2 : Int64) (l5 : Int32) (s0 : Int32) (g : gG) : Option (Int32 × gG) :=
  fs_L_follows_813 l2 l5 s0 g
def fs_L_follows_810  (l2 : Int64) (l5 : Int32) (g : gG) : Option (Int32 × gG) :=
  fs_L_follows_811 l2 l5 (0 : Int32) g
def fs_L_follows_716  (l2 : Int64) (l5 : Int32) (l8 : Int32) (s0 : Int32) (g : gG) : Option (Int32 × gG) :=
  if s0 = (0 : Int32) then (fs_L_follows_810 l2 l5 g) else ((f_L_giveUp l8 g).bind (fun u2 => if (lg_cmp u2.1 (l5.toInt64 - (1 : Int64))) = (0 : Int32) then ((f_L_about (1 : Int32) u2.2).bind (fun u4 => if (lg_cmp u4.1 (l5.toInt64 - (1 : Int64))) = (0 : Int32) then ((f_L_addTeam u4.2).bind (fun u6 => if (lg_cmp u6.1 (l5.toInt64 - (1 : Int64))) = (0 : Int32) then ((f_L_team (l5 - (1 : Int32)) (1 : Int32) u6.2).bind (fun u8 => if (lg_cmp u8.1 (0 : Int64)) = (0 : Int32) then ((f_L_undo u8.2).bind (fun u10 => if (lg_cmp u10.1 (0 : Int64)) < (0 : Int32) then (fs_L_follows_810 l2 l5 u10.2) else ((f_L_undo u10.2).bind (fun u12 => if (lg_cmp u12.1 (0 : Int64)) < (0 : Int32) then (fs_L_follows_810 l2 l5 u12.2) else ((f_L_now u12.2).bind (fun u14 => if (lg_cmp u14.1 l2) = (0 : Int32) then (fs_L_follows_811 l2 l5 (1 : Int32) u14.2) else (fs_L_follows_810 l2 l5 u14.2))))))) else (fs_L_follows_810 l2 l5 u8.2))) else (fs_L_follows_810 l2 l5 u6.2))) else (fs_L_follows_810 l2 l5 u4.2))) else (fs_L_follows_810 l2 l5 u2.2)))
def fs_L_follows_715  (l2 : Int64) (l5 : Int32) (l8 : Int32) (g : gG) : Option (Int32 × gG) :=
  fs_L_follows_716 l2 l5 l8 (0 : Int32) g
def fs_L_follows_629  (l1 : Int32) (l2 : Int64) (l4 : Int32) (l5 : Int32) (l6 : Int32) (l8 : Int32) (g : gG) : Option (Int32 × gG) :=
  if l4 = 0 then none else gLet ((l1 / (7 : Int32)) - (l1 / (7 : Int32)) / l4 * l4) (fun x2 => (f_L_place x2 (3 : Int32) g).bind (fun u3 => gLet u3.1 (fun x4 => if l6 = (0 : Int32) then (fs_L_follows_715 l2 l5 l8 u3.2) else ((f_L_ease x2 u3.2).bind (fun u6 => if (lg_cmp u6.1 x4) = (0 : Int32) then ((f_L_place x2 (3 : Int32) u6.2).bind (fun u8 => if (lg_cmp u8.1 ((1 : Int64) <<< ((l4 - (1 : Int32)).toInt64 &&& 63))) = (0 : Int32) then ((f_L_holds x2 (0 : Int32) u8.2).bind (fun u10 => if (lg_cmp u10.1 (1 : Int64)) = (0 : Int32) then ((f_L_undo u10.2).bind (fun u12 => if (lg_cmp u12.1 (0 : Int64)) < (0 : Int32) then (fs_L_follows_715 l2 l5 l8 u12.2) else ((f_L_now u12.2).bind (fun u14 => if (lg_cmp u14.1 l2) = (0 : Int32) then (fs_L_follows_716 l2 l5 l8 (1 : Int32) u14.2) else (fs_L_follows_715 l2 l5 l8 u14.2))))) else (fs_L_follows_715 l2 l5 l8 u10.2))) else (fs_L_follows_715 l2 l5 l8 u8.2))) else (fs_L_follows_715 l2 l5 l8 u6.2))))))
def fs_L_follows_627  (l1 : Int32) (l2 : Int64) (l4 : Int32) (l5 : Int32) (l8 : Int32) (s0 : Int32) (g : gG) : Option (Int32 × gG) :=
  fs_L_follows_629 l1 l2 l4 l5 s0 l8 g
def fs_L_follows_626  (l1 : Int32) (l2 : Int64) (l4 : Int32) (l5 : Int32) (l8 : Int32) (g : gG) : Option (Int32 × gG) :=
  fs_L_follows_627 l1 l2 l4 l5 l8 (0 : Int32) g
def fs_L_follows_526  (l1 : Int32) (l2 : Int64) (l4 : Int32) (l5 : Int32) (l8 : Int32) (l11 : Int64) (s0 : Int32) (g : gG) : Option (Int32 × gG) :=
  if (lg_cmp l11 (0 : Int64)) = (0 : Int32) then (fs_L_follows_629 l1 l2 l4 l5 s0 l8 g) else (if s0 = (0 : Int32) then (fs_L_follows_629 l1 l2 l4 l5 s0 l8 g) else ((f_L_hint l8 g).bind (fun u3 => gLet u3.1 (fun x4 => (f_L_has l11 x4.toInt32 u3.2).bind (fun u5 => if u5.1 = (0 : Int32) then (fs_L_follows_626 l1 l2 l4 l5 l8 u5.2) else (if (lg_cmp (l11 &&& (((1 : Int64) <<< (x4.toInt32.toInt64 &&& 63)) - (1 : Int64))) (0 : Int64)) = (0 : Int32) then ((f_L_script (1 : Int32) (((5000 : Int64) + ((100 : Int64) * l8.toInt64)) + ((10 : Int64) * x4)) u5.2).bind (fun u8 => if (lg_cmp u8.1 (-9 : Int64)) = (0 : Int32) then ((f_L_undo u8.2).bind (fun u10 => if (lg_cmp u10.1 (0 : Int64)) < (0 : Int32) then (fs_L_follows_626 l1 l2 l4 l5 l8 u10.2) else ((f_L_now u10.2).bind (fun u12 => if (lg_cmp u12.1 l2) = (0 : Int32) then (fs_L_follows_627 l1 l2 l4 l5 l8 (1 : Int32) u12.2) else (fs_L_follows_626 l1 l2 l4 l5 l8 u12.2))))) else (fs_L_follows_626 l1 l2 l4 l5 l8 u8.2))) else (fs_L_follows_626 l1 l2 l4 l5 l8 u5.2)))))))
def fs_L_follows_525  (l1 : Int32) (l2 : Int64) (l4 : Int32) (l5 : Int32) (l8 : Int32) (l11 : Int64) (g : gG) : Option (Int32 × gG) :=
  fs_L_follows_526 l1 l2 l4 l5 l8 l11 (0 : Int32) g
def fs_L_follows_521  (l1 : Int32) (l2 : Int64) (l4 : Int32) (l5 : Int32) (l8 : Int32) (l11 : Int64) (g : gG) : Option (Int32 × gG) :=
  fs_L_follows_526 l1 l2 l4 l5 l8 l11 (1 : Int32) g
def fs_L_follows_492  (l1 : Int32) (l2 : Int64) (l4 : Int32) (l5 : Int32) (l6 : Int32) (l8 : Int32) (l9 : Int64) (l11 : Int64) (l13 : Int64) (l25 : Int64) (g : gG) : Option (Int32 × gG) :=
  if l6 = (0 : Int32) then (fs_L_follows_525 l1 l2 l4 l5 l8 l11 g) else ((f_L_now g).bind (fun u2 => if (lg_cmp u2.1 l2) = (0 : Int32) then (if (lg_cmp l9 (0 : Int64)) = (0 : Int32) then (fs_L_follows_521 l1 l2 l4 l5 l8 l11 u2.2) else (if (lg_cmp l25 l13) = (0 : Int32) then (fs_L_follows_521 l1 l2 l4 l5 l8 l11 u2.2) else (fs_L_follows_525 l1 l2 l4 l5 l8 l11 u2.2))) else (fs_L_follows_525 l1 l2 l4 l5 l8 l11 u2.2)))
def fs_L_follows_484 (F221 : Int32 → Int64 → Int32 → Int32 → Int32 → Int32 → Int64 → Int64 → Int64 → Int64 → Int64 → Int64 → Int64 → Int64 → Int64 → Int32 → gG → Option (Int32 × gG)) (l1 : Int32) (l2 : Int64) (l4 : Int32) (l5 : Int32) (l8 : Int32) (l9 : Int64) (l11 : Int64) (l13 : Int64) (l15 : Int64) (l17 : Int64) (l19 : Int64) (l21 : Int64) (l23 : Int64) (l25 : Int64) (l27 : Int32) (s0 : Int32) (g : gG) : Option (Int32 × gG) :=
  gLet (l27 + (1 : Int32)) (fun x1 => F221 l1 l2 l4 l5 s0 l8 l9 l11 l13 l15 l17 l19 l21 l23 l25 x1 g)
def fs_L_follows_483 (F221 : Int32 → Int64 → Int32 → Int32 → Int32 → Int32 → Int64 → Int64 → Int64 → Int64 → Int64 → Int64 → Int64 → Int64 → Int64 → Int32 → gG → Option (Int32 × gG)) (l1 : Int32) (l2 : Int64) (l4 : Int32) (l5 : Int32) (l8 : Int32) (l9 : Int64) (l11 : Int64) (l13 : Int64) (l15 : Int64) (l17 : Int64) (l19 : Int64) (l21 : Int64) (l23 : Int64) (l25 : Int64) (l27 : Int32) (g : gG) : Option (Int32 × gG) :=
  fs_L_follows_484 F221 l1 l2 l4 l5 l8 l9 l11 l13 l15 l17 l19 l21 l23 l25 l27 (0 : Int32) g
def fs_L_follows_470 (F221 : Int32 → Int64 → Int32 → Int32 → Int32 → Int32 → Int64 → Int64 → Int64 → Int64 → Int64 → Int64 → Int64 → Int64 → Int64 → Int32 → gG → Option (Int32 × gG)) (l1 : Int32) (l2 : Int64) (l4 : Int32) (l5 : Int32) (l8 : Int32) (l9 : Int64) (l11 : Int64) (l13 : Int64) (l15 : Int64) (l17 : Int64) (l19 : Int64) (l21 : Int64) (l23 : Int64) (l25 : Int64) (l27 : Int32) (g : gG) : Option (Int32 × gG) :=
  (f_L_undo g).bind (fun u1 => if (lg_cmp u1.1 (0 : Int64)) < (0 : Int32) then (fs_L_follows_483 F221 l1 l2 l4 l5 l8 l9 l11 l13 l15 l17 l19 l21 l23 l25 l27 u1.2) else (fs_L_follows_484 F221 l1 l2 l4 l5 l8 l9 l11 l13 l15 l17 l19 l21 l23 l25 l27 (1 : Int32) u1.2))
def fs_L_follows_445 (F221 : Int32 → Int64 → Int32 → Int32 → Int32 → Int32 → Int64 → Int64 → Int64 → Int64 → Int64 → Int64 → Int64 → Int64 → Int64 → Int32 → gG → Option (Int32 × gG)) (l1 : Int32) (l2 : Int64) (l4 : Int32) (l5 : Int32) (l8 : Int32) (l9 : Int64) (l11 : Int64) (l13 : Int64) (l15 : Int64) (l17 : Int64) (l19 : Int64) (l21 : Int64) (l23 : Int64) (l25 : Int64) (l27 : Int32) (l30 : Int64) (g : gG) : Option (Int32 × gG) :=
  if (0 : Int32) ≤ (lg_cmp l27.toInt64 l21) then (fs_L_follows_470 F221 l1 l2 l4 l5 l8 l9 l11 l13 l15 l17 l19 l21 l23 l25 l27 g) else ((f_L_quickest l8 (0 : Int32) g).bind (fun u2 => if (lg_cmp u2.1 (l17 - l30)) ≤ (0 : Int32) then (fs_L_follows_483 F221 l1 l2 l4 l5 l8 l9 l11 l13 l15 l17 l19 l21 l23 l25 l27 u2.2) else (fs_L_follows_470 F221 l1 l2 l4 l5 l8 l9 l11 l13 l15 l17 l19 l21 l23 l25 l27 u2.2)))
def fs_L_follows_380 (F221 : Int32 → Int64 → Int32 → Int32 → Int32 → Int32 → Int64 → Int64 → Int64 → Int64 → Int64 → Int64 → Int64 → Int64 → Int64 → Int32 → gG → Option (Int32 × gG)) (l1 : Int32) (l2 : Int64) (l4 : Int32) (l5 : Int32) (l8 : Int32) (l9 : Int64) (l11 : Int64) (l13 : Int64) (l15 : Int64) (l17 : Int64) (l19 : Int64) (l21 : Int64) (l23 : Int64) (l25 : Int64) (l27 : Int32) (l30 : Int64) (g : gG) : Option (Int32 × gG) :=
  (f_L_has l11 l27 g).bind (fun u1 => if u1.1 = (0 : Int32) then (fs_L_follows_470 F221 l1 l2 l4 l5 l8 l9 l11 l13 l15 l17 l19 l21 l23 l25 l27 u1.2) else ((f_L_shortest l8 (0 : Int32) u1.2).bind (fun u3 => if (lg_cmp u3.1 (l15 - (1 : Int64))) < (0 : Int32) then (fs_L_follows_483 F221 l1 l2 l4 l5 l8 l9 l11 l13 l15 l17 l19 l21 l23 l25 l27 u3.2) else ((f_L_quickest l8 (0 : Int32) u3.2).bind (fun u5 => if (lg_cmp u5.1 (l17 - l30)) < (0 : Int32) then (fs_L_follows_483 F221 l1 l2 l4 l5 l8 l9 l11 l13 l15 l17 l19 l21 l23 l25 l27 u5.2) else (if (0 : Int32) ≤ (lg_cmp l27.toInt64 l19) then (fs_L_follows_445 F221 l1 l2 l4 l5 l8 l9 l11 l13 l15 l17 l19 l21 l23 l25 l27 l30 u5.2) else ((f_L_shortest l8 (0 : Int32) u5.2).bind (fun u8 => if (lg_cmp u8.1 (l15 - (1 : Int64))) ≤ (0 : Int32) then (fs_L_follows_483 F221 l1 l2 l4 l5 l8 l9 l11 l13 l15 l17 l19 l21 l23 l25 l27 u8.2) else (fs_L_follows_445 F221 l1 l2 l4 l5 l8 l9 l11 l13 l15 l17 l19 l21 l23 l25 l27 l30 u8.2)))))))))
def fs_L_follows_355 (F221 : Int32 → Int64 → Int32 → Int32 → Int32 → Int32 → Int64 → Int64 → Int64 → Int64 → Int64 → Int64 → Int64 → Int64 → Int64 → Int32 → gG → Option (Int32 × gG)) (l1 : Int32) (l2 : Int64) (l4 : Int32) (l5 : Int32) (l8 : Int32) (l9 : Int64) (l11 : Int64) (l13 : Int64) (l15 : Int64) (l17 : Int64) (l19 : Int64) (l21 : Int64) (l23 : Int64) (l25 : Int64) (l27 : Int32) (l30 : Int64) (g : gG) : Option (Int32 × gG) :=
  if (lg_cmp l27.toInt64 l21) = (0 : Int32) then ((f_L_quickest l8 (0 : Int32) g).bind (fun u2 => if (lg_cmp u2.1 (l17 - l30)) = (0 : Int32) then (fs_L_follows_380 F221 l1 l2 l4 l5 l8 l9 l11 l13 l15 l17 l19 l21 l23 l25 l27 l30 u2.2) else (fs_L_follows_483 F221 l1 l2 l4 l5 l8 l9 l11 l13 l15 l17 l19 l21 l23 l25 l27 u2.2))) else (fs_L_follows_380 F221 l1 l2 l4 l5 l8 l9 l11 l13 l15 l17 l19 l21 l23 l25 l27 l30 g)
def fs_L_follows_321 (F221 : Int32 → Int64 → Int32 → Int32 → Int32 → Int32 → Int64 → Int64 → Int64 → Int64 → Int64 → Int64 → Int64 → Int64 → Int64 → Int32 → gG → Option (Int32 × gG)) (l1 : Int32) (l2 : Int64) (l4 : Int32) (l5 : Int32) (l8 : Int32) (l9 : Int64) (l11 : Int64) (l13 : Int64) (l15 : Int64) (l17 : Int64) (l19 : Int64) (l21 : Int64) (l23 : Int64) (l25 : Int64) (l27 : Int32) (l30 : Int64) (s0 : Int32) (g : gG) : Option (Int32 × gG) :=
  (f_L_has l11 l27 g).bind (fun u1 => if s0 = u1.1 then (if (lg_cmp l27.toInt64 l19) = (0 : Int32) then ((f_L_shortest l8 (0 : Int32) u1.2).bind (fun u4 => if (lg_cmp u4.1 (l15 - (1 : Int64))) = (0 : Int32) then (fs_L_follows_355 F221 l1 l2 l4 l5 l8 l9 l11 l13 l15 l17 l19 l21 l23 l25 l27 l30 u4.2) else (fs_L_follows_483 F221 l1 l2 l4 l5 l8 l9 l11 l13 l15 l17 l19 l21 l23 l25 l27 u4.2))) else (fs_L_follows_355 F221 l1 l2 l4 l5 l8 l9 l11 l13 l15 l17 l19 l21 l23 l25 l27 l30 u1.2)) else (fs_L_follows_483 F221 l1 l2 l4 l5 l8 l9 l11 l13 l15 l17 l19 l21 l23 l25 l27 u1.2))
def fs_L_follows_221 (F221 : Int32 → Int64 → Int32 → Int32 → Int32 → Int32 → Int64 → Int64 → Int64 → Int64 → Int64 → Int64 → Int64 → Int64 → Int64 → Int32 → gG → Option (Int32 × gG)) (l1 : Int32) (l2 : Int64) (l4 : Int32) (l5 : Int32) (l6 : Int32) (l8 : Int32) (l9 : Int64) (l11 : Int64) (l13 : Int64) (l15 : Int64) (l17 : Int64) (l19 : Int64) (l21 : Int64) (l23 : Int64) (l25 : Int64) (l27 : Int32) (g : gG) : Option (Int32 × gG) :=
  if l4 ≤ l27 then (fs_L_follows_492 l1 l2 l4 l5 l6 l8 l9 l11 l13 l25 g) else (if l6 = (0 : Int32) then (fs_L_follows_492 l1 l2 l4 l5 l6 l8 l9 l11 l13 l25 g) else ((f_L_has l9 l27 g).bind (fun u3 => if u3.1 = (0 : Int32) then (gLet (l27 + (1 : Int32)) (fun x5 => F221 l1 l2 l4 l5 l6 l8 l9 l11 l13 l15 l17 l19 l21 l23 l25 x5 u3.2)) else ((f_L_go l8 l27 u3.2).bind (fun u6 => gLet u6.1 (fun x7 => gLet (x7 - l23) (fun x8 => (f_L_orders l8 u6.2).bind (fun u9 => gLet (l25 + u9.1) (fun x10 => if (lg_cmp x8 (1 : Int64)) < (0 : Int32) then (fs_L_follows_483 F221 l1 l2 l4 l5 l8 l9 l11 l13 l15 l17 l19 l21 l23 x10 l27 u9.2) else ((f_L_team l8 (2 : Int32) u9.2).bind (fun u12 => if (lg_cmp u12.1 x7) = (0 : Int32) then ((f_L_team l8 (5 : Int32) u12.2).bind (fun u14 => if (lg_cmp u14.1 l27.toInt64) = (0 : Int32) then ((f_L_orders l8 u14.2).bind (fun u16 => if (lg_cmp u16.1 (0 : Int64)) ≤ (0 : Int32) then (fs_L_follows_321 F221 l1 l2 l4 l5 l8 l9 l11 l13 l15 l17 l19 l21 l23 x10 l27 x8 (0 : Int32) u16.2) else (fs_L_follows_321 F221 l1 l2 l4 l5 l8 l9 l11 l13 l15 l17 l19 l21 l23 x10 l27 x8 (1 : Int32) u16.2))) else (fs_L_follows_483 F221 l1 l2 l4 l5 l8 l9 l11 l13 l15 l17 l19 l21 l23 x10 l27 u14.2))) else (fs_L_follows_483 F221 l1 l2 l4 l5 l8 l9 l11 l13 l15 l17 l19 l21 l23 x10 l27 u12.2))))))))))))
def fb_L_follows_221  : Nat → Int32 → Int64 → Int32 → Int32 → Int32 → Int32 → Int64 → Int64 → Int64 → Int64 → Int64 → Int64 → Int64 → Int64 → Int64 → Int32 → gG → Option (Int32 × gG)
  | 0 => fun _ _ _ _ _ _ _ _ _ _ _ _ _ _ _ _ _ => none
  | n + 1 => fs_L_follows_221 (fb_L_follows_221 n)
def fs_L_follows_128  (l1 : Int32) (l2 : Int64) (l4 : Int32) (l5 : Int32) (s0 : Int32) (g : gG) : Option (Int32 × gG) :=
  if l5 ≤ (0 : Int32) then (fs_L_follows_813 l2 l5 s0 g) else (if s0 = (0 : Int32) then (fs_L_follows_813 l2 l5 s0 g) else (if l5 = 0 then none else gLet (l1 - l1 / l5 * l5) (fun x4 => (f_L_open x4 g).bind (fun u5 => gLet u5.1 (fun x6 => (f_L_safe x4 u5.2).bind (fun u7 => gLet u7.1 (fun x8 => (f_L_orders x4 u7.2).bind (fun u9 => gLet u9.1 (fun x10 => (f_L_shortest x4 (0 : Int32) u9.2).bind (fun u11 => gLet u11.1 (fun x12 => (f_L_quickest x4 (0 : Int32) u11.2).bind (fun u13 => gLet u13.1 (fun x14 => (f_L_shortest x4 (1 : Int32) u13.2).bind (fun u15 => gLet u15.1 (fun x16 => (f_L_quickest x4 (1 : Int32) u15.2).bind (fun u17 => gLet u17.1 (fun x18 => (f_L_team x4 (2 : Int32) u17.2).bind (fun u19 => gLet u19.1 (fun x20 => fb_L_follows_221 gFuelL l1 l2 l4 l5 s0 x4 x6 x8 x10 x12 x14 x16 x18 x20 (0 : Int64) (0 : Int32) u19.2)))))))))))))))))))
def fs_L_follows_127  (l1 : Int32) (l2 : Int64) (l4 : Int32) (l5 : Int32) (g : gG) : Option (Int32 × gG) :=
  fs_L_follows_128 l1 l2 l4 l5 (0 : Int32) g
def fs_L_follows_123  (l1 : Int32) (l2 : Int64) (l4 : Int32) (l5 : Int32) (g : gG) : Option (Int32 × gG) :=
  fs_L_follows_128 l1 l2 l4 l5 (1 : Int32) g
def fs_L_follows_67  (l1 : Int32) (l2 : Int64) (l4 : Int32) (l5 : Int32) (s0 : Int32) (g : gG) : Option (Int32 × gG) :=
  (f_X9_easeBy g).bind (fun u1 => gLet u1.1 (fun x2 => if s0 = (0 : Int32) then (fs_L_follows_127 l1 l2 l4 l5 u1.2) else (if x2 = (-9 : Int32) then (fs_L_follows_123 l1 l2 l4 l5 u1.2) else ((f_L_ease x2 u1.2).bind (fun u5 => if (lg_cmp u5.1 (0 : Int64)) < (0 : Int32) then (fs_L_follows_127 l1 l2 l4 l5 u5.2) else ((f_X9_deadEnds u5.2).bind (fun u7 => if u7.1 = (0 : Int32) then ((f_L_undo u7.2).bind (fun u9 => if (lg_cmp u9.1 (0 : Int64)) < (0 : Int32) then (fs_L_follows_127 l1 l2 l4 l5 u9.2) else ((f_L_now u9.2).bind (fun u11 => if (lg_cmp u11.1 l2) = (0 : Int32) then (fs_L_follows_123 l1 l2 l4 l5 u11.2) else (fs_L_follows_127 l1 l2 l4 l5 u11.2))))) else (fs_L_follows_127 l1 l2 l4 l5 u7.2))))))))
def fs_L_follows_66  (l1 : Int32) (l2 : Int64) (l4 : Int32) (l5 : Int32) (g : gG) : Option (Int32 × gG) :=
  fs_L_follows_67 l1 l2 l4 l5 (0 : Int32) g
def f_L_follows  (a1 : Int32) (g : gG) : Option (Int32 × gG) :=
  (f_L_now g).bind (fun u1 => gLet u1.1 (fun x2 => (f_L_about (0 : Int32) u1.2).bind (fun u3 => gLet u3.1.toInt32 (fun x4 => (f_L_about (1 : Int32) u3.2).bind (fun u5 => gLet u5.1.toInt32 (fun x6 => (f_L_save (1 : Int32) u5.2).bind (fun u7 => if (lg_cmp u7.1 x6.toInt64) = (0 : Int32) then ((f_L_simulate a1.toInt64 (9 : Int32) u7.2).bind (fun u9 => (f_L_simulate a1.toInt64 (9 : Int32) u9.2).bind (fun u10 => if (lg_cmp u9.1 u10.1) = (0 : Int32) then ((f_L_now u10.2).bind (fun u12 => if (lg_cmp u12.1 x2) = (0 : Int32) then (fs_L_follows_67 a1 x2 x4 x6 (1 : Int32) u12.2) else (fs_L_follows_66 a1 x2 x4 x6 u12.2))) else (fs_L_follows_66 a1 x2 x4 x6 u10.2)))) else (fs_L_follows_66 a1 x2 x4 x6 u7.2))))))))
def f_L_says  (a1 : Int32) (g : gG) : Option (Int32 × gG) :=
  (f_L_append a1 g).bind (fun u1 => if (lg_cmp u1.1 (0 : Int64)) ≤ (0 : Int32) then (some ((0 : Int32), u1.2)) else (some ((1 : Int32), u1.2)))
def fs_L_tells_463  (l4 : Int32) (g : gG) : Option (Int32 × gG) :=
  if l4 = (0 : Int32) then (some ((0 : Int32), g)) else ((f_X9_errorPosition g).bind (fun u2 => if u2.1 = (-9 : Int32) then (some ((1 : Int32), u2.2)) else (some ((0 : Int32), u2.2))))
def fs_L_tells_455 (F33 : Int32 → Int32 → Int32 → Int32 → gG → Option (Int32 × gG)) (l1 : Int32) (l3 : Int32) (l5 : Int32) (s0 : Int32) (g : gG) : Option (Int32 × gG) :=
  gLet (l5 + (1 : Int32)) (fun x1 => F33 l1 l3 s0 x1 g)
def fs_L_tells_454 (F33 : Int32 → Int32 → Int32 → Int32 → gG → Option (Int32 × gG)) (l1 : Int32) (l3 : Int32) (l5 : Int32) (g : gG) : Option (Int32 × gG) :=
  fs_L_tells_455 F33 l1 l3 l5 (0 : Int32) g
def fs_L_tells_450 (F33 : Int32 → Int32 → Int32 → Int32 → gG → Option (Int32 × gG)) (l1 : Int32) (l3 : Int32) (l5 : Int32) (g : gG) : Option (Int32 × gG) :=
  fs_L_tells_455 F33 l1 l3 l5 (1 : Int32) g
def fs_L_tells_166 (F33 : Int32 → Int32 → Int32 → Int32 → gG → Option (Int32 × gG)) (l1 : Int32) (l3 : Int32) (l4 : Int32) (l5 : Int32) (l6 : Int32) (l7 : Int32) (l8 : Int32) (s0 : Int32) (g : gG) : Option (Int32 × gG) :=
  if l4 = (0 : Int32) then (fs_L_tells_454 F33 l1 l3 l5 g) else (if s0 = (0 : Int32) then ((f_L_says (42 : Int32) g).bind (fun u54 => if u54.1 = (0 : Int32) then (fs_L_tells_454 F33 l1 l3 l5 u54.2) else (fs_L_tells_450 F33 l1 l3 l5 u54.2))) else (if s0 = (1 : Int32) then ((f_L_says l7 g).bind (fun u52 => if u52.1 = (0 : Int32) then (fs_L_tells_454 F33 l1 l3 l5 u52.2) else (fs_L_tells_450 F33 l1 l3 l5 u52.2))) else (if s0 = (2 : Int32) then ((f_L_says (33 : Int32) g).bind (fun u48 => if u48.1 = (0 : Int32) then (fs_L_tells_454 F33 l1 l3 l5 u48.2) else ((f_L_says l7 u48.2).bind (fun u50 => if u50.1 = (0 : Int32) then (fs_L_tells_454 F33 l1 l3 l5 u50.2) else (fs_L_tells_450 F33 l1 l3 l5 u50.2))))) else (if s0 = (3 : Int32) then ((f_L_says l7 g).bind (fun u42 => if u42.1 = (0 : Int32) then (fs_L_tells_454 F33 l1 l3 l5 u42.2) else ((f_L_says (46 : Int32) u42.2).bind (fun u44 => if u44.1 = (0 : Int32) then (fs_L_tells_454 F33 l1 l3 l5 u44.2) else ((f_L_says l8 u44.2).bind (fun u46 => if u46.1 = (0 : Int32) then (fs_L_tells_454 F33 l1 l3 l5 u46.2) else (fs_L_tells_450 F33 l1 l3 l5 u46.2))))))) else (if s0 = (4 : Int32) then ((f_L_says l7 g).bind (fun u32 => if u32.1 = (0 : Int32) then (fs_L_tells_454 F33 l1 l3 l5 u32.2) else ((f_L_says (43 : Int32) u32.2).bind (fun u34 => if u34.1 = (0 : Int32) then (fs_L_tells_454 F33 l1 l3 l5 u34.2) else ((f_L_says (33 : Int32) u34.2).bind (fun u36 => if u36.1 = (0 : Int32) then (fs_L_tells_454 F33 l1 l3 l5 u36.2) else ((f_L_says (33 : Int32) u36.2).bind (fun u38 => if u38.1 = (0 : Int32) then (fs_L_tells_454 F33 l1 l3 l5 u38.2) else ((f_L_says l8 u38.2).bind (fun u40 => if u40.1 = (0 : Int32) then (fs_L_tells_454 F33 l1 l3 l5 u40.2) else (fs_L_tells_450 F33 l1 l3 l5 u40.2))))))))))) else (if s0 = (5 : Int32) then ((f_L_says ((49 : Int32) + ((l6 / (7 : Int32)) - (l6 / (7 : Int32)) / (2 : Int32) * (2 : Int32))) g).bind (fun u20 => if u20.1 = (0 : Int32) then (fs_L_tells_454 F33 l1 l3 l5 u20.2) else ((f_L_says (91 : Int32) u20.2).bind (fun u22 => if u22.1 = (0 : Int32) then (fs_L_tells_454 F33 l1 l3 l5 u22.2) else ((f_L_says l7 u22.2).bind (fun u24 => if u24.1 = (0 : Int32) then (fs_L_tells_454 F33 l1 l3 l5 u24.2) else ((f_L_says (44 : Int32) u24.2).bind (fun u26 => if u26.1 = (0 : Int32) then (fs_L_tells_454 F33 l1 l3 l5 u26.2) else ((f_L_says l8 u26.2).bind (fun u28 => if u28.1 = (0 : Int32) then (fs_L_tells_454 F33 l1 l3 l5 u28.2) else ((f_L_says (93 : Int32) u28.2).bind (fun u30 => if u30.1 = (0 : Int32) then (fs_L_tells_454 F33 l1 l3 l5 u30.2) else (fs_L_tells_450 F33 l1 l3 l5 u30.2))))))))))))) else ((f_L_says (33 : Int32) g).bind (fun u8 => if u8.1 = (0 : Int32) then (fs_L_tells_454 F33 l1 l3 l5 u8.2) else ((f_L_says (40 : Int32) u8.2).bind (fun u10 => if u10.1 = (0 : Int32) then (fs_L_tells_454 F33 l1 l3 l5 u10.2) else ((f_L_says l7 u10.2).bind (fun u12 => if u12.1 = (0 : Int32) then (fs_L_tells_454 F33 l1 l3 l5 u12.2) else ((f_L_says (46 : Int32) u12.2).bind (fun u14 => if u14.1 = (0 : Int32) then (fs_L_tells_454 F33 l1 l3 l5 u14.2) else ((f_L_says l8 u14.2).bind (fun u16 => if u16.1 = (0 : Int32) then (fs_L_tells_454 F33 l1 l3 l5 u16.2) else ((f_L_says (41 : Int32) u16.2).bind (fun u18 => if u18.1 = (0 : Int32) then (fs_L_tells_454 F33 l1 l3 l5 u18.2) else (fs_L_tells_450 F33 l1 l3 l5 u18.2)))))))))))))))))))
def fs_L_tells_150 (F33 : Int32 → Int32 → Int32 → Int32 → gG → Option (Int32 × gG)) (l1 : Int32) (l3 : Int32) (l5 : Int32) (l6 : Int32) (l7 : Int32) (l8 : Int32) (s0 : Int32) (g : gG) : Option (Int32 × gG) :=
  if l5 = (0 : Int32) then (fs_L_tells_166 F33 l1 l3 s0 l5 l6 l7 l8 (0 : Int32) g) else (fs_L_tells_166 F33 l1 l3 s0 l5 l6 l7 l8 (l6 - l6 / (7 : Int32) * (7 : Int32)) g)
def fs_L_tells_149 (F33 : Int32 → Int32 → Int32 → Int32 → gG → Option (Int32 × gG)) (l1 : Int32) (l3 : Int32) (l5 : Int32) (l6 : Int32) (l7 : Int32) (l8 : Int32) (g : gG) : Option (Int32 × gG) :=
  fs_L_tells_150 F33 l1 l3 l5 l6 l7 l8 (0 : Int32) g
def fs_L_tells_100 (F33 : Int32 → Int32 → Int32 → Int32 → gG → Option (Int32 × gG)) (l1 : Int32) (l3 : Int32) (l5 : Int32) (l6 : Int32) (l7 : Int32) (s0 : Int32) (s1 : Int32) (g : gG) : Option (Int32 × gG) :=
  gLet (s0 + s1) (fun x1 => (f_L_says (47 : Int32) g).bind (fun u2 => if u2.1 = (0 : Int32) then (fs_L_tells_149 F33 l1 l3 l5 l6 l7 x1 u2.2) else ((f_L_says ((48 : Int32) + (l6 - l6 / (10 : Int32) * (10 : Int32))) u2.2).bind (fun u4 => if u4.1 = (0 : Int32) then (fs_L_tells_149 F33 l1 l3 l5 l6 l7 x1 u4.2) else ((f_L_says ((48 : Int32) + ((l6 / (10 : Int32)) - (l6 / (10 : Int32)) / (10 : Int32) * (10 : Int32))) u4.2).bind (fun u6 => if u6.1 = (0 : Int32) then (fs_L_tells_149 F33 l1 l3 l5 l6 l7 x1 u6.2) else (fs_L_tells_150 F33 l1 l3 l5 l6 l7 x1 (1 : Int32) u6.2)))))))
def fs_L_tells_78 (F33 : Int32 → Int32 → Int32 → Int32 → gG → Option (Int32 × gG)) (l1 : Int32) (l3 : Int32) (l5 : Int32) (l6 : Int32) (s0 : Int32) (s1 : Int32) (g : gG) : Option (Int32 × gG) :=
  gLet (s0 + s1) (fun x1 => if l5 = (0 : Int32) then (fs_L_tells_100 F33 l1 l3 l5 l6 x1 (97 : Int32) (0 : Int32) g) else (if l5 = 0 then none else fs_L_tells_100 F33 l1 l3 l5 l6 x1 (97 : Int32) ((l6 / (80 : Int32)) - (l6 / (80 : Int32)) / l5 * l5) g))
def fs_L_tells_33 (F33 : Int32 → Int32 → Int32 → Int32 → gG → Option (Int32 × gG)) (l1 : Int32) (l3 : Int32) (l4 : Int32) (l5 : Int32) (g : gG) : Option (Int32 × gG) :=
  if l3 ≤ l5 then (fs_L_tells_463 l4 g) else (if l4 = (0 : Int32) then (fs_L_tells_463 l4 g) else (gLet (((l1 >>> (l5 &&& 31)) &&& (65535 : Int32)) + ((31 : Int32) * l5)) (fun x3 => if l5 = (0 : Int32) then (fs_L_tells_78 F33 l1 l3 l5 x3 (97 : Int32) (0 : Int32) g) else (if l5 = 0 then none else fs_L_tells_78 F33 l1 l3 l5 x3 (97 : Int32) ((x3 / (8 : Int32)) - (x3 / (8 : Int32)) / l5 * l5) g))))
def fb_L_tells_33  : Nat → Int32 → Int32 → Int32 → Int32 → gG → Option (Int32 × gG)
  | 0 => fun _ _ _ _ _ => none
  | n + 1 => fs_L_tells_33 (fb_L_tells_33 n)
def fs_L_tells_28  (l1 : Int32) (l3 : Int32) (s0 : Int32) (g : gG) : Option (Int32 × gG) :=
  fb_L_tells_33 gFuelL l1 l3 s0 (0 : Int32) g
def fs_L_tells_27  (l1 : Int32) (l3 : Int32) (g : gG) : Option (Int32 × gG) :=
  fs_L_tells_28 l1 l3 (0 : Int32) g
def f_L_tells  (a1 : Int32) (a2 : Int32) (g : gG) : Option (Int32 × gG) :=
  gLet ((2 : Int32) + (a2 - a2 / (9 : Int32) * (9 : Int32))) (fun x1 => (f_X9_clearText g).bind (fun u2 => if u2.1 < (0 : Int32) then (fs_L_tells_27 a1 x1 u2.2) else ((f_L_says (72 : Int32) u2.2).bind (fun u4 => if u4.1 = (0 : Int32) then (fs_L_tells_27 a1 x1 u4.2) else (fs_L_tells_28 a1 x1 (1 : Int32) u4.2)))))
def fs_L_act_64   (g : gG) : Option (Int64 × gG) :=
  (f_L_addTeam g).bind (fun u1 => some (u1.1, u1.2))
def fs_L_act_69  (l3 : Int32) (g : gG) : Option (Int64 × gG) :=
  (f_L_hint l3 g).bind (fun u1 => some (u1.1, u1.2))
def fs_L_act_237  (l3 : Int32) (l4 : Int32) (l5 : Int32) (g : gG) : Option (Int64 × gG) :=
  if l5 = 0 then none else (f_L_go l3 (l4 - l4 / l5 * l5) g).bind (fun u2 => some (u2.1, u2.2))
def fs_L_act_190 (F190 : Int32 → Int32 → Int32 → Int32 → Int64 → Int32 → gG → Option (Int64 × gG)) (l2 : Int32) (l3 : Int32) (l4 : Int32) (l5 : Int32) (l6 : Int64) (l8 : Int32) (g : gG) : Option (Int64 × gG) :=
  if l5 ≤ l8 then (fs_L_act_237 l3 l4 l5 g) else ((f_L_in l6 (1 : Int64) (1023 : Int64) g).bind (fun u2 => if u2.1 = (0 : Int32) then (fs_L_act_237 l3 l4 l5 u2.2) else (if (l2 - l2 / (3 : Int32) * (3 : Int32)) ≤ (0 : Int32) then (fs_L_act_237 l3 l4 l5 u2.2) else (if l5 = 0 then none else (f_L_has l6 (l4 - l4 / l5 * l5) u2.2).bind (fun u6 => if u6.1 = (0 : Int32) then (gLet (l4 + (1 : Int32)) (fun x8 => gLet (l8 + (1 : Int32)) (fun x9 => F190 l2 l3 x8 l5 l6 x9 u6.2))) else (fs_L_act_237 l3 l4 l5 u6.2))))))
def fb_L_act_190  : Nat → Int32 → Int32 → Int32 → Int32 → Int64 → Int32 → gG → Option (Int64 × gG)
  | 0 => fun _ _ _ _ _ _ _ => none
  | n + 1 => fs_L_act_190 (fb_L_act_190 n)
def f_L_act  (a1 : Int32) (a2 : Int32) (g : gG) : Option (Int64 × gG) :=
  gLet (a2 - a2 / (4 : Int32) * (4 : Int32)) (fun x1 => if (a1 - a1 / (18 : Int32) * (18 : Int32)) = (0 : Int32) then (fs_L_act_64 g) else (if (a1 - a1 / (18 : Int32) * (18 : Int32)) = (1 : Int32) then (fs_L_act_64 g) else (if (a1 - a1 / (18 : Int32) * (18 : Int32)) = (2 : Int32) then (fs_L_act_64 g) else (if (a1 - a1 / (18 : Int32) * (18 : Int32)) = (3 : Int32) then (fs_L_act_69 x1 g) else (if (a1 - a1 / (18 : Int32) * (18 : Int32)) = (4 : Int32) then (fs_L_act_69 x1 g) else (if (a1 - a1 / (18 : Int32) * (18 : Int32)) = (5 : Int32) then ((f_L_giveUp x1 g).bind (fun u8 => some (u8.1, u8.2))) else (if (a1 - a1 / (18 : Int32) * (18 : Int32)) = (6 : Int32) then ((f_L_move ((a2 / (4 : Int32)) - (a2 / (4 : Int32)) / (10 : Int32) * (10 : Int32)) ((a2 / (40 : Int32)) - (a2 / (40 : Int32)) / (10 : Int32) * (10 : Int32)) ((a2 / (400 : Int32)) - (a2 / (400 : Int32)) / (10 : Int32) * (10 : Int32)) g).bind (fun u10 => some (u10.1, u10.2))) else (if (a1 - a1 / (18 : Int32) * (18 : Int32)) = (7 : Int32) then (if (a2 - a2 / (5 : Int32) * (5 : Int32)) = (0 : Int32) then ((f_L_ease ((a2 / (4 : Int32)) - (a2 / (4 : Int32)) / (10 : Int32) * (10 : Int32)) g).bind (fun u14 => some (u14.1, u14.2))) else ((f_L_addTeam g).bind (fun u13 => some (u13.1, u13.2)))) else (if (a1 - a1 / (18 : Int32) * (18 : Int32)) = (8 : Int32) then ((f_L_undo g).bind (fun u16 => some (u16.1, u16.2))) else (if (a1 - a1 / (18 : Int32) * (18 : Int32)) = (9 : Int32) then (if (a2 - a2 / (2 : Int32) * (2 : Int32)) = (0 : Int32) then ((f_L_save ((a2 / (2 : Int32)) &&& (1 : Int32)) g).bind (fun u20 => some (u20.1, u20.2))) else ((f_L_restore ((a2 / (2 : Int32)) &&& (1 : Int32)) g).bind (fun u19 => some (u19.1, u19.2)))) else (gLet ((a2 / (4 : Int32)) - (a2 / (4 : Int32)) / (10 : Int32) * (10 : Int32)) (fun x21 => (f_L_about (0 : Int32) g).bind (fun u22 => gLet u22.1.toInt32 (fun x23 => (f_L_open x1 u22.2).bind (fun u24 => gLet u24.1 (fun x25 => fb_L_act_190 gFuelL a2 x1 x21 x23 x25 (0 : Int32) u24.2))))))))))))))))
