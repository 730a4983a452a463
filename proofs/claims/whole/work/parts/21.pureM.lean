abbrev rm_X5_finding : Room := { frames := 0, cells := 0, slots := 0, locals := 0 }
def f_X5_finding (x1 : Int32) (σ : Mem) : Option (Int32 × Mem) := vI 8 (((-1000001) - x1) + 1) (fun j1 => vI 8 (((-1000001) - x1) + 1) (fun j2 => vW σ 54 j2 ((σ 54 j1) + 1) (fun σ3 => vI 8 0 (fun j4 => vI 8 0 (fun j5 => vW σ3 54 j5 ((σ3 54 j4) + 1) (fun σ6 => some (x1, σ6)))))))
abbrev rm_X5_within : Room := { frames := 0, cells := 0, slots := 0, locals := 0 }
def f_X5_within (x0 : Int32) (x1 : Int32) (x2 : Int32) (σ : Mem) : Option (Int32 × Mem) := if x0 < x1 then some (0, σ) else if x2 < x0 then some (0, σ) else some (1, σ)
abbrev rm_X5_become : Room := { frames := 0, cells := 0, slots := 0, locals := 0 }
def f_X5_become (x1 : Int32) (x2 : Int32) (σ : Mem) : Option (Int32 × Mem) := vI 70 x1 (fun j1 => vL (σ 51 j1) (fun x2 => vI 70 x1 (fun j3 => vW σ 51 j3 x2 (fun σ4 => some (x2, σ4)))))
abbrev rm_X5_copyRow : Room := { frames := 0, cells := 0, slots := 0, locals := 0 }
def f_X5_copyRow_L2  : Nat → Nat → Nat → Int32 → Mem → Option (Unit × Mem)
  | 0 => fun _ _ _ _ => none
  | n + 1 => fun b0 b1 y2 σ => if 70 ≤ y2 then some ((), σ) else vI 70 y2 (fun j2 => vI 70 y2 (fun j3 => vW σ b1 j3 (σ b0 j2) (fun σ4 => vL (y2 + 1) (fun x5 => (f_X5_copyRow_L2 n) b0 b1 x5 σ4))))
theorem f_X5_copyRow_L2_s  (n : Nat) (b0 : Nat) (b1 : Nat) (y2 : Int32) (σ : Mem) : f_X5_copyRow_L2  (n + 1) b0 b1 y2 σ = if 70 ≤ y2 then some ((), σ) else vI 70 y2 (fun j2 => vI 70 y2 (fun j3 => vW σ b1 j3 (σ b0 j2) (fun σ4 => vL (y2 + 1) (fun x5 => (f_X5_copyRow_L2 n) b0 b1 x5 σ4)))) := rfl
def f_X5_copyRow (a0 : Nat) (a1 : Nat) (σ : Mem) : Option (Unit × Mem) := vL (0 : Int32) (fun x1 => f_X5_copyRow_L2 FU a0 a1 x1 σ)
abbrev rm_X5_putBack : Room := { frames := 1, cells := 0, slots := 0, locals := 22 }
def f_X5_putBack (x1 : Int32) (σ : Mem) : Option (Int32 × Mem) := vC (f_X5_copyRow 53 51 σ) (fun _ σ1 => some (x1, σ1))
abbrev rm_X5_orNone : Room := { frames := 1, cells := 0, slots := 0, locals := 21 }
def f_X5_orNone (x1 : Int32) (σ : Mem) : Option (Int32 × Mem) := if 0 ≤ x1 then some (x1, σ) else vC (f_X5_finding (-1000004) σ) (fun r2 σ1 => some (r2, σ1))
abbrev rm_X5_bits : Room := { frames := 0, cells := 0, slots := 0, locals := 0 }
def f_X5_bits_L4  : Nat → Int32 → Int32 → Mem → Option (Int32 × Mem)
  | 0 => fun _ _ _ => none
  | n + 1 => fun y1 y2 σ => if y2 = 0 then some (y1, σ) else vL (y1 + 1) (fun x3 => vL (y2 &&& (y2 - 1)) (fun x4 => (f_X5_bits_L4 n) x3 x4 σ))
theorem f_X5_bits_L4_s  (n : Nat) (y1 : Int32) (y2 : Int32) (σ : Mem) : f_X5_bits_L4  (n + 1) y1 y2 σ = if y2 = 0 then some (y1, σ) else vL (y1 + 1) (fun x3 => vL (y2 &&& (y2 - 1)) (fun x4 => (f_X5_bits_L4 n) x3 x4 σ)) := rfl
def f_X5_bits (x0 : Int32) (σ : Mem) : Option (Int32 × Mem) := vL (0 : Int32) (fun x1 => vL x0 (fun x2 => f_X5_bits_L4 FU x1 x2 σ))
abbrev rm_X5_isSet : Room := { frames := 1, cells := 0, slots := 0, locals := 22 }
def f_X5_isSet (x0 : Int32) (σ : Mem) : Option (Int32 × Mem) := vC (f_X5_within x0 0 4095 σ) (fun r2 σ1 => vB r2 (some (r2, σ1)))
abbrev rm_X5_isScene : Room := { frames := 1, cells := 0, slots := 0, locals := 22 }
def f_X5_isScene (x0 : Int32) (σ : Mem) : Option (Int32 × Mem) := vC (f_X5_within x0 0 11 σ) (fun r2 σ1 => vB r2 (some (r2, σ1)))
abbrev rm_X5_fire : Room := { frames := 1, cells := 0, slots := 0, locals := 23 }
def f_X5_fire (x1 : Int32) (σ : Mem) : Option (Int32 × Mem) := vC (f_X5_within x1 0 1 σ) (fun r2 σ1 => if r2 = 0 then vC (f_X5_finding (-1000001) σ1) (fun r4 σ3 => some (r4, σ3)) else vC (f_X5_become 3 x1 σ1) (fun r6 σ5 => some (r6, σ5)))
abbrev rm_X5_isPlace : Room := { frames := 1, cells := 0, slots := 0, locals := 22 }
def f_X5_isPlace (x0 : Int32) (σ : Mem) : Option (Int32 × Mem) := vC (f_X5_within x0 0 5 σ) (fun r2 σ1 => vB r2 (some (r2, σ1)))
abbrev rm_X5_scene : Room := { frames := 2, cells := 0, slots := 0, locals := 42 }
def f_X5_scene_J26   (σ : Mem) : Option (Int32 × Mem) := vC (f_X5_finding (-1000001) σ) (fun r4 σ3 => some (r4, σ3))
def f_X5_scene (x1 : Int32) (x2 : Int32) (σ : Mem) : Option (Int32 × Mem) := vC (f_X5_isPlace x1 σ) (fun r2 σ1 => if r2 = 0 then f_X5_scene_J26 σ1 else vC (f_X5_isScene x2 σ1) (fun r6 σ5 => if r6 = 0 then f_X5_scene_J26 σ5 else vC (f_X5_become (6 + x1) x2 σ5) (fun r8 σ7 => some (r8, σ7))))
abbrev rm_X5_listed : Room := { frames := 2, cells := 0, slots := 0, locals := 42 }
def f_X5_listed (x1 : Int32) (σ : Mem) : Option (Int32 × Mem) := vC (f_X5_isPlace x1 σ) (fun r2 σ1 => if r2 = 0 then vC (f_X5_finding (-1000001) σ1) (fun r4 σ3 => some (r4, σ3)) else vI 70 (6 + x1) (fun j5 => some (σ1 51 j5, σ1)))
abbrev rm_X5_placeNow : Room := { frames := 0, cells := 0, slots := 0, locals := 0 }
def f_X5_placeNow  (σ : Mem) : Option (Int32 × Mem) := vI 70 0 (fun j1 => some (6 + ((σ 51 j1) - (σ 51 j1) / 6 * 6), σ))
abbrev rm_X5_curtainAt : Room := { frames := 0, cells := 0, slots := 0, locals := 0 }
def f_X5_curtainAt (x0 : Int32) (x1 : Int32) (σ : Mem) : Option (Int32 × Mem) := some ((22 + (6 * x0)) + x1, σ)
abbrev rm_X5_curtainIs : Room := { frames := 1, cells := 0, slots := 0, locals := 21 }
def f_X5_curtainIs (x1 : Int32) (x2 : Int32) (σ : Mem) : Option (Int32 × Mem) := vC (f_X5_curtainAt x1 x2 σ) (fun r2 σ1 => vI 70 r2 (fun j3 => some (σ1 51 j3, σ1)))
abbrev rm_X5_isCurtain : Room := { frames := 1, cells := 0, slots := 0, locals := 22 }
def f_X5_isCurtain (x1 : Int32) (σ : Mem) : Option (Int32 × Mem) := vI 70 1 (fun j1 => vC (f_X5_within x1 0 ((σ 51 j1) - 1) σ) (fun r3 σ2 => vB r3 (some (r3, σ2))))
abbrev rm_X5_isKind : Room := { frames := 1, cells := 0, slots := 0, locals := 22 }
def f_X5_isKind (x0 : Int32) (σ : Mem) : Option (Int32 × Mem) := vC (f_X5_within x0 0 6 σ) (fun r2 σ1 => vB r2 (some (r2, σ1)))
abbrev rm_X5_comes : Room := { frames := 1, cells := 0, slots := 0, locals := 21 }
def f_X5_comes_L10  : Nat → Int32 → Int32 → Int32 → Int32 → Mem → Option (Int32 × Mem)
  | 0 => fun _ _ _ _ _ => none
  | n + 1 => fun y1 y2 y3 y4 σ => if 6 ≤ y4 then vC (f_X5_curtainAt y3 0 σ) (fun r5 σ4 => vI 70 r5 (fun j6 => vW σ4 51 j6 y1 (fun σ7 => vC (f_X5_curtainAt y3 1 σ7) (fun r9 σ8 => vI 70 r9 (fun j10 => vW σ8 51 j10 60 (fun σ11 => vC (f_X5_curtainAt y3 2 σ11) (fun r13 σ12 => vI 70 r13 (fun j14 => vW σ12 51 j14 y2 (fun σ15 => vC (f_X5_curtainAt y3 3 σ15) (fun r17 σ16 => vI 70 r17 (fun j18 => vW σ16 51 j18 20 (fun σ19 => vI 70 1 (fun j20 => vI 70 1 (fun j21 => vW σ19 51 j21 ((σ19 51 j20) + 1) (fun σ22 => some (y3, σ22)))))))))))))))) else vC (f_X5_curtainAt y3 y4 σ) (fun r24 σ23 => vI 70 r24 (fun j25 => vW σ23 51 j25 0 (fun σ26 => vL (y4 + 1) (fun x27 => (f_X5_comes_L10 n) y1 y2 y3 x27 σ26))))
theorem f_X5_comes_L10_s  (n : Nat) (y1 : Int32) (y2 : Int32) (y3 : Int32) (y4 : Int32) (σ : Mem) : f_X5_comes_L10  (n + 1) y1 y2 y3 y4 σ = if 6 ≤ y4 then vC (f_X5_curtainAt y3 0 σ) (fun r5 σ4 => vI 70 r5 (fun j6 => vW σ4 51 j6 y1 (fun σ7 => vC (f_X5_curtainAt y3 1 σ7) (fun r9 σ8 => vI 70 r9 (fun j10 => vW σ8 51 j10 60 (fun σ11 => vC (f_X5_curtainAt y3 2 σ11) (fun r13 σ12 => vI 70 r13 (fun j14 => vW σ12 51 j14 y2 (fun σ15 => vC (f_X5_curtainAt y3 3 σ15) (fun r17 σ16 => vI 70 r17 (fun j18 => vW σ16 51 j18 20 (fun σ19 => vI 70 1 (fun j20 => vI 70 1 (fun j21 => vW σ19 51 j21 ((σ19 51 j20) + 1) (fun σ22 => some (y3, σ22)))))))))))))))) else vC (f_X5_curtainAt y3 y4 σ) (fun r24 σ23 => vI 70 r24 (fun j25 => vW σ23 51 j25 0 (fun σ26 => vL (y4 + 1) (fun x27 => (f_X5_comes_L10 n) y1 y2 y3 x27 σ26)))) := rfl
def f_X5_comes (x1 : Int32) (x2 : Int32) (σ : Mem) : Option (Int32 × Mem) := vI 70 1 (fun j1 => vL (σ 51 j1) (fun x2 => vL (0 : Int32) (fun x3 => f_X5_comes_L10 FU x1 x2 x2 x3 σ)))
abbrev rm_X5_curtain : Room := { frames := 2, cells := 0, slots := 0, locals := 45 }
def f_X5_curtain_J14   (σ : Mem) : Option (Int32 × Mem) := vC (f_X5_finding (-1000001) σ) (fun r4 σ3 => some (r4, σ3))
def f_X5_curtain (x1 : Int32) (x2 : Int32) (σ : Mem) : Option (Int32 × Mem) := vC (f_X5_isKind x1 σ) (fun r2 σ1 => if r2 = 0 then f_X5_curtain_J14 σ1 else vC (f_X5_isSet x2 σ1) (fun r6 σ5 => if r6 = 0 then f_X5_curtain_J14 σ5 else vI 70 1 (fun j7 => if (σ5 51 j7) = 8 then vC (f_X5_finding (-1000002) σ5) (fun r11 σ10 => some (r11, σ10)) else vC (f_X5_comes x1 x2 σ5) (fun r9 σ8 => some (r9, σ8)))))
abbrev rm_X5_gladdens : Room := { frames := 2, cells := 0, slots := 0, locals := 43 }
def f_X5_gladdens (x1 : Int32) (σ : Mem) : Option (Int32 × Mem) := vC (f_X5_curtainIs x1 0 σ) (fun r2 σ1 => if r2 = 1 then some (10, σ1) else if r2 = 2 then some (4, σ1) else if r2 = 3 then some (4, σ1) else if r2 = 4 then vC (f_X5_curtainIs x1 2 σ1) (fun r4 σ3 => vC (f_X5_bits r4 σ3) (fun r6 σ5 => some (4 + r6, σ5))) else if r2 = 5 then some (0, σ1) else if r2 = 6 then some (8, σ1) else some (5, σ1))
abbrev rm_X5_tires : Room := { frames := 2, cells := 0, slots := 0, locals := 43 }
def f_X5_tires (x1 : Int32) (x2 : Int32) (σ : Mem) : Option (Int32 × Mem) := vC (f_X5_curtainIs x1 0 σ) (fun r2 σ1 => if r2 = 1 then some (6, σ1) else if r2 = 2 then some (2, σ1) else if r2 = 3 then some (2 + (x2 &&& 1), σ1) else if r2 = 4 then some (1 + (x2 &&& 1), σ1) else if r2 = 5 then some (0, σ1) else if r2 = 6 then vC (f_X5_curtainIs x1 3 σ1) (fun r4 σ3 => if r4 = 0 then some (0, σ3) else some (6, σ3)) else some (4, σ1))
abbrev rm_X5_bears : Room := { frames := 2, cells := 0, slots := 0, locals := 43 }
def f_X5_bears (x1 : Int32) (σ : Mem) : Option (Int32 × Mem) := vC (f_X5_curtainIs x1 0 σ) (fun r2 σ1 => if r2 = 1 then some (40, σ1) else if r2 = 2 then some (20, σ1) else if r2 = 3 then some (20, σ1) else if r2 = 4 then some (40, σ1) else if r2 = 5 then some (0, σ1) else if r2 = 6 then some (40, σ1) else some (30, σ1))
abbrev rm_X5_falls : Room := { frames := 2, cells := 0, slots := 0, locals := 43 }
def f_X5_falls (x1 : Int32) (σ : Mem) : Option (Int32 × Mem) := vC (f_X5_curtainIs x1 0 σ) (fun r2 σ1 => if r2 = 1 then some (2, σ1) else if r2 = 2 then some (6, σ1) else if r2 = 3 then some (20, σ1) else if r2 = 4 then some (5, σ1) else if r2 = 5 then some (1, σ1) else if r2 = 6 then vI 70 3 (fun j3 => if (σ1 51 j3) = 1 then some (8, σ1) else some (2, σ1)) else some (4, σ1))
abbrev rm_X5_rises : Room := { frames := 2, cells := 0, slots := 0, locals := 43 }
def f_X5_rises (x1 : Int32) (σ : Mem) : Option (Int32 × Mem) := vC (f_X5_curtainIs x1 0 σ) (fun r2 σ1 => if r2 = 1 then some (1, σ1) else if r2 = 2 then some (3, σ1) else if r2 = 3 then some (6, σ1) else if r2 = 4 then some (6, σ1) else if r2 = 5 then some (1, σ1) else if r2 = 6 then some (1, σ1) else some (2, σ1))
abbrev rm_X5_told : Room := { frames := 3, cells := 0, slots := 0, locals := 65 }
def f_X5_told (x1 : Int32) (x2 : Int32) (σ : Mem) : Option (Int32 × Mem) := if x2 = 6 then vC (f_X5_gladdens x1 σ) (fun r2 σ1 => some (r2, σ1)) else if x2 = 7 then vC (f_X5_placeNow σ) (fun r4 σ3 => vI 70 r4 (fun j5 => vC (f_X5_tires x1 (σ3 51 j5) σ3) (fun r7 σ6 => some (r7, σ6)))) else if x2 = 8 then vC (f_X5_bears x1 σ) (fun r9 σ8 => some (r9, σ8)) else if x2 = 9 then vC (f_X5_falls x1 σ) (fun r11 σ10 => some (r11, σ10)) else if x2 = 10 then vC (f_X5_rises x1 σ) (fun r13 σ12 => some (r13, σ12)) else vC (f_X5_curtainIs x1 x2 σ) (fun r15 σ14 => some (r15, σ14))
abbrev rm_X5_of : Room := { frames := 4, cells := 0, slots := 0, locals := 87 }
def f_X5_of_J27   (σ : Mem) : Option (Int32 × Mem) := vC (f_X5_finding (-1000001) σ) (fun r4 σ3 => some (r4, σ3))
def f_X5_of (x1 : Int32) (x2 : Int32) (σ : Mem) : Option (Int32 × Mem) := vC (f_X5_isCurtain x1 σ) (fun r2 σ1 => if r2 = 0 then f_X5_of_J27 σ1 else vC (f_X5_within x2 0 10 σ1) (fun r6 σ5 => if r6 = 0 then f_X5_of_J27 σ5 else vC (f_X5_told x1 x2 σ5) (fun r8 σ7 => some (r8, σ7))))
abbrev rm_X5_isField : Room := { frames := 2, cells := 0, slots := 0, locals := 42 }
def f_X5_isField (x0 : Int32) (x1 : Int32) (σ : Mem) : Option (Int32 × Mem) := if x0 = 0 then vC (f_X5_isKind x1 σ) (fun r2 σ1 => vB r2 (some (r2, σ1))) else if x0 = 1 then vC (f_X5_within x1 0 99 σ) (fun r4 σ3 => vB r4 (some (r4, σ3))) else if x0 = 2 then vC (f_X5_isSet x1 σ) (fun r6 σ5 => vB r6 (some (r6, σ5))) else if x0 = 3 then vC (f_X5_within x1 0 20 σ) (fun r8 σ7 => vB r8 (some (r8, σ7))) else if x0 = 4 then vC (f_X5_within x1 0 1 σ) (fun r10 σ9 => vB r10 (some (r10, σ9))) else if x0 = 5 then vC (f_X5_within x1 0 9999 σ) (fun r12 σ11 => vB r12 (some (r12, σ11))) else some (0, σ)
abbrev rm_X5_change : Room := { frames := 3, cells := 0, slots := 0, locals := 63 }
def f_X5_change_J29   (σ : Mem) : Option (Int32 × Mem) := vC (f_X5_finding (-1000001) σ) (fun r4 σ3 => some (r4, σ3))
def f_X5_change (x1 : Int32) (x2 : Int32) (x3 : Int32) (σ : Mem) : Option (Int32 × Mem) := vC (f_X5_isCurtain x1 σ) (fun r2 σ1 => if r2 = 0 then f_X5_change_J29 σ1 else vC (f_X5_isField x2 x3 σ1) (fun r6 σ5 => if r6 = 0 then f_X5_change_J29 σ5 else vC (f_X5_curtainAt x1 x2 σ5) (fun r8 σ7 => vC (f_X5_become r8 x3 σ7) (fun r10 σ9 => some (r10, σ9)))))
abbrev rm_X5_more : Room := { frames := 1, cells := 0, slots := 0, locals := 15 }
def f_X5_more (x1 : Int32) (x2 : Int32) (x3 : Int32) (σ : Mem) : Option (Unit × Mem) := vI 70 x1 (fun j1 => vI 70 x1 (fun j2 => vW σ 51 j2 (if ((σ 51 j1) + x2) < x3 then ((σ 51 j1) + x2) else x3) (fun σ3 => some ((), σ3))))
abbrev rm_X5_less : Room := { frames := 1, cells := 0, slots := 0, locals := 15 }
def f_X5_less (x1 : Int32) (x2 : Int32) (σ : Mem) : Option (Unit × Mem) := vI 70 x1 (fun j1 => vI 70 x1 (fun j2 => vW σ 51 j2 (if 0 < ((σ 51 j1) - x2) then ((σ 51 j1) - x2) else 0) (fun σ3 => some ((), σ3))))
abbrev rm_X5_pulled : Room := { frames := 3, cells := 0, slots := 0, locals := 64 }
def f_X5_pulled (x1 : Int32) (x2 : Int32) (σ : Mem) : Option (Int32 × Mem) := vC (f_X5_curtainAt x1 3 σ) (fun r2 σ1 => vC (f_X5_rises x1 σ1) (fun r4 σ3 => vC (f_X5_more r2 ((x2 / 10) + r4) 20 σ3) (fun _ σ5 => vC (f_X5_curtainAt x1 1 σ5) (fun r7 σ6 => vC (f_X5_less r7 (x2 / 5) σ6) (fun _ σ8 => vC (f_X5_curtainIs x1 3 σ8) (fun r10 σ9 => some (r10, σ9)))))))
abbrev rm_X5_isTied : Room := { frames := 2, cells := 0, slots := 0, locals := 43 }
def f_X5_isTied (x1 : Int32) (σ : Mem) : Option (Int32 × Mem) := vC (f_X5_curtainIs x1 4 σ) (fun r2 σ1 => if r2 = 1 then some (1, σ1) else some (0, σ1))
abbrev rm_X5_pull : Room := { frames := 4, cells := 0, slots := 0, locals := 86 }
def f_X5_pull_J18   (σ : Mem) : Option (Int32 × Mem) := vC (f_X5_finding (-1000001) σ) (fun r4 σ3 => some (r4, σ3))
def f_X5_pull (x1 : Int32) (x2 : Int32) (σ : Mem) : Option (Int32 × Mem) := vC (f_X5_isCurtain x1 σ) (fun r2 σ1 => if r2 = 0 then f_X5_pull_J18 σ1 else vC (f_X5_within x2 1 40 σ1) (fun r6 σ5 => if r6 = 0 then f_X5_pull_J18 σ5 else vC (f_X5_isTied x1 σ5) (fun r8 σ7 => if r8 = 0 then vC (f_X5_pulled x1 x2 σ7) (fun r10 σ9 => some (r10, σ9)) else vC (f_X5_finding (-1000005) σ7) (fun r12 σ11 => some (r12, σ11)))))
abbrev rm_X5_comesDown : Room := { frames := 2, cells := 0, slots := 0, locals := 38 }
def f_X5_comesDown (x1 : Int32) (σ : Mem) : Option (Unit × Mem) := vC (f_X5_curtainAt x1 5 σ) (fun r2 σ1 => vC (f_X5_more r2 1 9999 σ1) (fun _ σ3 => vI 70 3 (fun j4 => if (σ3 51 j4) = 1 then vC (f_X5_more 5 100 900 σ3) (fun _ σ9 => some ((), σ9)) else vC (f_X5_more 4 1 (99999) σ3) (fun _ σ5 => vC (f_X5_curtainAt x1 1 σ5) (fun r7 σ6 => vC (f_X5_more r7 25 99 σ6) (fun _ σ8 => some ((), σ8)))))))
abbrev rm_X5_plays : Room := { frames := 3, cells := 0, slots := 0, locals := 65 }
def f_X5_plays_J120  (y1 : Int32) (y3 : Int32) (σ : Mem) : Option (Unit × Mem) := if y3 ≤ 0 then some ((), σ) else vC (f_X5_curtainIs y1 3 σ) (fun r20 σ19 => if r20 = 0 then vC (f_X5_comesDown y1 σ19) (fun _ σ21 => some ((), σ21)) else some ((), σ19))
def f_X5_plays_J87  (y1 : Int32) (y3 : Int32) (σ : Mem) : Option (Unit × Mem) := vC (f_X5_curtainAt y1 3 σ) (fun r15 σ14 => vC (f_X5_falls y1 σ14) (fun r17 σ16 => vC (f_X5_less r15 r17 σ16) (fun _ σ18 => f_X5_plays_J120 y1 y3 σ18)))
def f_X5_plays_J48  (y1 : Int32) (σ : Mem) : Option (Unit × Mem) := vC (f_X5_isTied y1 σ) (fun r9 σ8 => if r9 = 0 then vC (f_X5_curtainIs y1 3 σ8) (fun r11 σ10 => vL r11 (fun x12 => vI 70 3 (fun j13 => if (σ10 51 j13) = 1 then f_X5_plays_J87 y1 x12 σ10 else vC (f_X5_curtainIs y1 1 σ10) (fun r23 σ22 => vC (f_X5_bears y1 σ22) (fun r25 σ24 => if r25 ≤ r23 then vC (f_X5_curtainAt y1 3 σ24) (fun r27 σ26 => vC (f_X5_rises y1 σ26) (fun r29 σ28 => vC (f_X5_more r27 r29 20 σ28) (fun _ σ30 => f_X5_plays_J120 y1 x12 σ30))) else f_X5_plays_J87 y1 x12 σ24))))) else some ((), σ8))
def f_X5_plays (x1 : Int32) (x2 : Int32) (σ : Mem) : Option (Unit × Mem) := vC (f_X5_curtainIs x1 2 σ) (fun r2 σ1 => if ((r2 >>> (x2 &&& 31)) &&& 1) = 1 then vC (f_X5_curtainAt x1 1 σ1) (fun r32 σ31 => vC (f_X5_gladdens x1 σ31) (fun r34 σ33 => vC (f_X5_more r32 r34 99 σ33) (fun _ σ35 => f_X5_plays_J48 x1 σ35))) else vC (f_X5_curtainAt x1 1 σ1) (fun r4 σ3 => vC (f_X5_tires x1 x2 σ3) (fun r6 σ5 => vC (f_X5_less r4 r6 σ5) (fun _ σ7 => f_X5_plays_J48 x1 σ7))))
abbrev rm_X5_beat : Room := { frames := 4, cells := 0, slots := 0, locals := 88 }
def f_X5_beat_L12  : Nat → Int32 → Int32 → Mem → Option (Unit × Mem)
  | 0 => fun _ _ _ => none
  | n + 1 => fun y1 y2 σ => vI 70 1 (fun j6 => if (σ 51 j6) ≤ y2 then vC (f_X5_more 0 1 (99999) σ) (fun _ σ7 => some ((), σ7)) else vC (f_X5_plays y2 y1 σ) (fun _ σ8 => vL (y2 + 1) (fun x9 => (f_X5_beat_L12 n) y1 x9 σ8)))
theorem f_X5_beat_L12_s  (n : Nat) (y1 : Int32) (y2 : Int32) (σ : Mem) : f_X5_beat_L12  (n + 1) y1 y2 σ = vI 70 1 (fun j6 => if (σ 51 j6) ≤ y2 then vC (f_X5_more 0 1 (99999) σ) (fun _ σ7 => some ((), σ7)) else vC (f_X5_plays y2 y1 σ) (fun _ σ8 => vL (y2 + 1) (fun x9 => (f_X5_beat_L12 n) y1 x9 σ8))) := rfl
def f_X5_beat  (σ : Mem) : Option (Unit × Mem) := vC (f_X5_placeNow σ) (fun r2 σ1 => vI 70 r2 (fun j3 => vL (σ1 51 j3) (fun x4 => vL (0 : Int32) (fun x5 => f_X5_beat_L12 FU x4 x5 σ1))))
abbrev rm_X5_beatsGo : Room := { frames := 5, cells := 0, slots := 0, locals := 110 }
def f_X5_beatsGo_L2  : Nat → Int32 → Int32 → Mem → Option (Unit × Mem)
  | 0 => fun _ _ _ => none
  | n + 1 => fun y1 y2 σ => if y1 ≤ y2 then some ((), σ) else vC (f_X5_beat σ) (fun _ σ2 => vL (y2 + 1) (fun x3 => (f_X5_beatsGo_L2 n) y1 x3 σ2))
theorem f_X5_beatsGo_L2_s  (n : Nat) (y1 : Int32) (y2 : Int32) (σ : Mem) : f_X5_beatsGo_L2  (n + 1) y1 y2 σ = if y1 ≤ y2 then some ((), σ) else vC (f_X5_beat σ) (fun _ σ2 => vL (y2 + 1) (fun x3 => (f_X5_beatsGo_L2 n) y1 x3 σ2)) := rfl
def f_X5_beatsGo (x1 : Int32) (σ : Mem) : Option (Unit × Mem) := vL (0 : Int32) (fun x1 => f_X5_beatsGo_L2 FU x1 x1 σ)
abbrev rm_X5_go : Room := { frames := 6, cells := 0, slots := 0, locals := 132 }
def f_X5_go (x1 : Int32) (σ : Mem) : Option (Int32 × Mem) := vC (f_X5_within x1 1 60 σ) (fun r2 σ1 => if r2 = 0 then vC (f_X5_finding (-1000001) σ1) (fun r9 σ8 => some (r9, σ8)) else vI 70 0 (fun j3 => if ((σ1 51 j3) + x1) ≤ (99999) then vC (f_X5_beatsGo x1 σ1) (fun _ σ4 => vI 70 4 (fun j5 => some (σ4 51 j5, σ4))) else vC (f_X5_finding (-1000005) σ1) (fun r7 σ6 => some (r7, σ6))))
abbrev rm_X5_downOnes : Room := { frames := 2, cells := 0, slots := 0, locals := 43 }
def f_X5_downOnes_J31 (k4 : Int32 → Int32 → Mem → Option (Int32 × Mem)) (y2 : Int32) (s0 : Int32) (s1 : Int32) (σ : Mem) : Option (Int32 × Mem) := vL (s0 ||| s1) (fun x6 => vL (y2 + 1) (fun x7 => k4 x6 x7 σ))
def f_X5_downOnes_L4  : Nat → Int32 → Int32 → Mem → Option (Int32 × Mem)
  | 0 => fun _ _ _ => none
  | n + 1 => fun y1 y2 σ => vI 70 1 (fun j3 => if (σ 51 j3) ≤ y2 then some (y1, σ) else vC (f_X5_curtainIs y2 3 σ) (fun r5 σ4 => if r5 = 0 then f_X5_downOnes_J31 (f_X5_downOnes_L4 n) y2 y1 (1 <<< (y2 &&& 31)) σ4 else f_X5_downOnes_J31 (f_X5_downOnes_L4 n) y2 y1 0 σ4))
theorem f_X5_downOnes_L4_s  (n : Nat) (y1 : Int32) (y2 : Int32) (σ : Mem) : f_X5_downOnes_L4  (n + 1) y1 y2 σ = vI 70 1 (fun j3 => if (σ 51 j3) ≤ y2 then some (y1, σ) else vC (f_X5_curtainIs y2 3 σ) (fun r5 σ4 => if r5 = 0 then f_X5_downOnes_J31 (f_X5_downOnes_L4 n) y2 y1 (1 <<< (y2 &&& 31)) σ4 else f_X5_downOnes_J31 (f_X5_downOnes_L4 n) y2 y1 0 σ4)) := rfl
def f_X5_downOnes  (σ : Mem) : Option (Int32 × Mem) := vL (0 : Int32) (fun x1 => vL (0 : Int32) (fun x2 => f_X5_downOnes_L4 FU x1 x2 σ))
abbrev rm_X5_wearyOnes : Room := { frames := 3, cells := 0, slots := 0, locals := 64 }
def f_X5_wearyOnes_J36 (k4 : Int32 → Int32 → Mem → Option (Int32 × Mem)) (y2 : Int32) (s0 : Int32) (s1 : Int32) (σ : Mem) : Option (Int32 × Mem) := vL (s0 ||| s1) (fun x8 => vL (y2 + 1) (fun x9 => k4 x8 x9 σ))
def f_X5_wearyOnes_L4  : Nat → Int32 → Int32 → Mem → Option (Int32 × Mem)
  | 0 => fun _ _ _ => none
  | n + 1 => fun y1 y2 σ => vI 70 1 (fun j3 => if (σ 51 j3) ≤ y2 then some (y1, σ) else vC (f_X5_curtainIs y2 1 σ) (fun r5 σ4 => vC (f_X5_bears y2 σ4) (fun r7 σ6 => if r7 ≤ r5 then f_X5_wearyOnes_J36 (f_X5_wearyOnes_L4 n) y2 y1 0 σ6 else f_X5_wearyOnes_J36 (f_X5_wearyOnes_L4 n) y2 y1 (1 <<< (y2 &&& 31)) σ6)))
theorem f_X5_wearyOnes_L4_s  (n : Nat) (y1 : Int32) (y2 : Int32) (σ : Mem) : f_X5_wearyOnes_L4  (n + 1) y1 y2 σ = vI 70 1 (fun j3 => if (σ 51 j3) ≤ y2 then some (y1, σ) else vC (f_X5_curtainIs y2 1 σ) (fun r5 σ4 => vC (f_X5_bears y2 σ4) (fun r7 σ6 => if r7 ≤ r5 then f_X5_wearyOnes_J36 (f_X5_wearyOnes_L4 n) y2 y1 0 σ6 else f_X5_wearyOnes_J36 (f_X5_wearyOnes_L4 n) y2 y1 (1 <<< (y2 &&& 31)) σ6))) := rfl
def f_X5_wearyOnes  (σ : Mem) : Option (Int32 × Mem) := vL (0 : Int32) (fun x1 => vL (0 : Int32) (fun x2 => f_X5_wearyOnes_L4 FU x1 x2 σ))
abbrev rm_X5_moods : Room := { frames := 2, cells := 0, slots := 0, locals := 43 }
def f_X5_moods_L4  : Nat → Int32 → Int32 → Mem → Option (Int32 × Mem)
  | 0 => fun _ _ _ => none
  | n + 1 => fun y1 y2 σ => vI 70 1 (fun j3 => if (σ 51 j3) ≤ y2 then some (y1, σ) else vC (f_X5_curtainIs y2 1 σ) (fun r5 σ4 => vL (y1 + r5) (fun x6 => vL (y2 + 1) (fun x7 => (f_X5_moods_L4 n) x6 x7 σ4))))
theorem f_X5_moods_L4_s  (n : Nat) (y1 : Int32) (y2 : Int32) (σ : Mem) : f_X5_moods_L4  (n + 1) y1 y2 σ = vI 70 1 (fun j3 => if (σ 51 j3) ≤ y2 then some (y1, σ) else vC (f_X5_curtainIs y2 1 σ) (fun r5 σ4 => vL (y1 + r5) (fun x6 => vL (y2 + 1) (fun x7 => (f_X5_moods_L4 n) x6 x7 σ4)))) := rfl
def f_X5_moods  (σ : Mem) : Option (Int32 × Mem) := vL (0 : Int32) (fun x1 => vL (0 : Int32) (fun x2 => f_X5_moods_L4 FU x1 x2 σ))
abbrev rm_X5_liked : Room := { frames := 2, cells := 0, slots := 0, locals := 43 }
def f_X5_liked_L4  : Nat → Int32 → Int32 → Mem → Option (Int32 × Mem)
  | 0 => fun _ _ _ => none
  | n + 1 => fun y1 y2 σ => vI 70 1 (fun j3 => if (σ 51 j3) ≤ y2 then some (y1, σ) else vC (f_X5_curtainIs y2 2 σ) (fun r5 σ4 => vL (y1 ||| r5) (fun x6 => vL (y2 + 1) (fun x7 => (f_X5_liked_L4 n) x6 x7 σ4))))
theorem f_X5_liked_L4_s  (n : Nat) (y1 : Int32) (y2 : Int32) (σ : Mem) : f_X5_liked_L4  (n + 1) y1 y2 σ = vI 70 1 (fun j3 => if (σ 51 j3) ≤ y2 then some (y1, σ) else vC (f_X5_curtainIs y2 2 σ) (fun r5 σ4 => vL (y1 ||| r5) (fun x6 => vL (y2 + 1) (fun x7 => (f_X5_liked_L4 n) x6 x7 σ4)))) := rfl
def f_X5_liked  (σ : Mem) : Option (Int32 × Mem) := vL (0 : Int32) (fun x1 => vL (0 : Int32) (fun x2 => f_X5_liked_L4 FU x1 x2 σ))
abbrev rm_X5_now : Room := { frames := 4, cells := 0, slots := 0, locals := 86 }
def f_X5_now (x1 : Int32) (σ : Mem) : Option (Int32 × Mem) := if x1 = 0 then vI 70 0 (fun j1 => some (σ 51 j1, σ)) else if x1 = 1 then vI 70 4 (fun j2 => some (σ 51 j2, σ)) else if x1 = 2 then vI 70 5 (fun j3 => some (σ 51 j3, σ)) else if x1 = 3 then vC (f_X5_downOnes σ) (fun r5 σ4 => some (r5, σ4)) else if x1 = 4 then vC (f_X5_wearyOnes σ) (fun r7 σ6 => some (r7, σ6)) else if x1 = 5 then vC (f_X5_moods σ) (fun r9 σ8 => some (r9, σ8)) else if x1 = 6 then vC (f_X5_liked σ) (fun r11 σ10 => some (r11, σ10)) else if x1 = 7 then vI 70 3 (fun j12 => some (σ 51 j12, σ)) else vC (f_X5_finding (-1000001) σ) (fun r14 σ13 => some (r14, σ13))
abbrev rm_X5_behind : Room := { frames := 6, cells := 0, slots := 0, locals := 132 }
def f_X5_behind (x1 : Int32) (x2 : Int32) (σ : Mem) : Option (Int32 × Mem) := vC (f_X5_copyRow 51 53 σ) (fun _ σ1 => vC (f_X5_beatsGo x2 σ1) (fun _ σ2 => vI 70 x1 (fun j3 => vC (f_X5_putBack (σ2 51 j3) σ2) (fun r5 σ4 => some (r5, σ4)))))
abbrev rm_X5_ahead : Room := { frames := 6, cells := 0, slots := 0, locals := 132 }
def f_X5_ahead_J51   (σ : Mem) : Option (Int32 × Mem) := vC (f_X5_finding (-1000001) σ) (fun r5 σ4 => some (r5, σ4))
def f_X5_ahead_J26  (y1 : Int32) (y2 : Int32) (y3 : Int32) (s0 : Int32) (σ : Mem) : Option (Int32 × Mem) := vL s0 (fun x1 => vC (f_X5_isCurtain y1 σ) (fun r3 σ2 => if r3 = 0 then f_X5_ahead_J51 σ2 else if x1 = 0 then f_X5_ahead_J51 σ2 else vC (f_X5_within y3 0 100 σ2) (fun r7 σ6 => if r7 = 0 then f_X5_ahead_J51 σ6 else vC (f_X5_copyRow 51 53 σ6) (fun _ σ8 => vC (f_X5_beatsGo y3 σ8) (fun _ σ9 => vC (f_X5_told y1 y2 σ9) (fun r11 σ10 => vC (f_X5_putBack r11 σ10) (fun r13 σ12 => some (r13, σ12))))))))
def f_X5_ahead_J21  (y1 : Int32) (y2 : Int32) (y3 : Int32) (σ : Mem) : Option (Int32 × Mem) := f_X5_ahead_J26 y1 y2 y3 1 σ
def f_X5_ahead (x1 : Int32) (x2 : Int32) (x3 : Int32) (σ : Mem) : Option (Int32 × Mem) := if x2 = 1 then f_X5_ahead_J21 x1 x2 x3 σ else if x2 = 3 then f_X5_ahead_J21 x1 x2 x3 σ else if x2 = 5 then f_X5_ahead_J21 x1 x2 x3 σ else if x2 = 8 then f_X5_ahead_J21 x1 x2 x3 σ else f_X5_ahead_J26 x1 x2 x3 0 σ
abbrev rm_X5_cut : Room := { frames := 7, cells := 0, slots := 0, locals := 154 }
def f_X5_cut (x1 : Int32) (σ : Mem) : Option (Int32 × Mem) := vC (f_X5_within x1 0 100 σ) (fun r2 σ1 => if r2 = 0 then vC (f_X5_finding (-1000001) σ1) (fun r4 σ3 => some (r4, σ3)) else vC (f_X5_behind 4 x1 σ1) (fun r6 σ5 => some (r6, σ5)))
abbrev rm_X5_beatsTo : Room := { frames := 5, cells := 0, slots := 0, locals := 110 }
def f_X5_beatsTo_J67  (s1 : Int32) (σ : Mem) : Option (Int32 × Mem) := vC (f_X5_putBack s1 σ) (fun r7 σ6 => some (r7, σ6))
def f_X5_beatsTo_J46  (y1 : Int32) (y2 : Int32) (y3 : Int32) (y4 : Int32) (σ : Mem) : Option (Int32 × Mem) := vI 70 y1 (fun j3 => vC (f_X5_within (σ 51 j3) y2 y3 σ) (fun r5 σ4 => if r5 = 0 then f_X5_beatsTo_J67 (-1) σ4 else f_X5_beatsTo_J67 y4 σ4))
def f_X5_beatsTo_L14  : Nat → Int32 → Int32 → Int32 → Int32 → Mem → Option (Int32 × Mem)
  | 0 => fun _ _ _ _ _ => none
  | n + 1 => fun y1 y2 y3 y4 σ => if 200 ≤ y4 then f_X5_beatsTo_J46 y1 y2 y3 y4 σ else vI 70 y1 (fun j8 => vC (f_X5_within (σ 51 j8) y2 y3 σ) (fun r10 σ9 => if r10 = 0 then vC (f_X5_beat σ9) (fun _ σ11 => vL (y4 + 1) (fun x12 => (f_X5_beatsTo_L14 n) y1 y2 y3 x12 σ11)) else f_X5_beatsTo_J46 y1 y2 y3 y4 σ9))
theorem f_X5_beatsTo_L14_s  (n : Nat) (y1 : Int32) (y2 : Int32) (y3 : Int32) (y4 : Int32) (σ : Mem) : f_X5_beatsTo_L14  (n + 1) y1 y2 y3 y4 σ = if 200 ≤ y4 then f_X5_beatsTo_J46 y1 y2 y3 y4 σ else vI 70 y1 (fun j8 => vC (f_X5_within (σ 51 j8) y2 y3 σ) (fun r10 σ9 => if r10 = 0 then vC (f_X5_beat σ9) (fun _ σ11 => vL (y4 + 1) (fun x12 => (f_X5_beatsTo_L14 n) y1 y2 y3 x12 σ11)) else f_X5_beatsTo_J46 y1 y2 y3 y4 σ9)) := rfl
def f_X5_beatsTo (x1 : Int32) (x2 : Int32) (x3 : Int32) (σ : Mem) : Option (Int32 × Mem) := vC (f_X5_copyRow 51 53 σ) (fun _ σ1 => vL (0 : Int32) (fun x2 => f_X5_beatsTo_L14 FU x1 x2 x3 x2 σ1))
abbrev rm_X5_down : Room := { frames := 6, cells := 0, slots := 0, locals := 134 }
def f_X5_down (x1 : Int32) (σ : Mem) : Option (Int32 × Mem) := vC (f_X5_isCurtain x1 σ) (fun r2 σ1 => if r2 = 0 then vC (f_X5_finding (-1000001) σ1) (fun r4 σ3 => some (r4, σ3)) else vC (f_X5_curtainAt x1 3 σ1) (fun r6 σ5 => vC (f_X5_beatsTo r6 0 0 σ5) (fun r8 σ7 => vC (f_X5_orNone r8 σ7) (fun r10 σ9 => some (r10, σ9)))))
abbrev rm_X5_up : Room := { frames := 6, cells := 0, slots := 0, locals := 134 }
def f_X5_up (x1 : Int32) (σ : Mem) : Option (Int32 × Mem) := vC (f_X5_isCurtain x1 σ) (fun r2 σ1 => if r2 = 0 then vC (f_X5_finding (-1000001) σ1) (fun r4 σ3 => some (r4, σ3)) else vC (f_X5_curtainAt x1 3 σ1) (fun r6 σ5 => vC (f_X5_beatsTo r6 20 20 σ5) (fun r8 σ7 => vC (f_X5_orNone r8 σ7) (fun r10 σ9 => some (r10, σ9)))))
abbrev rm_X5_weary : Room := { frames := 6, cells := 0, slots := 0, locals := 134 }
def f_X5_weary_J36   (σ : Mem) : Option (Int32 × Mem) := vC (f_X5_finding (-1000001) σ) (fun r4 σ3 => some (r4, σ3))
def f_X5_weary (x1 : Int32) (x2 : Int32) (σ : Mem) : Option (Int32 × Mem) := vC (f_X5_isCurtain x1 σ) (fun r2 σ1 => if r2 = 0 then f_X5_weary_J36 σ1 else vC (f_X5_within x2 0 99 σ1) (fun r6 σ5 => if r6 = 0 then f_X5_weary_J36 σ5 else vC (f_X5_curtainAt x1 1 σ5) (fun r8 σ7 => vC (f_X5_beatsTo r8 0 x2 σ7) (fun r10 σ9 => vC (f_X5_orNone r10 σ9) (fun r12 σ11 => some (r12, σ11))))))
abbrev rm_X5_saved : Room := { frames := 6, cells := 0, slots := 0, locals := 134 }
def f_X5_saved (x1 : Int32) (σ : Mem) : Option (Int32 × Mem) := vC (f_X5_within x1 0 900 σ) (fun r2 σ1 => if r2 = 0 then vC (f_X5_finding (-1000001) σ1) (fun r4 σ3 => some (r4, σ3)) else vC (f_X5_beatsTo 5 x1 900 σ1) (fun r6 σ5 => vC (f_X5_orNone r6 σ5) (fun r8 σ7 => some (r8, σ7))))
abbrev rm_X5_isThought : Room := { frames := 1, cells := 0, slots := 0, locals := 22 }
def f_X5_isThought (x0 : Int32) (σ : Mem) : Option (Int32 × Mem) := vC (f_X5_within x0 0 60 σ) (fun r2 σ1 => vB r2 (some (r2, σ1)))
abbrev rm_X5_sceneFor : Room := { frames := 7, cells := 0, slots := 0, locals := 154 }
def f_X5_sceneFor_J14   (σ : Mem) : Option (Int32 × Mem) := vC (f_X5_finding (-1000001) σ) (fun r4 σ3 => some (r4, σ3))
def f_X5_sceneFor_J82 (k41 : Int32 → Int32 → Int32 → Int32 → Int32 → Int32 → Mem → Option (Int32 × Mem)) (y1 : Int32) (y2 : Int32) (y3 : Int32) (y4 : Int32) (y5 : Int32) (y6 : Int32) (σ : Mem) : Option (Int32 × Mem) := vL (y6 + 1) (fun x19 => k41 y1 y2 y3 y4 y5 x19 σ)
def f_X5_sceneFor_L41  : Nat → Int32 → Int32 → Int32 → Int32 → Int32 → Int32 → Mem → Option (Int32 × Mem)
  | 0 => fun _ _ _ _ _ _ _ => none
  | n + 1 => fun y1 y2 y3 y4 y5 y6 σ => if 12 ≤ y6 then vI 70 (6 + y1) (fun j12 => vW σ 51 j12 y3 (fun σ13 => some (y4, σ13))) else vI 70 (6 + y1) (fun j14 => vW σ 51 j14 y6 (fun σ15 => vC (f_X5_behind 4 y2 σ15) (fun r17 σ16 => vL r17 (fun x18 => if y5 ≤ x18 then f_X5_sceneFor_J82 (f_X5_sceneFor_L41 n) y1 y2 y3 y4 y5 y6 σ16 else vL y6 (fun x20 => vL x18 (fun x21 => f_X5_sceneFor_J82 (f_X5_sceneFor_L41 n) y1 y2 y3 x20 x21 y6 σ16))))))
theorem f_X5_sceneFor_L41_s  (n : Nat) (y1 : Int32) (y2 : Int32) (y3 : Int32) (y4 : Int32) (y5 : Int32) (y6 : Int32) (σ : Mem) : f_X5_sceneFor_L41  (n + 1) y1 y2 y3 y4 y5 y6 σ = if 12 ≤ y6 then vI 70 (6 + y1) (fun j12 => vW σ 51 j12 y3 (fun σ13 => some (y4, σ13))) else vI 70 (6 + y1) (fun j14 => vW σ 51 j14 y6 (fun σ15 => vC (f_X5_behind 4 y2 σ15) (fun r17 σ16 => vL r17 (fun x18 => if y5 ≤ x18 then f_X5_sceneFor_J82 (f_X5_sceneFor_L41 n) y1 y2 y3 y4 y5 y6 σ16 else vL y6 (fun x20 => vL x18 (fun x21 => f_X5_sceneFor_J82 (f_X5_sceneFor_L41 n) y1 y2 y3 x20 x21 y6 σ16)))))) := rfl
def f_X5_sceneFor (x1 : Int32) (x2 : Int32) (σ : Mem) : Option (Int32 × Mem) := vC (f_X5_isPlace x1 σ) (fun r2 σ1 => if r2 = 0 then f_X5_sceneFor_J14 σ1 else vC (f_X5_isThought x2 σ1) (fun r6 σ5 => if r6 = 0 then f_X5_sceneFor_J14 σ5 else vI 70 (6 + x1) (fun j7 => vL (σ5 51 j7) (fun x8 => vL (0 : Int32) (fun x9 => vL (100000 : Int32) (fun x10 => vL (0 : Int32) (fun x11 => f_X5_sceneFor_L41 FU x1 x2 x8 x9 x10 x11 σ5)))))))
abbrev rm_X5_kindFor : Room := { frames := 7, cells := 0, slots := 0, locals := 154 }
def f_X5_kindFor_J15   (σ : Mem) : Option (Int32 × Mem) := vC (f_X5_finding (-1000001) σ) (fun r4 σ3 => some (r4, σ3))
def f_X5_kindFor_J87 (k45 : Int32 → Int32 → Int32 → Int32 → Int32 → Int32 → Int32 → Mem → Option (Int32 × Mem)) (y1 : Int32) (y2 : Int32) (y3 : Int32) (y4 : Int32) (y5 : Int32) (y6 : Int32) (y7 : Int32) (σ : Mem) : Option (Int32 × Mem) := vL (y7 + 1) (fun x24 => k45 y1 y2 y3 y4 y5 y6 x24 σ)
def f_X5_kindFor_L45  : Nat → Int32 → Int32 → Int32 → Int32 → Int32 → Int32 → Int32 → Mem → Option (Int32 × Mem)
  | 0 => fun _ _ _ _ _ _ _ _ => none
  | n + 1 => fun y1 y2 y3 y4 y5 y6 y7 σ => if 6 < y7 then vI 70 y3 (fun j15 => vW σ 51 j15 y4 (fun σ16 => some (y5, σ16))) else vI 70 y3 (fun j17 => vW σ 51 j17 y7 (fun σ18 => vC (f_X5_curtainAt y1 1 σ18) (fun r20 σ19 => vC (f_X5_behind r20 y2 σ19) (fun r22 σ21 => vL r22 (fun x23 => if x23 ≤ y6 then f_X5_kindFor_J87 (f_X5_kindFor_L45 n) y1 y2 y3 y4 y5 y6 y7 σ21 else vL y7 (fun x25 => vL x23 (fun x26 => f_X5_kindFor_J87 (f_X5_kindFor_L45 n) y1 y2 y3 y4 x25 x26 y7 σ21)))))))
theorem f_X5_kindFor_L45_s  (n : Nat) (y1 : Int32) (y2 : Int32) (y3 : Int32) (y4 : Int32) (y5 : Int32) (y6 : Int32) (y7 : Int32) (σ : Mem) : f_X5_kindFor_L45  (n + 1) y1 y2 y3 y4 y5 y6 y7 σ = if 6 < y7 then vI 70 y3 (fun j15 => vW σ 51 j15 y4 (fun σ16 => some (y5, σ16))) else vI 70 y3 (fun j17 => vW σ 51 j17 y7 (fun σ18 => vC (f_X5_curtainAt y1 1 σ18) (fun r20 σ19 => vC (f_X5_behind r20 y2 σ19) (fun r22 σ21 => vL r22 (fun x23 => if x23 ≤ y6 then f_X5_kindFor_J87 (f_X5_kindFor_L45 n) y1 y2 y3 y4 y5 y6 y7 σ21 else vL y7 (fun x25 => vL x23 (fun x26 => f_X5_kindFor_J87 (f_X5_kindFor_L45 n) y1 y2 y3 y4 x25 x26 y7 σ21))))))) := rfl
def f_X5_kindFor (x1 : Int32) (x2 : Int32) (σ : Mem) : Option (Int32 × Mem) := vC (f_X5_isCurtain x1 σ) (fun r2 σ1 => if r2 = 0 then f_X5_kindFor_J15 σ1 else vC (f_X5_isThought x2 σ1) (fun r6 σ5 => if r6 = 0 then f_X5_kindFor_J15 σ5 else vC (f_X5_curtainAt x1 0 σ5) (fun r8 σ7 => vL r8 (fun x9 => vI 70 x9 (fun j10 => vL (σ7 51 j10) (fun x11 => vL (0 : Int32) (fun x12 => vL (-1 : Int32) (fun x13 => vL (0 : Int32) (fun x14 => f_X5_kindFor_L45 FU x1 x2 x9 x11 x12 x13 x14 σ7)))))))))
abbrev rm_X5_moodFor : Room := { frames := 7, cells := 0, slots := 0, locals := 154 }
def f_X5_moodFor_J15   (σ : Mem) : Option (Int32 × Mem) := vC (f_X5_finding (-1000001) σ) (fun r4 σ3 => some (r4, σ3))
def f_X5_moodFor_J86 (k51 : Int32 → Int32 → Int32 → Int32 → Int32 → Int32 → Int32 → Mem → Option (Int32 × Mem)) (y1 : Int32) (y2 : Int32) (y3 : Int32) (y4 : Int32) (y5 : Int32) (y7 : Int32) (s0 : Int32) (σ : Mem) : Option (Int32 × Mem) := vL s0 (fun x27 => vL (y7 + (-1)) (fun x28 => k51 y1 y2 y3 y4 y5 x27 x28 σ))
def f_X5_moodFor_L51  : Nat → Int32 → Int32 → Int32 → Int32 → Int32 → Int32 → Int32 → Mem → Option (Int32 × Mem)
  | 0 => fun _ _ _ _ _ _ _ _ => none
  | n + 1 => fun y1 y2 y3 y4 y5 y6 y7 σ => if y7 < 0 then vI 70 y3 (fun j17 => vW σ 51 j17 y5 (fun σ18 => vC (f_X5_orNone y6 σ18) (fun r20 σ19 => some (r20, σ19)))) else vI 70 y3 (fun j21 => vW σ 51 j21 y7 (fun σ22 => vC (f_X5_curtainAt y1 5 σ22) (fun r24 σ23 => vC (f_X5_behind r24 y2 σ23) (fun r26 σ25 => if r26 = y4 then f_X5_moodFor_J86 (f_X5_moodFor_L51 n) y1 y2 y3 y4 y5 y7 y7 σ25 else f_X5_moodFor_J86 (f_X5_moodFor_L51 n) y1 y2 y3 y4 y5 y7 y6 σ25))))
theorem f_X5_moodFor_L51_s  (n : Nat) (y1 : Int32) (y2 : Int32) (y3 : Int32) (y4 : Int32) (y5 : Int32) (y6 : Int32) (y7 : Int32) (σ : Mem) : f_X5_moodFor_L51  (n + 1) y1 y2 y3 y4 y5 y6 y7 σ = if y7 < 0 then vI 70 y3 (fun j17 => vW σ 51 j17 y5 (fun σ18 => vC (f_X5_orNone y6 σ18) (fun r20 σ19 => some (r20, σ19)))) else vI 70 y3 (fun j21 => vW σ 51 j21 y7 (fun σ22 => vC (f_X5_curtainAt y1 5 σ22) (fun r24 σ23 => vC (f_X5_behind r24 y2 σ23) (fun r26 σ25 => if r26 = y4 then f_X5_moodFor_J86 (f_X5_moodFor_L51 n) y1 y2 y3 y4 y5 y7 y7 σ25 else f_X5_moodFor_J86 (f_X5_moodFor_L51 n) y1 y2 y3 y4 y5 y7 y6 σ25)))) := rfl
def f_X5_moodFor (x1 : Int32) (x2 : Int32) (σ : Mem) : Option (Int32 × Mem) := vC (f_X5_isCurtain x1 σ) (fun r2 σ1 => if r2 = 0 then f_X5_moodFor_J15 σ1 else vC (f_X5_isThought x2 σ1) (fun r6 σ5 => if r6 = 0 then f_X5_moodFor_J15 σ5 else vC (f_X5_curtainAt x1 1 σ5) (fun r8 σ7 => vL r8 (fun x9 => vC (f_X5_curtainIs x1 5 σ7) (fun r11 σ10 => vL r11 (fun x12 => vI 70 x9 (fun j13 => vL (σ10 51 j13) (fun x14 => vL (-1 : Int32) (fun x15 => vL (99 : Int32) (fun x16 => f_X5_moodFor_L51 FU x1 x2 x9 x12 x14 x15 x16 σ10))))))))))
abbrev rm_X5_staysUp : Room := { frames := 6, cells := 0, slots := 0, locals := 132 }
def f_X5_staysUp_J37  (s0 : Int32) (σ : Mem) : Option (Int32 × Mem) := vL s0 (fun x7 => vC (f_X5_copyRow 53 51 σ) (fun _ σ8 => vB x7 (some (x7, σ8))))
def f_X5_staysUp (x1 : Int32) (x2 : Int32) (x3 : Int32) (σ : Mem) : Option (Int32 × Mem) := vC (f_X5_copyRow 51 53 σ) (fun _ σ1 => vC (f_X5_pulled x1 x2 σ1) (fun r3 σ2 => vC (f_X5_beatsGo x3 σ2) (fun _ σ4 => vC (f_X5_curtainIs x1 3 σ4) (fun r6 σ5 => if r6 ≤ 0 then f_X5_staysUp_J37 0 σ5 else f_X5_staysUp_J37 1 σ5))))
abbrev rm_X5_handsFor : Room := { frames := 7, cells := 0, slots := 0, locals := 156 }
def f_X5_handsFor_J15   (σ : Mem) : Option (Int32 × Mem) := vC (f_X5_finding (-1000001) σ) (fun r4 σ3 => some (r4, σ3))
def f_X5_handsFor_J65 (k43 : Int32 → Int32 → Int32 → Int32 → Mem → Option (Int32 × Mem)) (y1 : Int32) (y2 : Int32) (y4 : Int32) (s0 : Int32) (σ : Mem) : Option (Int32 × Mem) := vL s0 (fun x15 => vL (y4 + (-1)) (fun x16 => k43 y1 y2 x15 x16 σ))
def f_X5_handsFor_L43  : Nat → Int32 → Int32 → Int32 → Int32 → Mem → Option (Int32 × Mem)
  | 0 => fun _ _ _ _ _ => none
  | n + 1 => fun y1 y2 y3 y4 σ => if y4 ≤ 0 then vC (f_X5_orNone y3 σ) (fun r12 σ11 => some (r12, σ11)) else vC (f_X5_staysUp y1 y4 y2 σ) (fun r14 σ13 => if r14 = 0 then f_X5_handsFor_J65 (f_X5_handsFor_L43 n) y1 y2 y4 y3 σ13 else f_X5_handsFor_J65 (f_X5_handsFor_L43 n) y1 y2 y4 y4 σ13)
theorem f_X5_handsFor_L43_s  (n : Nat) (y1 : Int32) (y2 : Int32) (y3 : Int32) (y4 : Int32) (σ : Mem) : f_X5_handsFor_L43  (n + 1) y1 y2 y3 y4 σ = if y4 ≤ 0 then vC (f_X5_orNone y3 σ) (fun r12 σ11 => some (r12, σ11)) else vC (f_X5_staysUp y1 y4 y2 σ) (fun r14 σ13 => if r14 = 0 then f_X5_handsFor_J65 (f_X5_handsFor_L43 n) y1 y2 y4 y3 σ13 else f_X5_handsFor_J65 (f_X5_handsFor_L43 n) y1 y2 y4 y4 σ13) := rfl
def f_X5_handsFor (x1 : Int32) (x2 : Int32) (σ : Mem) : Option (Int32 × Mem) := vC (f_X5_isCurtain x1 σ) (fun r2 σ1 => if r2 = 0 then f_X5_handsFor_J15 σ1 else vC (f_X5_isThought x2 σ1) (fun r6 σ5 => if r6 = 0 then f_X5_handsFor_J15 σ5 else vC (f_X5_isTied x1 σ5) (fun r8 σ7 => if r8 = 0 then vL (-1 : Int32) (fun x9 => vL (40 : Int32) (fun x10 => f_X5_handsFor_L43 FU x1 x2 x9 x10 σ7)) else vC (f_X5_finding (-1000005) σ7) (fun r18 σ17 => some (r18, σ17)))))
abbrev rm_X5_nothingIsCut : Room := { frames := 6, cells := 0, slots := 0, locals := 132 }
def f_X5_nothingIsCut_J80  (s0 : Int32) (σ : Mem) : Option (Int32 × Mem) := vL s0 (fun x8 => vC (f_X5_copyRow 53 51 σ) (fun _ σ9 => vB x8 (some (x8, σ9))))
def f_X5_nothingIsCut_J54 (k21 : Int32 → Int32 → Int32 → Int32 → Mem → Option (Int32 × Mem)) (y1 : Int32) (y2 : Int32) (y3 : Int32) (y4 : Int32) (σ : Mem) : Option (Int32 × Mem) := vL (y4 + 1) (fun x10 => k21 y1 y2 y3 x10 σ)
def f_X5_nothingIsCut_L21  : Nat → Int32 → Int32 → Int32 → Int32 → Mem → Option (Int32 × Mem)
  | 0 => fun _ _ _ _ _ => none
  | n + 1 => fun y1 y2 y3 y4 σ => vI 70 1 (fun j5 => if (σ 51 j5) ≤ y4 then vC (f_X5_beatsGo y2 σ) (fun _ σ6 => vI 70 4 (fun j7 => if (σ6 51 j7) = y3 then f_X5_nothingIsCut_J80 1 σ6 else f_X5_nothingIsCut_J80 0 σ6)) else if ((y1 >>> (y4 &&& 31)) &&& 1) = 1 then vC (f_X5_curtainAt y4 4 σ) (fun r12 σ11 => vI 70 r12 (fun j13 => vW σ11 51 j13 1 (fun σ14 => f_X5_nothingIsCut_J54 (f_X5_nothingIsCut_L21 n) y1 y2 y3 y4 σ14))) else f_X5_nothingIsCut_J54 (f_X5_nothingIsCut_L21 n) y1 y2 y3 y4 σ)
theorem f_X5_nothingIsCut_L21_s  (n : Nat) (y1 : Int32) (y2 : Int32) (y3 : Int32) (y4 : Int32) (σ : Mem) : f_X5_nothingIsCut_L21  (n + 1) y1 y2 y3 y4 σ = vI 70 1 (fun j5 => if (σ 51 j5) ≤ y4 then vC (f_X5_beatsGo y2 σ) (fun _ σ6 => vI 70 4 (fun j7 => if (σ6 51 j7) = y3 then f_X5_nothingIsCut_J80 1 σ6 else f_X5_nothingIsCut_J80 0 σ6)) else if ((y1 >>> (y4 &&& 31)) &&& 1) = 1 then vC (f_X5_curtainAt y4 4 σ) (fun r12 σ11 => vI 70 r12 (fun j13 => vW σ11 51 j13 1 (fun σ14 => f_X5_nothingIsCut_J54 (f_X5_nothingIsCut_L21 n) y1 y2 y3 y4 σ14))) else f_X5_nothingIsCut_J54 (f_X5_nothingIsCut_L21 n) y1 y2 y3 y4 σ) := rfl
def f_X5_nothingIsCut (x1 : Int32) (x2 : Int32) (σ : Mem) : Option (Int32 × Mem) := vI 70 4 (fun j1 => vL (σ 51 j1) (fun x2 => vC (f_X5_copyRow 51 53 σ) (fun _ σ3 => vL (0 : Int32) (fun x4 => f_X5_nothingIsCut_L21 FU x1 x2 x2 x4 σ3))))
abbrev rm_X5_tie : Room := { frames := 7, cells := 0, slots := 0, locals := 156 }
def f_X5_tie_J63 (k30 : Int32 → Int32 → Int32 → Mem → Option (Int32 × Mem)) (y1 : Int32) (y3 : Int32) (s0 : Int32) (σ : Mem) : Option (Int32 × Mem) := vL s0 (fun x10 => vL (y3 + (-1)) (fun x11 => k30 y1 x10 x11 σ))
def f_X5_tie_J62 (k30 : Int32 → Int32 → Int32 → Mem → Option (Int32 × Mem)) (y1 : Int32) (y2 : Int32) (y3 : Int32) (σ : Mem) : Option (Int32 × Mem) := f_X5_tie_J63 k30 y1 y3 y2 σ
def f_X5_tie_J49 (k30 : Int32 → Int32 → Int32 → Mem → Option (Int32 × Mem)) (y1 : Int32) (y2 : Int32) (y3 : Int32) (σ : Mem) : Option (Int32 × Mem) := vC (f_X5_nothingIsCut y3 y1 σ) (fun r9 σ8 => if r9 = 0 then f_X5_tie_J62 k30 y1 y2 y3 σ8 else f_X5_tie_J63 k30 y1 y3 y3 σ8)
def f_X5_tie_L30  : Nat → Int32 → Int32 → Int32 → Mem → Option (Int32 × Mem)
  | 0 => fun _ _ _ _ => none
  | n + 1 => fun y1 y2 y3 σ => if y3 < 0 then vC (f_X5_orNone y2 σ) (fun r7 σ6 => some (r7, σ6)) else if y2 < 0 then f_X5_tie_J49 (f_X5_tie_L30 n) y1 y2 y3 σ else vC (f_X5_bits y3 σ) (fun r13 σ12 => vC (f_X5_bits y2 σ12) (fun r15 σ14 => if r15 < r13 then f_X5_tie_J62 (f_X5_tie_L30 n) y1 y2 y3 σ14 else f_X5_tie_J49 (f_X5_tie_L30 n) y1 y2 y3 σ14))
theorem f_X5_tie_L30_s  (n : Nat) (y1 : Int32) (y2 : Int32) (y3 : Int32) (σ : Mem) : f_X5_tie_L30  (n + 1) y1 y2 y3 σ = if y3 < 0 then vC (f_X5_orNone y2 σ) (fun r7 σ6 => some (r7, σ6)) else if y2 < 0 then f_X5_tie_J49 (f_X5_tie_L30 n) y1 y2 y3 σ else vC (f_X5_bits y3 σ) (fun r13 σ12 => vC (f_X5_bits y2 σ12) (fun r15 σ14 => if r15 < r13 then f_X5_tie_J62 (f_X5_tie_L30 n) y1 y2 y3 σ14 else f_X5_tie_J49 (f_X5_tie_L30 n) y1 y2 y3 σ14)) := rfl
def f_X5_tie (x1 : Int32) (σ : Mem) : Option (Int32 × Mem) := vC (f_X5_within x1 0 20 σ) (fun r2 σ1 => if r2 = 0 then vC (f_X5_finding (-1000001) σ1) (fun r17 σ16 => some (r17, σ16)) else vL (-1 : Int32) (fun x3 => vI 70 1 (fun j4 => vL ((1 <<< ((σ1 51 j4) &&& 31)) - 1) (fun x5 => f_X5_tie_L30 FU x1 x3 x5 σ1))))
abbrev rm_X5_pleases : Room := { frames := 2, cells := 0, slots := 0, locals := 43 }
def f_X5_pleases_J43 (k4 : Int32 → Int32 → Int32 → Mem → Option (Int32 × Mem)) (y1 : Int32) (y3 : Int32) (s0 : Int32) (σ : Mem) : Option (Int32 × Mem) := vL s0 (fun x4 => vL (y3 + 1) (fun x5 => k4 y1 x4 x5 σ))
def f_X5_pleases_J42 (k4 : Int32 → Int32 → Int32 → Mem → Option (Int32 × Mem)) (y1 : Int32) (y3 : Int32) (σ : Mem) : Option (Int32 × Mem) := f_X5_pleases_J43 k4 y1 y3 0 σ
def f_X5_pleases_J38 (k4 : Int32 → Int32 → Int32 → Mem → Option (Int32 × Mem)) (y1 : Int32) (y3 : Int32) (σ : Mem) : Option (Int32 × Mem) := f_X5_pleases_J43 k4 y1 y3 1 σ
def f_X5_pleases_L4  : Nat → Int32 → Int32 → Int32 → Mem → Option (Int32 × Mem)
  | 0 => fun _ _ _ _ => none
  | n + 1 => fun y1 y2 y3 σ => vI 70 1 (fun j3 => if (σ 51 j3) ≤ y3 then vB y2 (some (y2, σ)) else if y2 = 0 then f_X5_pleases_J42 (f_X5_pleases_L4 n) y1 y3 σ else vC (f_X5_curtainIs y3 2 σ) (fun r7 σ6 => if r7 = 0 then f_X5_pleases_J38 (f_X5_pleases_L4 n) y1 y3 σ6 else vC (f_X5_curtainIs y3 2 σ6) (fun r9 σ8 => if (r9 &&& y1) = 0 then f_X5_pleases_J42 (f_X5_pleases_L4 n) y1 y3 σ8 else f_X5_pleases_J38 (f_X5_pleases_L4 n) y1 y3 σ8)))
theorem f_X5_pleases_L4_s  (n : Nat) (y1 : Int32) (y2 : Int32) (y3 : Int32) (σ : Mem) : f_X5_pleases_L4  (n + 1) y1 y2 y3 σ = vI 70 1 (fun j3 => if (σ 51 j3) ≤ y3 then vB y2 (some (y2, σ)) else if y2 = 0 then f_X5_pleases_J42 (f_X5_pleases_L4 n) y1 y3 σ else vC (f_X5_curtainIs y3 2 σ) (fun r7 σ6 => if r7 = 0 then f_X5_pleases_J38 (f_X5_pleases_L4 n) y1 y3 σ6 else vC (f_X5_curtainIs y3 2 σ6) (fun r9 σ8 => if (r9 &&& y1) = 0 then f_X5_pleases_J42 (f_X5_pleases_L4 n) y1 y3 σ8 else f_X5_pleases_J38 (f_X5_pleases_L4 n) y1 y3 σ8))) := rfl
def f_X5_pleases (x1 : Int32) (σ : Mem) : Option (Int32 × Mem) := vL (1 : Int32) (fun x1 => vL (0 : Int32) (fun x2 => f_X5_pleases_L4 FU x1 x1 x2 σ))
abbrev rm_X5_please : Room := { frames := 3, cells := 0, slots := 0, locals := 66 }
def f_X5_please_J36 (k8 : Int32 → Int32 → Mem → Option (Int32 × Mem)) (y2 : Int32) (s0 : Int32) (σ : Mem) : Option (Int32 × Mem) := vL s0 (fun x7 => vL (y2 + (-1)) (fun x8 => k8 x7 x8 σ))
def f_X5_please_J35 (k8 : Int32 → Int32 → Mem → Option (Int32 × Mem)) (y1 : Int32) (y2 : Int32) (σ : Mem) : Option (Int32 × Mem) := f_X5_please_J36 k8 y2 y1 σ
def f_X5_please_L8  : Nat → Int32 → Int32 → Mem → Option (Int32 × Mem)
  | 0 => fun _ _ _ => none
  | n + 1 => fun y1 y2 σ => if y2 < 0 then some (y1, σ) else vC (f_X5_bits y2 σ) (fun r4 σ3 => vC (f_X5_bits y1 σ3) (fun r6 σ5 => if r6 < r4 then f_X5_please_J35 (f_X5_please_L8 n) y1 y2 σ5 else vC (f_X5_pleases y2 σ5) (fun r10 σ9 => if r10 = 0 then f_X5_please_J35 (f_X5_please_L8 n) y1 y2 σ9 else f_X5_please_J36 (f_X5_please_L8 n) y2 y2 σ9)))
theorem f_X5_please_L8_s  (n : Nat) (y1 : Int32) (y2 : Int32) (σ : Mem) : f_X5_please_L8  (n + 1) y1 y2 σ = if y2 < 0 then some (y1, σ) else vC (f_X5_bits y2 σ) (fun r4 σ3 => vC (f_X5_bits y1 σ3) (fun r6 σ5 => if r6 < r4 then f_X5_please_J35 (f_X5_please_L8 n) y1 y2 σ5 else vC (f_X5_pleases y2 σ5) (fun r10 σ9 => if r10 = 0 then f_X5_please_J35 (f_X5_please_L8 n) y1 y2 σ9 else f_X5_please_J36 (f_X5_please_L8 n) y2 y2 σ9))) := rfl
def f_X5_please  (σ : Mem) : Option (Int32 × Mem) := vL (4095 : Int32) (fun x1 => vL (4095 : Int32) (fun x2 => f_X5_please_L8 FU x1 x2 σ))
abbrev rm_X5_isSheet : Room := { frames := 1, cells := 0, slots := 0, locals := 22 }
def f_X5_isSheet (x0 : Int32) (σ : Mem) : Option (Int32 × Mem) := vC (f_X5_within x0 0 3 σ) (fun r2 σ1 => vB r2 (some (r2, σ1)))
abbrev rm_X5_lacks : Room := { frames := 2, cells := 0, slots := 0, locals := 42 }
def f_X5_lacks (x1 : Int32) (x2 : Int32) (σ : Mem) : Option (Int32 × Mem) := vC (f_X5_isSheet x1 σ) (fun r2 σ1 => if r2 = 0 then some ((-1000001), σ1) else vI 4 x1 (fun j3 => if (σ1 58 j3) = 0 then some ((-1000006), σ1) else if x2 = 0 then some ((-1000001), σ1) else some (0, σ1)))
abbrev rm_X5_isSo : Room := { frames := 5, cells := 0, slots := 0, locals := 110 }
def f_X5_isSo_J78  (y3 : Int32) (σ : Mem) : Option (Int32 × Mem) := vC (f_X5_copyRow 53 51 σ) (fun _ σ5 => vB y3 (some (y3, σ5)))
def f_X5_isSo_J67 (k16 : Int32 → Int32 → Int32 → Int32 → Mem → Option (Int32 × Mem)) (y1 : Int32) (y2 : Int32) (y4 : Int32) (s0 : Int32) (σ : Mem) : Option (Int32 × Mem) := vL s0 (fun x8 => vC (f_X5_beat σ) (fun _ σ9 => vL (y4 + 1) (fun x10 => k16 y1 y2 x8 x10 σ9)))
def f_X5_isSo_J62 (k16 : Int32 → Int32 → Int32 → Int32 → Mem → Option (Int32 × Mem)) (y1 : Int32) (y2 : Int32) (y4 : Int32) (σ : Mem) : Option (Int32 × Mem) := f_X5_isSo_J67 k16 y1 y2 y4 1 σ
def f_X5_isSo_L16  : Nat → Int32 → Int32 → Int32 → Int32 → Mem → Option (Int32 × Mem)
  | 0 => fun _ _ _ _ _ => none
  | n + 1 => fun y1 y2 y3 y4 σ => vI 4 y1 (fun j4 => if (σ 59 j4) ≤ y4 then f_X5_isSo_J78 y3 σ else if y3 = 0 then f_X5_isSo_J78 y3 σ else vI 160 ((40 * y1) + y4) (fun j6 => vL (σ 60 j6) (fun x7 => if x7 = (-1) then f_X5_isSo_J62 (f_X5_isSo_L16 n) y1 y2 y4 σ else vC (f_X5_curtainIs y2 3 σ) (fun r12 σ11 => if x7 = r12 then f_X5_isSo_J62 (f_X5_isSo_L16 n) y1 y2 y4 σ11 else f_X5_isSo_J67 (f_X5_isSo_L16 n) y1 y2 y4 0 σ11))))
theorem f_X5_isSo_L16_s  (n : Nat) (y1 : Int32) (y2 : Int32) (y3 : Int32) (y4 : Int32) (σ : Mem) : f_X5_isSo_L16  (n + 1) y1 y2 y3 y4 σ = vI 4 y1 (fun j4 => if (σ 59 j4) ≤ y4 then f_X5_isSo_J78 y3 σ else if y3 = 0 then f_X5_isSo_J78 y3 σ else vI 160 ((40 * y1) + y4) (fun j6 => vL (σ 60 j6) (fun x7 => if x7 = (-1) then f_X5_isSo_J62 (f_X5_isSo_L16 n) y1 y2 y4 σ else vC (f_X5_curtainIs y2 3 σ) (fun r12 σ11 => if x7 = r12 then f_X5_isSo_J62 (f_X5_isSo_L16 n) y1 y2 y4 σ11 else f_X5_isSo_J67 (f_X5_isSo_L16 n) y1 y2 y4 0 σ11)))) := rfl
def f_X5_isSo (x1 : Int32) (x2 : Int32) (σ : Mem) : Option (Int32 × Mem) := vC (f_X5_copyRow 51 53 σ) (fun _ σ1 => vL (1 : Int32) (fun x2 => vL (0 : Int32) (fun x3 => f_X5_isSo_L16 FU x1 x2 x2 x3 σ1)))
abbrev rm_X5_fitting : Room := { frames := 6, cells := 0, slots := 0, locals := 135 }
def f_X5_fitting_J48 (k14 : Int32 → Int32 → Int32 → Int32 → Int32 → Int32 → Int32 → Mem → Option (Int32 × Mem)) (y1 : Int32) (y2 : Int32) (y3 : Int32) (y4 : Int32) (y5 : Int32) (y7 : Int32) (s0 : Int32) (s1 : Int32) (σ : Mem) : Option (Int32 × Mem) := vL (s0 ||| s1) (fun x11 => vL (y7 + 1) (fun x12 => k14 y1 y2 y3 y4 y5 x11 x12 σ))
def f_X5_fitting_L14  : Nat → Int32 → Int32 → Int32 → Int32 → Int32 → Int32 → Int32 → Mem → Option (Int32 × Mem)
  | 0 => fun _ _ _ _ _ _ _ _ => none
  | n + 1 => fun y1 y2 y3 y4 y5 y6 y7 σ => if y4 ≤ y7 then vI 70 y3 (fun j5 => vW σ 51 j5 y5 (fun σ6 => some (y6, σ6))) else vI 70 y3 (fun j7 => vW σ 51 j7 y7 (fun σ8 => vC (f_X5_isSo y1 y2 σ8) (fun r10 σ9 => if r10 = 0 then f_X5_fitting_J48 (f_X5_fitting_L14 n) y1 y2 y3 y4 y5 y7 y6 0 σ9 else f_X5_fitting_J48 (f_X5_fitting_L14 n) y1 y2 y3 y4 y5 y7 y6 (1 <<< (y7 &&& 31)) σ9)))
theorem f_X5_fitting_L14_s  (n : Nat) (y1 : Int32) (y2 : Int32) (y3 : Int32) (y4 : Int32) (y5 : Int32) (y6 : Int32) (y7 : Int32) (σ : Mem) : f_X5_fitting_L14  (n + 1) y1 y2 y3 y4 y5 y6 y7 σ = if y4 ≤ y7 then vI 70 y3 (fun j5 => vW σ 51 j5 y5 (fun σ6 => some (y6, σ6))) else vI 70 y3 (fun j7 => vW σ 51 j7 y7 (fun σ8 => vC (f_X5_isSo y1 y2 σ8) (fun r10 σ9 => if r10 = 0 then f_X5_fitting_J48 (f_X5_fitting_L14 n) y1 y2 y3 y4 y5 y7 y6 0 σ9 else f_X5_fitting_J48 (f_X5_fitting_L14 n) y1 y2 y3 y4 y5 y7 y6 (1 <<< (y7 &&& 31)) σ9))) := rfl
def f_X5_fitting (x1 : Int32) (x2 : Int32) (x3 : Int32) (x4 : Int32) (σ : Mem) : Option (Int32 × Mem) := vI 70 x3 (fun j1 => vL (σ 51 j1) (fun x2 => vL (0 : Int32) (fun x3 => vL (0 : Int32) (fun x4 => f_X5_fitting_L14 FU x1 x2 x3 x4 x2 x3 x4 σ))))
abbrev rm_X5_fits : Room := { frames := 7, cells := 0, slots := 0, locals := 162 }
def f_X5_fits (x1 : Int32) (x2 : Int32) (σ : Mem) : Option (Int32 × Mem) := vC (f_X5_isCurtain x2 σ) (fun r2 σ1 => vC (f_X5_lacks x1 r2 σ1) (fun r4 σ3 => vL r4 (fun x5 => if x5 = 0 then vC (f_X5_placeNow σ3) (fun r7 σ6 => vC (f_X5_fitting x1 x2 r7 12 σ6) (fun r9 σ8 => some (r9, σ8))) else vC (f_X5_finding x5 σ3) (fun r11 σ10 => some (r11, σ10)))))
abbrev rm_X5_kinds : Room := { frames := 7, cells := 0, slots := 0, locals := 162 }
def f_X5_kinds (x1 : Int32) (x2 : Int32) (σ : Mem) : Option (Int32 × Mem) := vC (f_X5_isCurtain x2 σ) (fun r2 σ1 => vC (f_X5_lacks x1 r2 σ1) (fun r4 σ3 => vL r4 (fun x5 => if x5 = 0 then vC (f_X5_curtainAt x2 0 σ3) (fun r7 σ6 => vC (f_X5_fitting x1 x2 r7 7 σ6) (fun r9 σ8 => some (r9, σ8))) else vC (f_X5_finding x5 σ3) (fun r11 σ10 => some (r11, σ10)))))
abbrev rm_X5_drawn : Room := { frames := 0, cells := 0, slots := 0, locals := 0 }
def f_X5_drawn  (σ : Mem) : Option (Int32 × Mem) := vI 70 2 (fun j1 => vI 70 2 (fun j2 => vW σ 51 j2 (((σ 51 j1) * (1103515245)) + 12345) (fun σ3 => vI 70 2 (fun j4 => some (((σ3 51 j4).toUInt32 >>> ((8 : Int32).toUInt32 &&& Int32.toUInt32 31)).toInt32, σ3)))))
abbrev rm_X5_evening : Room := { frames := 5, cells := 0, slots := 0, locals := 110 }
def f_X5_evening_J97 (k39 : Int32 → Int32 → Mem → Option (Int32 × Mem)) (y1 : Int32) (y2 : Int32) (σ : Mem) : Option (Int32 × Mem) := vC (f_X5_beat σ) (fun _ σ18 => vL (y2 + 1) (fun x19 => k39 y1 x19 σ18))
def f_X5_evening_L39  : Nat → Int32 → Int32 → Mem → Option (Int32 × Mem)
  | 0 => fun _ _ _ => none
  | n + 1 => fun y1 y2 σ => if y1 ≤ y2 then vI 70 4 (fun j5 => some (σ 51 j5, σ)) else vC (f_X5_drawn σ) (fun r7 σ6 => vL (r7 - r7 / 12 * 12) (fun x8 => vC (f_X5_placeNow σ6) (fun r10 σ9 => vI 70 r10 (fun j11 => vW σ9 51 j11 x8 (fun σ12 => vC (f_X5_drawn σ12) (fun r14 σ13 => vL (r14 - r14 / 8 * 8) (fun x15 => vC (f_X5_isCurtain x15 σ13) (fun r17 σ16 => if r17 = 0 then f_X5_evening_J97 (f_X5_evening_L39 n) y1 y2 σ16 else vC (f_X5_curtainAt x15 2 σ16) (fun r21 σ20 => vI 70 r21 (fun j22 => vI 70 r21 (fun j23 => vW σ20 51 j23 ((σ20 51 j22) ^^^ (1 <<< (x8 &&& 31))) (fun σ24 => f_X5_evening_J97 (f_X5_evening_L39 n) y1 y2 σ24))))))))))))
theorem f_X5_evening_L39_s  (n : Nat) (y1 : Int32) (y2 : Int32) (σ : Mem) : f_X5_evening_L39  (n + 1) y1 y2 σ = if y1 ≤ y2 then vI 70 4 (fun j5 => some (σ 51 j5, σ)) else vC (f_X5_drawn σ) (fun r7 σ6 => vL (r7 - r7 / 12 * 12) (fun x8 => vC (f_X5_placeNow σ6) (fun r10 σ9 => vI 70 r10 (fun j11 => vW σ9 51 j11 x8 (fun σ12 => vC (f_X5_drawn σ12) (fun r14 σ13 => vL (r14 - r14 / 8 * 8) (fun x15 => vC (f_X5_isCurtain x15 σ13) (fun r17 σ16 => if r17 = 0 then f_X5_evening_J97 (f_X5_evening_L39 n) y1 y2 σ16 else vC (f_X5_curtainAt x15 2 σ16) (fun r21 σ20 => vI 70 r21 (fun j22 => vI 70 r21 (fun j23 => vW σ20 51 j23 ((σ20 51 j22) ^^^ (1 <<< (x8 &&& 31))) (fun σ24 => f_X5_evening_J97 (f_X5_evening_L39 n) y1 y2 σ24)))))))))))) := rfl
def f_X5_evening (x1 : Int32) (σ : Mem) : Option (Int32 × Mem) := vC (f_X5_within x1 1 20 σ) (fun r2 σ1 => if r2 = 0 then vC (f_X5_finding (-1000001) σ1) (fun r28 σ27 => some (r28, σ27)) else vI 70 0 (fun j3 => if ((σ1 51 j3) + x1) ≤ (99999) then vL (0 : Int32) (fun x4 => f_X5_evening_L39 FU x1 x4 σ1) else vC (f_X5_finding (-1000005) σ1) (fun r26 σ25 => some (r26, σ25))))
abbrev rm_X5_odds : Room := { frames := 2, cells := 0, slots := 0, locals := 43 }
def f_X5_odds_J27   (σ : Mem) : Option (Int64 × Mem) := vC (f_X5_finding (-1000001) σ) (fun r4 σ3 => some (r4.toInt64, σ3))
def f_X5_odds_J102 (k83 : Int32 → Int32 → Int32 → Int32 → Int64 → Int32 → Mem → Option (Int64 × Mem)) (y2 : Int32) (y3 : Int32) (y4 : Int32) (y5 : Int32) (y9 : Int32) (s0 : Int64) (s1 : Int32) (σ : Mem) : Option (Int64 × Mem) := vN y5 (vL (s0 * ((s1 / y5).toInt64)) (fun z18 => vL (y9 + 1) (fun x19 => k83 y2 y3 y4 y5 z18 x19 σ)))
def f_X5_odds_L83  : Nat → Int32 → Int32 → Int32 → Int32 → Int64 → Int32 → Mem → Option (Int64 × Mem)
  | 0 => fun _ _ _ _ _ _ _ => none
  | n + 1 => fun y2 y3 y4 y5 z7 y9 σ => if y2 ≤ y9 then some (z7, σ) else if y3 = 0 then f_X5_odds_J102 (f_X5_odds_L83 n) y2 y3 y4 y5 y9 z7 y4 σ else f_X5_odds_J102 (f_X5_odds_L83 n) y2 y3 y4 y5 y9 z7 12 σ
theorem f_X5_odds_L83_s  (n : Nat) (y2 : Int32) (y3 : Int32) (y4 : Int32) (y5 : Int32) (z7 : Int64) (y9 : Int32) (σ : Mem) : f_X5_odds_L83  (n + 1) y2 y3 y4 y5 z7 y9 σ = if y2 ≤ y9 then some (z7, σ) else if y3 = 0 then f_X5_odds_J102 (f_X5_odds_L83 n) y2 y3 y4 y5 y9 z7 y4 σ else f_X5_odds_J102 (f_X5_odds_L83 n) y2 y3 y4 y5 y9 z7 12 σ := rfl
def f_X5_odds_L54  : Nat → Int32 → Int32 → Int32 → Int32 → Int32 → Mem → Option (Int64 × Mem)
  | 0 => fun _ _ _ _ _ _ => none
  | n + 1 => fun y2 y3 y4 y5 y6 σ => if y6 = 0 then vL (1 : Int64) (fun z16 => vL (0 : Int32) (fun x17 => f_X5_odds_L83 FU y2 y3 y4 y5 z16 x17 σ)) else vN y6 (vL (y5 - y5 / y6 * y6) (fun x20 => vL y6 (fun x21 => vL x20 (fun x22 => (f_X5_odds_L54 n) y2 y3 y4 x21 x22 σ))))
theorem f_X5_odds_L54_s  (n : Nat) (y2 : Int32) (y3 : Int32) (y4 : Int32) (y5 : Int32) (y6 : Int32) (σ : Mem) : f_X5_odds_L54  (n + 1) y2 y3 y4 y5 y6 σ = if y6 = 0 then vL (1 : Int64) (fun z16 => vL (0 : Int32) (fun x17 => f_X5_odds_L83 FU y2 y3 y4 y5 z16 x17 σ)) else vN y6 (vL (y5 - y5 / y6 * y6) (fun x20 => vL y6 (fun x21 => vL x20 (fun x22 => (f_X5_odds_L54 n) y2 y3 y4 x21 x22 σ)))) := rfl
def f_X5_odds (x1 : Int32) (x2 : Int32) (x3 : Int32) (σ : Mem) : Option (Int64 × Mem) := vC (f_X5_isCurtain x1 σ) (fun r2 σ1 => if r2 = 0 then f_X5_odds_J27 σ1 else vC (f_X5_within x2 0 17 σ1) (fun r6 σ5 => if r6 = 0 then f_X5_odds_J27 σ5 else vC (f_X5_within x3 0 1 σ5) (fun r8 σ7 => if r8 = 0 then f_X5_odds_J27 σ7 else vC (f_X5_curtainIs x1 2 σ7) (fun r10 σ9 => vC (f_X5_bits r10 σ9) (fun r12 σ11 => vL r12 (fun x13 => vL (12 : Int32) (fun x14 => vL x13 (fun x15 => f_X5_odds_L54 FU x2 x3 x13 x14 x15 σ11))))))))
abbrev rm_X5_seed : Room := { frames := 1, cells := 0, slots := 0, locals := 23 }
def f_X5_seed (x1 : Int32) (σ : Mem) : Option (Int32 × Mem) := vC (f_X5_become 2 x1 σ) (fun r2 σ1 => some (r2, σ1))
abbrev rm_X5_feed : Room := { frames := 1, cells := 0, slots := 0, locals := 22 }
def f_X5_feed_L38  : Nat → Int32 → Int32 → Mem → Option (Int32 × Mem)
  | 0 => fun _ _ _ => none
  | n + 1 => fun y1 y3 σ => if y3 < 0 then some (σ 50 6, σ) else vI 120 (σ 50 6) (fun j4 => vW σ 55 j4 ((y1 >>> ((8 * y3) &&& 31)) &&& 255) (fun σ5 => vW σ5 50 6 ((σ5 50 6) + 1) (fun σ6 => vL (y3 + (-1)) (fun x7 => (f_X5_feed_L38 n) y1 x7 σ6))))
theorem f_X5_feed_L38_s  (n : Nat) (y1 : Int32) (y3 : Int32) (σ : Mem) : f_X5_feed_L38  (n + 1) y1 y3 σ = if y3 < 0 then some (σ 50 6, σ) else vI 120 (σ 50 6) (fun j4 => vW σ 55 j4 ((y1 >>> ((8 * y3) &&& 31)) &&& 255) (fun σ5 => vW σ5 50 6 ((σ5 50 6) + 1) (fun σ6 => vL (y3 + (-1)) (fun x7 => (f_X5_feed_L38 n) y1 x7 σ6)))) := rfl
def f_X5_feed (x1 : Int32) (x2 : Int32) (σ : Mem) : Option (Int32 × Mem) := vC (f_X5_within x2 1 4 σ) (fun r2 σ1 => if r2 = 0 then vC (f_X5_finding (-1000001) σ1) (fun r11 σ10 => some (r11, σ10)) else if ((σ1 50 6) + x2) ≤ 120 then vL (x2 - 1) (fun x3 => f_X5_feed_L38 FU x1 x3 σ1) else vC (f_X5_finding (-1000002) σ1) (fun r9 σ8 => some (r9, σ8)))
abbrev rm_X5_wipe : Room := { frames := 0, cells := 0, slots := 0, locals := 0 }
def f_X5_wipe  (σ : Mem) : Option (Int32 × Mem) := vL (σ 50 6) (fun x1 => vW σ 50 6 0 (fun σ2 => some (x1, σ2)))
abbrev rm_X5_byteAt : Room := { frames := 0, cells := 0, slots := 0, locals := 0 }
def f_X5_byteAt (x1 : Int32) (σ : Mem) : Option (Int32 × Mem) := if (σ 50 6) ≤ x1 then some ((-1), σ) else vI 120 x1 (fun j1 => some (σ 55 j1, σ))
abbrev rm_X5_token : Room := { frames := 1, cells := 0, slots := 0, locals := 22 }
def f_X5_token_L131  : Nat → Mem → Option (Unit × Mem)
  | 0 => fun  _ => none
  | n + 1 => fun  σ => vC (f_X5_byteAt (σ 50 8) σ) (fun r17 σ16 => vC (f_X5_within r17 48 57 σ16) (fun r19 σ18 => if r19 = 0 then some ((), σ18) else vC (f_X5_byteAt (σ18 50 8) σ18) (fun r21 σ20 => vW σ20 50 10 (if (((10 * (σ18 50 10)) + r21) - 48) < 10000 then (((10 * (σ18 50 10)) + r21) - 48) else 10000) (fun σ22 => vW σ22 50 8 ((σ22 50 8) + 1) (fun σ23 => (f_X5_token_L131 n) σ23)))))
theorem f_X5_token_L131_s  (n : Nat)  (σ : Mem) : f_X5_token_L131  (n + 1)  σ = vC (f_X5_byteAt (σ 50 8) σ) (fun r17 σ16 => vC (f_X5_within r17 48 57 σ16) (fun r19 σ18 => if r19 = 0 then some ((), σ18) else vC (f_X5_byteAt (σ18 50 8) σ18) (fun r21 σ20 => vW σ20 50 10 (if (((10 * (σ18 50 10)) + r21) - 48) < 10000 then (((10 * (σ18 50 10)) + r21) - 48) else 10000) (fun σ22 => vW σ22 50 8 ((σ22 50 8) + 1) (fun σ23 => (f_X5_token_L131 n) σ23))))) := rfl
def f_X5_token_L84  : Nat → Mem → Option (Unit × Mem)
  | 0 => fun  _ => none
  | n + 1 => fun  σ => vC (f_X5_byteAt (σ 50 8) σ) (fun r26 σ25 => vC (f_X5_within r26 97 122 σ25) (fun r28 σ27 => if r28 = 0 then some ((), σ27) else vW σ27 50 8 ((σ27 50 8) + 1) (fun σ29 => (f_X5_token_L84 n) σ29)))
theorem f_X5_token_L84_s  (n : Nat)  (σ : Mem) : f_X5_token_L84  (n + 1)  σ = vC (f_X5_byteAt (σ 50 8) σ) (fun r26 σ25 => vC (f_X5_within r26 97 122 σ25) (fun r28 σ27 => if r28 = 0 then some ((), σ27) else vW σ27 50 8 ((σ27 50 8) + 1) (fun σ29 => (f_X5_token_L84 n) σ29))) := rfl
def f_X5_token_L8  : Nat → Mem → Option (Unit × Mem)
  | 0 => fun  _ => none
  | n + 1 => fun  σ => vC (f_X5_byteAt (σ 50 7) σ) (fun r3 σ2 => if r3 = 32 then vW σ2 50 7 ((σ2 50 7) + 1) (fun σ31 => (f_X5_token_L8 n) σ31) else vC (f_X5_byteAt (σ2 50 7) σ2) (fun r5 σ4 => vL r5 (fun x6 => vW σ4 50 8 (σ4 50 7) (fun σ7 => vW σ7 50 10 0 (fun σ8 => if 0 ≤ x6 then vC (f_X5_within x6 97 122 σ8) (fun r10 σ9 => if r10 = 0 then vC (f_X5_within x6 48 57 σ9) (fun r12 σ11 => if r12 = 0 then vW σ11 50 9 3 (fun σ13 => vW σ13 50 8 ((σ13 50 8) + 1) (fun σ14 => some ((), σ14))) else vW σ11 50 9 2 (fun σ15 => f_X5_token_L131 FU σ15)) else vW σ9 50 9 1 (fun σ24 => f_X5_token_L84 FU σ24)) else vW σ8 50 9 0 (fun σ30 => some ((), σ30)))))))
theorem f_X5_token_L8_s  (n : Nat)  (σ : Mem) : f_X5_token_L8  (n + 1)  σ = vC (f_X5_byteAt (σ 50 7) σ) (fun r3 σ2 => if r3 = 32 then vW σ2 50 7 ((σ2 50 7) + 1) (fun σ31 => (f_X5_token_L8 n) σ31) else vC (f_X5_byteAt (σ2 50 7) σ2) (fun r5 σ4 => vL r5 (fun x6 => vW σ4 50 8 (σ4 50 7) (fun σ7 => vW σ7 50 10 0 (fun σ8 => if 0 ≤ x6 then vC (f_X5_within x6 97 122 σ8) (fun r10 σ9 => if r10 = 0 then vC (f_X5_within x6 48 57 σ9) (fun r12 σ11 => if r12 = 0 then vW σ11 50 9 3 (fun σ13 => vW σ13 50 8 ((σ13 50 8) + 1) (fun σ14 => some ((), σ14))) else vW σ11 50 9 2 (fun σ15 => f_X5_token_L131 FU σ15)) else vW σ9 50 9 1 (fun σ24 => f_X5_token_L84 FU σ24)) else vW σ8 50 9 0 (fun σ30 => some ((), σ30))))))) := rfl
def f_X5_token  (σ : Mem) : Option (Unit × Mem) := vW σ 50 7 (σ 50 8) (fun σ1 => f_X5_token_L8 FU σ1)
abbrev rm_X5_isWord : Room := { frames := 4, cells := 0, slots := 0, locals := 88 }
def f_X5_isWord_J68 (k32 : Nat → Int32 → Int32 → Mem → Option (Int32 × Mem)) (b1 : Nat) (y3 : Int32) (s0 : Int32) (σ : Mem) : Option (Int32 × Mem) := vL s0 (fun x8 => vL (y3 + 1) (fun x9 => k32 b1 x8 x9 σ))
def f_X5_isWord_L32  : Nat → Nat → Int32 → Int32 → Mem → Option (Int32 × Mem)
  | 0 => fun _ _ _ _ => none
  | n + 1 => fun b1 y2 y3 σ => vC (f_J0_length_8abf5 b1 σ) (fun r4 σ3 => if r4 ≤ y3 then vB y2 (some (y2, σ3)) else if y2 = 0 then vB y2 (some (y2, σ3)) else vI 120 ((σ3 50 7) + y3) (fun j5 => vC (f_J0_charAt_5068e b1 y3 σ3) (fun r7 σ6 => if (σ3 55 j5) = r7 then f_X5_isWord_J68 (f_X5_isWord_L32 n) b1 y3 1 σ6 else f_X5_isWord_J68 (f_X5_isWord_L32 n) b1 y3 0 σ6)))
theorem f_X5_isWord_L32_s  (n : Nat) (b1 : Nat) (y2 : Int32) (y3 : Int32) (σ : Mem) : f_X5_isWord_L32  (n + 1) b1 y2 y3 σ = vC (f_J0_length_8abf5 b1 σ) (fun r4 σ3 => if r4 ≤ y3 then vB y2 (some (y2, σ3)) else if y2 = 0 then vB y2 (some (y2, σ3)) else vI 120 ((σ3 50 7) + y3) (fun j5 => vC (f_J0_charAt_5068e b1 y3 σ3) (fun r7 σ6 => if (σ3 55 j5) = r7 then f_X5_isWord_J68 (f_X5_isWord_L32 n) b1 y3 1 σ6 else f_X5_isWord_J68 (f_X5_isWord_L32 n) b1 y3 0 σ6))) := rfl
def f_X5_isWord_J29  (b1 : Nat) (s0 : Int32) (σ : Mem) : Option (Int32 × Mem) := vL s0 (fun x1 => vL (0 : Int32) (fun x2 => f_X5_isWord_L32 FU b1 x1 x2 σ))
def f_X5_isWord_J28  (b1 : Nat) (σ : Mem) : Option (Int32 × Mem) := f_X5_isWord_J29 b1 0 σ
def f_X5_isWord (a1 : Nat) (σ : Mem) : Option (Int32 × Mem) := if (σ 50 9) = 1 then vC (f_J0_length_8abf5 a1 σ) (fun r11 σ10 => if ((σ 50 8) - (σ 50 7)) = r11 then f_X5_isWord_J29 a1 1 σ10 else f_X5_isWord_J28 a1 σ10) else f_X5_isWord_J28 a1 σ
abbrev rm_X5_must : Room := { frames := 2, cells := 0, slots := 0, locals := 43 }
def f_X5_must_J17  (s1 : Int32) (σ : Mem) : Option (Unit × Mem) := vB s1 (vW σ 50 11 s1 (fun σ1 => if (σ1 50 11) = 0 then vC (f_X5_token σ1) (fun _ σ2 => some ((), σ2)) else some ((), σ1)))
def f_X5_must_J12   (σ : Mem) : Option (Unit × Mem) := f_X5_must_J17 1 σ
def f_X5_must (x1 : Int32) (σ : Mem) : Option (Unit × Mem) := if (σ 50 11) = 0 then if x1 = 0 then f_X5_must_J12 σ else f_X5_must_J17 0 σ else f_X5_must_J12 σ
abbrev rm_X5_number : Room := { frames := 3, cells := 0, slots := 0, locals := 64 }
def f_X5_number_J28  (y3 : Int32) (s1 : Int32) (σ : Mem) : Option (Int32 × Mem) := vC (f_X5_must s1 σ) (fun _ σ2 => some (y3, σ2))
def f_X5_number_J27  (y3 : Int32) (σ : Mem) : Option (Int32 × Mem) := f_X5_number_J28 y3 0 σ
def f_X5_number (x1 : Int32) (x2 : Int32) (σ : Mem) : Option (Int32 × Mem) := vL (σ 50 10) (fun x1 => if (σ 50 9) = 2 then vC (f_X5_within x1 x1 x2 σ) (fun r4 σ3 => if r4 = 0 then f_X5_number_J27 x1 σ3 else f_X5_number_J28 x1 1 σ3) else f_X5_number_J27 x1 σ)
abbrev rm_X5_addItem : Room := { frames := 0, cells := 0, slots := 0, locals := 0 }
def f_X5_addItem (x1 : Int32) (x2 : Int32) (x3 : Int32) (x4 : Int32) (x5 : Int32) (σ : Mem) : Option (Unit × Mem) := vL (5 * (σ 50 14)) (fun x1 => vI 600 x1 (fun j2 => vW σ 57 j2 x1 (fun σ3 => vI 600 (x1 + 1) (fun j4 => vW σ3 57 j4 x2 (fun σ5 => vI 600 (x1 + 2) (fun j6 => vW σ5 57 j6 x3 (fun σ7 => vI 600 (x1 + 3) (fun j8 => vW σ7 57 j8 x4 (fun σ9 => vI 600 (x1 + 4) (fun j10 => vW σ9 57 j10 x5 (fun σ11 => vW σ11 50 14 ((σ11 50 14) + 1) (fun σ12 => some ((), σ12)))))))))))))
abbrev rm_X5_takesWord : Room := { frames := 5, cells := 0, slots := 0, locals := 111 }
def f_X5_takesWord_J20  (s0 : Int32) (σ : Mem) : Option (Int32 × Mem) := vL s0 (fun x1 => if x1 = 0 then vB x1 (some (x1, σ)) else vC (f_X5_must 1 σ) (fun _ σ2 => vB x1 (some (x1, σ2))))
def f_X5_takesWord_J19   (σ : Mem) : Option (Int32 × Mem) := f_X5_takesWord_J20 0 σ
def f_X5_takesWord (a1 : Nat) (σ : Mem) : Option (Int32 × Mem) := if (σ 50 11) = 0 then vC (f_X5_isWord a1 σ) (fun r4 σ3 => if r4 = 0 then f_X5_takesWord_J19 σ3 else f_X5_takesWord_J20 1 σ3) else f_X5_takesWord_J19 σ
abbrev rm_X5_readCurtain : Room := { frames := 6, cells := 0, slots := 0, locals := 133 }
def f_X5_readCurtain_J109  (s1 : Int32) (s2 : Int32) (s3 : Int32) (s4 : Int32) (s5 : Int32) (σ : Mem) : Option (Unit × Mem) := vC (f_X5_addItem s1 s2 s3 s4 s5 σ) (fun _ σ13 => vW σ13 50 15 ((σ13 50 15) + 1) (fun σ14 => some ((), σ14)))
def f_X5_readCurtain_J86  (y1 : Int32) (y2 : Int32) (y3 : Int32) (s0 : Int32) (σ : Mem) : Option (Unit × Mem) := vL s0 (fun x10 => vC (f_X5_takesWord 13 σ) (fun r12 σ11 => if r12 = 0 then f_X5_readCurtain_J109 y1 y2 y3 x10 0 σ11 else f_X5_readCurtain_J109 y1 y2 y3 x10 1 σ11))
def f_X5_readCurtain_J63  (y1 : Int32) (y2 : Int32) (s0 : Int32) (σ : Mem) : Option (Unit × Mem) := vL s0 (fun x7 => vC (f_X5_takesWord 12 σ) (fun r9 σ8 => if r9 = 0 then f_X5_readCurtain_J86 y1 y2 x7 20 σ8 else vC (f_X5_number 0 20 σ8) (fun r16 σ15 => f_X5_readCurtain_J86 y1 y2 x7 r16 σ15)))
def f_X5_readCurtain_J40  (y1 : Int32) (s0 : Int32) (σ : Mem) : Option (Unit × Mem) := vL s0 (fun x4 => vC (f_X5_takesWord 11 σ) (fun r6 σ5 => if r6 = 0 then f_X5_readCurtain_J63 y1 x4 0 σ5 else vC (f_X5_number 0 4095 σ5) (fun r18 σ17 => f_X5_readCurtain_J63 y1 x4 r18 σ17)))
def f_X5_readCurtain_J15  (y1 : Int32) (s1 : Int32) (σ : Mem) : Option (Unit × Mem) := vC (f_X5_must s1 σ) (fun _ σ1 => vC (f_X5_takesWord 10 σ1) (fun r3 σ2 => if r3 = 0 then f_X5_readCurtain_J40 y1 60 σ2 else vC (f_X5_number 0 99 σ2) (fun r20 σ19 => f_X5_readCurtain_J40 y1 r20 σ19)))
def f_X5_readCurtain (x1 : Int32) (σ : Mem) : Option (Unit × Mem) := if 8 ≤ (σ 50 15) then f_X5_readCurtain_J15 x1 0 σ else f_X5_readCurtain_J15 x1 1 σ
abbrev rm_X5_readItem : Room := { frames := 7, cells := 0, slots := 0, locals := 157 }
def f_X5_readItem_J31 (k4 : Int32 → Int32 → Mem → Option (Unit × Mem)) (y2 : Int32) (s0 : Int32) (σ : Mem) : Option (Unit × Mem) := vL s0 (fun x22 => vL (y2 + 1) (fun x23 => k4 x22 x23 σ))
def f_X5_readItem_L4  : Nat → Int32 → Int32 → Mem → Option (Unit × Mem)
  | 0 => fun _ _ _ => none
  | n + 1 => fun y1 y2 σ => if 7 ≤ y2 then if y1 < 0 then vC (f_X5_takesWord 7 σ) (fun r4 σ3 => if r4 = 0 then vC (f_X5_takesWord 8 σ3) (fun r6 σ5 => if r6 = 0 then vC (f_X5_takesWord 9 σ5) (fun r8 σ7 => if r8 = 0 then vC (f_X5_must 0 σ7) (fun _ σ9 => some ((), σ9)) else vC (f_X5_addItem 11 0 0 0 0 σ7) (fun _ σ10 => some ((), σ10))) else vC (f_X5_addItem 11 1 0 0 0 σ5) (fun _ σ11 => some ((), σ11))) else vC (f_X5_number 0 5 σ3) (fun r13 σ12 => vL r13 (fun x14 => vC (f_X5_number 0 11 σ12) (fun r16 σ15 => vC (f_X5_addItem 10 x14 r16 0 0 σ15) (fun _ σ17 => some ((), σ17)))))) else vC (f_X5_readCurtain y1 σ) (fun _ σ18 => some ((), σ18)) else vI 7 y2 (fun j19 => vC (f_X5_isWord j19 σ) (fun r21 σ20 => if r21 = 0 then f_X5_readItem_J31 (f_X5_readItem_L4 n) y2 y1 σ20 else f_X5_readItem_J31 (f_X5_readItem_L4 n) y2 y2 σ20))
theorem f_X5_readItem_L4_s  (n : Nat) (y1 : Int32) (y2 : Int32) (σ : Mem) : f_X5_readItem_L4  (n + 1) y1 y2 σ = if 7 ≤ y2 then if y1 < 0 then vC (f_X5_takesWord 7 σ) (fun r4 σ3 => if r4 = 0 then vC (f_X5_takesWord 8 σ3) (fun r6 σ5 => if r6 = 0 then vC (f_X5_takesWord 9 σ5) (fun r8 σ7 => if r8 = 0 then vC (f_X5_must 0 σ7) (fun _ σ9 => some ((), σ9)) else vC (f_X5_addItem 11 0 0 0 0 σ7) (fun _ σ10 => some ((), σ10))) else vC (f_X5_addItem 11 1 0 0 0 σ5) (fun _ σ11 => some ((), σ11))) else vC (f_X5_number 0 5 σ3) (fun r13 σ12 => vL r13 (fun x14 => vC (f_X5_number 0 11 σ12) (fun r16 σ15 => vC (f_X5_addItem 10 x14 r16 0 0 σ15) (fun _ σ17 => some ((), σ17)))))) else vC (f_X5_readCurtain y1 σ) (fun _ σ18 => some ((), σ18)) else vI 7 y2 (fun j19 => vC (f_X5_isWord j19 σ) (fun r21 σ20 => if r21 = 0 then f_X5_readItem_J31 (f_X5_readItem_L4 n) y2 y1 σ20 else f_X5_readItem_J31 (f_X5_readItem_L4 n) y2 y2 σ20)) := rfl
def f_X5_readItem  (σ : Mem) : Option (Unit × Mem) := vL (-1 : Int32) (fun x1 => vL (0 : Int32) (fun x2 => f_X5_readItem_L4 FU x1 x2 σ))
abbrev rm_X5_isToldSo : Room := { frames := 2, cells := 0, slots := 0, locals := 45 }
def f_X5_isToldSo (x1 : Int32) (σ : Mem) : Option (Unit × Mem) := vI 600 (x1 + 1) (fun j1 => vL (σ 57 j1) (fun x2 => vI 600 x1 (fun j3 => if (σ 57 j3) = 10 then vI 600 (x1 + 2) (fun j4 => vI 70 (6 + x2) (fun j5 => vW σ 51 j5 (σ 57 j4) (fun σ6 => some ((), σ6)))) else if (σ 57 j3) = 11 then vI 70 3 (fun j7 => vW σ 51 j7 x2 (fun σ8 => some ((), σ8))) else vI 600 x1 (fun j9 => vI 600 (x1 + 2) (fun j10 => vC (f_X5_comes (σ 57 j9) (σ 57 j10) σ) (fun r12 σ11 => vL r12 (fun x13 => vC (f_X5_curtainAt x13 1 σ11) (fun r15 σ14 => vI 70 r15 (fun j16 => vW σ14 51 j16 x2 (fun σ17 => vC (f_X5_curtainAt x13 3 σ17) (fun r19 σ18 => vI 600 (x1 + 3) (fun j20 => vI 70 r19 (fun j21 => vW σ18 51 j21 (σ18 57 j20) (fun σ22 => vC (f_X5_curtainAt x13 4 σ22) (fun r24 σ23 => vI 600 (x1 + 4) (fun j25 => vI 70 r24 (fun j26 => vW σ23 51 j26 (σ23 57 j25) (fun σ27 => some ((), σ27)))))))))))))))))))
abbrev rm_X5_text : Room := { frames := 8, cells := 0, slots := 0, locals := 179 }
def f_X5_text_L111  : Nat → Int32 → Mem → Option (Int32 × Mem)
  | 0 => fun _ _ => none
  | n + 1 => fun y1 σ => if (σ 50 14) ≤ y1 then some (σ 50 14, σ) else vC (f_X5_isToldSo (5 * y1) σ) (fun _ σ11 => vL (y1 + 1) (fun x12 => (f_X5_text_L111 n) x12 σ11))
theorem f_X5_text_L111_s  (n : Nat) (y1 : Int32) (σ : Mem) : f_X5_text_L111  (n + 1) y1 σ = if (σ 50 14) ≤ y1 then some (σ 50 14, σ) else vC (f_X5_isToldSo (5 * y1) σ) (fun _ σ11 => vL (y1 + 1) (fun x12 => (f_X5_text_L111 n) x12 σ11)) := rfl
def f_X5_text_J87  (s1 : Int32) (σ : Mem) : Option (Int32 × Mem) := vC (f_X5_must s1 σ) (fun _ σ8 => vW σ8 50 6 0 (fun σ9 => if (σ9 50 11) = 0 then vL (0 : Int32) (fun x10 => f_X5_text_L111 FU x10 σ9) else some ((-1) - (σ9 50 7), σ9)))
def f_X5_text_J74   (σ : Mem) : Option (Int32 × Mem) := if (σ 50 9) = 0 then f_X5_text_J87 1 σ else f_X5_text_J87 0 σ
def f_X5_text_L33  : Nat → Mem → Option (Int32 × Mem)
  | 0 => fun  _ => none
  | n + 1 => fun  σ => if (σ 50 11) = 0 then if (σ 50 9) = 3 then vI 120 (σ 50 7) (fun j13 => if (σ 55 j13) = 59 then vC (f_X5_must 1 σ) (fun _ σ14 => vC (f_X5_readItem σ14) (fun _ σ15 => (f_X5_text_L33 n) σ15)) else f_X5_text_J74 σ) else f_X5_text_J74 σ else f_X5_text_J74 σ
theorem f_X5_text_L33_s  (n : Nat)  (σ : Mem) : f_X5_text_L33  (n + 1)  σ = if (σ 50 11) = 0 then if (σ 50 9) = 3 then vI 120 (σ 50 7) (fun j13 => if (σ 55 j13) = 59 then vC (f_X5_must 1 σ) (fun _ σ14 => vC (f_X5_readItem σ14) (fun _ σ15 => (f_X5_text_L33 n) σ15)) else f_X5_text_J74 σ) else f_X5_text_J74 σ else f_X5_text_J74 σ := rfl
def f_X5_text  (σ : Mem) : Option (Int32 × Mem) := vW σ 50 8 0 (fun σ1 => vW σ1 50 11 0 (fun σ2 => vW σ2 50 14 0 (fun σ3 => vI 70 1 (fun j4 => vW σ3 50 15 (σ3 51 j4) (fun σ5 => vC (f_X5_token σ5) (fun _ σ6 => vC (f_X5_readItem σ6) (fun _ σ7 => f_X5_text_L33 FU σ7)))))))
abbrev rm_X5_isSpot : Room := { frames := 1, cells := 0, slots := 0, locals := 22 }
def f_X5_isSpot (x0 : Int32) (σ : Mem) : Option (Int32 × Mem) := vC (f_X5_within x0 0 9 σ) (fun r2 σ1 => vB r2 (some (r2, σ1)))
abbrev rm_X5_hold : Room := { frames := 2, cells := 0, slots := 0, locals := 43 }
def f_X5_hold_J20   (σ : Mem) : Option (Int32 × Mem) := vC (f_X5_finding (-1000001) σ) (fun r4 σ3 => some (r4, σ3))
def f_X5_hold_J27  (y1 : Int32) (y2 : Int32) (σ : Mem) : Option (Int32 × Mem) := vI 70 (12 + y1) (fun j5 => vW σ 51 j5 y2 (fun σ6 => some (1, σ6)))
def f_X5_hold (x1 : Int32) (x2 : Int32) (σ : Mem) : Option (Int32 × Mem) := vC (f_X5_isSpot x1 σ) (fun r2 σ1 => if r2 = 0 then f_X5_hold_J20 σ1 else if x2 = (-1) then f_X5_hold_J27 x1 x2 σ1 else vC (f_X5_isCurtain x2 σ1) (fun r8 σ7 => if r8 = 0 then f_X5_hold_J20 σ7 else f_X5_hold_J27 x1 x2 σ7))
abbrev rm_X5_above : Room := { frames := 0, cells := 0, slots := 0, locals := 0 }
def f_X5_above (x0 : Int32) (σ : Mem) : Option (Int32 × Mem) := if x0 = 0 then some ((-1), σ) else if x0 = 3 then some (2, σ) else if x0 = 4 then some (3, σ) else if x0 = 6 then some (1, σ) else some (0, σ)
abbrev rm_X5_isUnder : Room := { frames := 1, cells := 0, slots := 0, locals := 20 }
def f_X5_isUnder_J19  (y2 : Int32) (σ : Mem) : Option (Int32 × Mem) := if y2 < 0 then some (0, σ) else some (1, σ)
def f_X5_isUnder_L2  : Nat → Int32 → Int32 → Mem → Option (Int32 × Mem)
  | 0 => fun _ _ _ => none
  | n + 1 => fun y1 y2 σ => if y2 < 0 then f_X5_isUnder_J19 y2 σ else if y2 = y1 then f_X5_isUnder_J19 y2 σ else vC (f_X5_above y2 σ) (fun r3 σ2 => vL r3 (fun x4 => (f_X5_isUnder_L2 n) y1 x4 σ2))
theorem f_X5_isUnder_L2_s  (n : Nat) (y1 : Int32) (y2 : Int32) (σ : Mem) : f_X5_isUnder_L2  (n + 1) y1 y2 σ = if y2 < 0 then f_X5_isUnder_J19 y2 σ else if y2 = y1 then f_X5_isUnder_J19 y2 σ else vC (f_X5_above y2 σ) (fun r3 σ2 => vL r3 (fun x4 => (f_X5_isUnder_L2 n) y1 x4 σ2)) := rfl
def f_X5_isUnder (x0 : Int32) (x1 : Int32) (σ : Mem) : Option (Int32 × Mem) := vL x0 (fun x1 => f_X5_isUnder_L2 FU x1 x1 σ)
abbrev rm_X5_as : Room := { frames := 2, cells := 0, slots := 0, locals := 43 }
def f_X5_as_J14   (σ : Mem) : Option (Int32 × Mem) := vC (f_X5_finding (-1000001) σ) (fun r4 σ3 => some (r4, σ3))
def f_X5_as (x1 : Int32) (x2 : Int32) (σ : Mem) : Option (Int32 × Mem) := vC (f_X5_isSpot x1 σ) (fun r2 σ1 => if r2 = 0 then f_X5_as_J14 σ1 else vC (f_X5_isKind x2 σ1) (fun r6 σ5 => if r6 = 0 then f_X5_as_J14 σ5 else vI 70 (12 + x1) (fun j7 => vL (σ5 51 j7) (fun x8 => if 0 ≤ x8 then vC (f_X5_curtainIs x8 0 σ5) (fun r10 σ9 => vC (f_X5_isUnder r10 x2 σ9) (fun r12 σ11 => if r12 = 0 then vC (f_X5_finding (-1000003) σ11) (fun r14 σ13 => some (r14, σ13)) else some (x8, σ11))) else vC (f_X5_finding (-1000006) σ5) (fun r16 σ15 => some (r16, σ15))))))
abbrev rm_X5_cutTo : Room := { frames := 0, cells := 0, slots := 0, locals := 0 }
def f_X5_cutTo (x0 : Int32) (x1 : Int32) (σ : Mem) : Option (Int32 × Mem) := if x1 = 8 then some (x0.toInt8.toInt32, σ) else if x1 = 16 then some (x0.toInt16.toInt32, σ) else some (x0, σ)
abbrev rm_X5_sheet : Room := { frames := 2, cells := 0, slots := 0, locals := 42 }
def f_X5_sheet_J29   (σ : Mem) : Option (Int32 × Mem) := vC (f_X5_finding (-1000001) σ) (fun r4 σ3 => some (r4, σ3))
def f_X5_sheet_L86  : Nat → Int32 → Int32 → Mem → Option (Int32 × Mem)
  | 0 => fun _ _ _ => none
  | n + 1 => fun y1 y4 σ => if 40 ≤ y4 then vI 4 y1 (fun j10 => some (σ 59 j10, σ)) else vI 160 ((40 * y1) + y4) (fun j11 => vW σ 60 j11 0 (fun σ12 => vL (y4 + 1) (fun x13 => (f_X5_sheet_L86 n) y1 x13 σ12)))
theorem f_X5_sheet_L86_s  (n : Nat) (y1 : Int32) (y4 : Int32) (σ : Mem) : f_X5_sheet_L86  (n + 1) y1 y4 σ = if 40 ≤ y4 then vI 4 y1 (fun j10 => some (σ 59 j10, σ)) else vI 160 ((40 * y1) + y4) (fun j11 => vW σ 60 j11 0 (fun σ12 => vL (y4 + 1) (fun x13 => (f_X5_sheet_L86 n) y1 x13 σ12))) := rfl
def f_X5_sheet_J82  (y1 : Int32) (s1 : Int32) (s2 : Int32) (σ : Mem) : Option (Int32 × Mem) := vI 4 s1 (fun j7 => vW σ 59 j7 s2 (fun σ8 => vL (0 : Int32) (fun x9 => f_X5_sheet_L86 FU y1 x9 σ8)))
def f_X5_sheet_J36  (y1 : Int32) (y2 : Int32) (y3 : Int32) (σ : Mem) : Option (Int32 × Mem) := if 0 ≤ y3 then if y3 ≤ 40 then vI 4 y1 (fun j5 => vW σ 58 j5 y2 (fun σ6 => if y2 = 0 then f_X5_sheet_J82 y1 y1 0 σ6 else f_X5_sheet_J82 y1 y1 y3 σ6)) else vC (f_X5_finding (-1000001) σ) (fun r15 σ14 => some (r15, σ14)) else vC (f_X5_finding (-1000007) σ) (fun r17 σ16 => some (r17, σ16))
def f_X5_sheet (x1 : Int32) (x2 : Int32) (x3 : Int32) (σ : Mem) : Option (Int32 × Mem) := vC (f_X5_isSheet x1 σ) (fun r2 σ1 => if r2 = 0 then f_X5_sheet_J29 σ1 else if x2 = 0 then f_X5_sheet_J36 x1 x2 x3 σ1 else if x2 = 8 then f_X5_sheet_J36 x1 x2 x3 σ1 else if x2 = 16 then f_X5_sheet_J36 x1 x2 x3 σ1 else if x2 = 32 then f_X5_sheet_J36 x1 x2 x3 σ1 else f_X5_sheet_J29 σ1)
abbrev rm_X5_write : Room := { frames := 2, cells := 0, slots := 0, locals := 42 }
def f_X5_write (x1 : Int32) (x2 : Int32) (x3 : Int32) (σ : Mem) : Option (Int32 × Mem) := vC (f_X5_isSheet x1 σ) (fun r2 σ1 => if r2 = 0 then vC (f_X5_finding (-1000001) σ1) (fun r17 σ16 => some (r17, σ16)) else vI 4 x1 (fun j3 => if (σ1 58 j3) = 0 then vC (f_X5_finding (-1000006) σ1) (fun r15 σ14 => some (r15, σ14)) else vI 4 x1 (fun j4 => vC (f_X5_within x2 0 ((σ1 59 j4) - 1) σ1) (fun r6 σ5 => if r6 = 0 then vC (f_X5_finding (-1000001) σ5) (fun r13 σ12 => some (r13, σ12)) else vI 4 x1 (fun j7 => vC (f_X5_cutTo x3 (σ5 58 j7) σ5) (fun r9 σ8 => vI 160 ((40 * x1) + x2) (fun j10 => vW σ8 60 j10 r9 (fun σ11 => some (1, σ11)))))))))
abbrev rm_X5_copy : Room := { frames := 2, cells := 0, slots := 0, locals := 42 }
def f_X5_copy_J14   (σ : Mem) : Option (Int32 × Mem) := vC (f_X5_finding (-1000001) σ) (fun r4 σ3 => some (r4, σ3))
def f_X5_copy_J39   (σ : Mem) : Option (Int32 × Mem) := vC (f_X5_finding (-1000006) σ) (fun r9 σ8 => some (r9, σ8))
def f_X5_copy_J118   (σ : Mem) : Option (Int32 × Mem) := vC (f_X5_finding (-1000001) σ) (fun r14 σ13 => some (r14, σ13))
def f_X5_copy_L165  : Nat → Int32 → Int32 → Int32 → Int32 → Mem → Option (Int32 × Mem)
  | 0 => fun _ _ _ _ _ => none
  | n + 1 => fun y3 y4 y5 y6 σ => if y5 ≤ y6 then some (y5, σ) else vI 40 y6 (fun j19 => vI 160 (((40 * y3) + y4) + y6) (fun j20 => vW σ 60 j20 (σ 61 j19) (fun σ21 => vL (y6 + 1) (fun x22 => (f_X5_copy_L165 n) y3 y4 y5 x22 σ21))))
theorem f_X5_copy_L165_s  (n : Nat) (y3 : Int32) (y4 : Int32) (y5 : Int32) (y6 : Int32) (σ : Mem) : f_X5_copy_L165  (n + 1) y3 y4 y5 y6 σ = if y5 ≤ y6 then some (y5, σ) else vI 40 y6 (fun j19 => vI 160 (((40 * y3) + y4) + y6) (fun j20 => vW σ 60 j20 (σ 61 j19) (fun σ21 => vL (y6 + 1) (fun x22 => (f_X5_copy_L165 n) y3 y4 y5 x22 σ21)))) := rfl
def f_X5_copy_L128  : Nat → Int32 → Int32 → Int32 → Int32 → Int32 → Int32 → Mem → Option (Int32 × Mem)
  | 0 => fun _ _ _ _ _ _ _ => none
  | n + 1 => fun y1 y2 y3 y4 y5 y6 σ => if y5 ≤ y6 then vL (0 : Int32) (fun x18 => f_X5_copy_L165 FU y3 y4 y5 x18 σ) else vI 160 (((40 * y1) + y2) + y6) (fun j23 => vI 40 y6 (fun j24 => vW σ 61 j24 (σ 60 j23) (fun σ25 => vL (y6 + 1) (fun x26 => (f_X5_copy_L128 n) y1 y2 y3 y4 y5 x26 σ25))))
theorem f_X5_copy_L128_s  (n : Nat) (y1 : Int32) (y2 : Int32) (y3 : Int32) (y4 : Int32) (y5 : Int32) (y6 : Int32) (σ : Mem) : f_X5_copy_L128  (n + 1) y1 y2 y3 y4 y5 y6 σ = if y5 ≤ y6 then vL (0 : Int32) (fun x18 => f_X5_copy_L165 FU y3 y4 y5 x18 σ) else vI 160 (((40 * y1) + y2) + y6) (fun j23 => vI 40 y6 (fun j24 => vW σ 61 j24 (σ 60 j23) (fun σ25 => vL (y6 + 1) (fun x26 => (f_X5_copy_L128 n) y1 y2 y3 y4 y5 x26 σ25)))) := rfl
def f_X5_copy (x1 : Int32) (x2 : Int32) (x3 : Int32) (x4 : Int32) (x5 : Int32) (σ : Mem) : Option (Int32 × Mem) := vC (f_X5_isSheet x1 σ) (fun r2 σ1 => if r2 = 0 then f_X5_copy_J14 σ1 else vC (f_X5_isSheet x3 σ1) (fun r6 σ5 => if r6 = 0 then f_X5_copy_J14 σ5 else vI 4 x1 (fun j7 => if (σ5 58 j7) = 0 then f_X5_copy_J39 σ5 else vI 4 x3 (fun j10 => if (σ5 58 j10) = 0 then f_X5_copy_J39 σ5 else vI 4 x1 (fun j11 => vI 4 x3 (fun j12 => if (σ5 58 j11) = (σ5 58 j12) then if x2 < 0 then f_X5_copy_J118 σ5 else if x4 < 0 then f_X5_copy_J118 σ5 else if x5 < 0 then f_X5_copy_J118 σ5 else vI 4 x1 (fun j15 => if 0 < (lg_cmp (x2.toInt64 + x5.toInt64) ((σ5 59 j15).toInt64)) then f_X5_copy_J118 σ5 else vI 4 x3 (fun j16 => if (lg_cmp (x4.toInt64 + x5.toInt64) ((σ5 59 j16).toInt64)) ≤ 0 then vL (0 : Int32) (fun x17 => f_X5_copy_L128 FU x1 x2 x3 x4 x5 x17 σ5) else f_X5_copy_J118 σ5)) else vC (f_X5_finding (-1000003) σ5) (fun r28 σ27 => some (r28, σ27))))))))
abbrev rm_X5_load : Room := { frames := 3, cells := 0, slots := 0, locals := 64 }
def f_X5_load_L22  : Nat → Int32 → Int32 → Mem → Option (Int32 × Mem)
  | 0 => fun _ _ _ => none
  | n + 1 => fun y1 y2 σ => vI 4 y1 (fun j4 => if (σ 59 j4) ≤ y2 then some (y2, σ) else vC (f_X5_isCurtain y2 σ) (fun r6 σ5 => if r6 = 0 then some (y2, σ5) else vI 160 ((40 * y1) + y2) (fun j7 => vC (f_X5_isSet (σ5 60 j7) σ5) (fun r9 σ8 => if r9 = 0 then some (y2, σ8) else vC (f_X5_curtainAt y2 2 σ8) (fun r11 σ10 => vI 160 ((40 * y1) + y2) (fun j12 => vI 70 r11 (fun j13 => vW σ10 51 j13 (σ10 60 j12) (fun σ14 => vL (y2 + 1) (fun x15 => (f_X5_load_L22 n) y1 x15 σ14)))))))))
theorem f_X5_load_L22_s  (n : Nat) (y1 : Int32) (y2 : Int32) (σ : Mem) : f_X5_load_L22  (n + 1) y1 y2 σ = vI 4 y1 (fun j4 => if (σ 59 j4) ≤ y2 then some (y2, σ) else vC (f_X5_isCurtain y2 σ) (fun r6 σ5 => if r6 = 0 then some (y2, σ5) else vI 160 ((40 * y1) + y2) (fun j7 => vC (f_X5_isSet (σ5 60 j7) σ5) (fun r9 σ8 => if r9 = 0 then some (y2, σ8) else vC (f_X5_curtainAt y2 2 σ8) (fun r11 σ10 => vI 160 ((40 * y1) + y2) (fun j12 => vI 70 r11 (fun j13 => vW σ10 51 j13 (σ10 60 j12) (fun σ14 => vL (y2 + 1) (fun x15 => (f_X5_load_L22 n) y1 x15 σ14))))))))) := rfl
def f_X5_load (x1 : Int32) (σ : Mem) : Option (Int32 × Mem) := vC (f_X5_lacks x1 1 σ) (fun r2 σ1 => if r2 = 0 then vL (0 : Int32) (fun x3 => f_X5_load_L22 FU x1 x3 σ1) else vC (f_X5_lacks x1 1 σ1) (fun r17 σ16 => vC (f_X5_finding r17 σ16) (fun r19 σ18 => some (r19, σ18))))
abbrev rm_X5_judge : Room := { frames := 3, cells := 0, slots := 0, locals := 64 }
def f_X5_judge_J66  (y1 : Int32) (y2 : Int32) (σ : Mem) : Option (Int32 × Mem) := vI 4 y1 (fun j5 => if y2 = (σ 59 j5) then some (0, σ) else some (1 + y2, σ))
def f_X5_judge_L22  : Nat → Int32 → Int32 → Mem → Option (Int32 × Mem)
  | 0 => fun _ _ _ => none
  | n + 1 => fun y1 y2 σ => vI 4 y1 (fun j4 => if (σ 59 j4) ≤ y2 then f_X5_judge_J66 y1 y2 σ else vC (f_X5_isCurtain y2 σ) (fun r7 σ6 => if r7 = 0 then f_X5_judge_J66 y1 y2 σ6 else vI 160 ((40 * y1) + y2) (fun j8 => vC (f_X5_curtainIs y2 3 σ6) (fun r10 σ9 => if (σ6 60 j8) = r10 then vL (y2 + 1) (fun x11 => (f_X5_judge_L22 n) y1 x11 σ9) else f_X5_judge_J66 y1 y2 σ9))))
theorem f_X5_judge_L22_s  (n : Nat) (y1 : Int32) (y2 : Int32) (σ : Mem) : f_X5_judge_L22  (n + 1) y1 y2 σ = vI 4 y1 (fun j4 => if (σ 59 j4) ≤ y2 then f_X5_judge_J66 y1 y2 σ else vC (f_X5_isCurtain y2 σ) (fun r7 σ6 => if r7 = 0 then f_X5_judge_J66 y1 y2 σ6 else vI 160 ((40 * y1) + y2) (fun j8 => vC (f_X5_curtainIs y2 3 σ6) (fun r10 σ9 => if (σ6 60 j8) = r10 then vL (y2 + 1) (fun x11 => (f_X5_judge_L22 n) y1 x11 σ9) else f_X5_judge_J66 y1 y2 σ9)))) := rfl
def f_X5_judge (x1 : Int32) (σ : Mem) : Option (Int32 × Mem) := vC (f_X5_lacks x1 1 σ) (fun r2 σ1 => if r2 = 0 then vL (0 : Int32) (fun x3 => f_X5_judge_L22 FU x1 x3 σ1) else vC (f_X5_lacks x1 1 σ1) (fun r13 σ12 => vC (f_X5_finding r13 σ12) (fun r15 σ14 => some (r15, σ14))))
abbrev rm_X5_image : Room := { frames := 1, cells := 0, slots := 0, locals := 22 }
def f_X5_image  (σ : Mem) : Option (Int32 × Mem) := vC (f_X5_copyRow 51 52 σ) (fun _ σ1 => vW σ1 50 3 1 (fun σ2 => some (1, σ2)))
abbrev rm_X5_undo : Room := { frames := 1, cells := 0, slots := 0, locals := 22 }
def f_X5_undo  (σ : Mem) : Option (Int32 × Mem) := if (σ 50 3) = 0 then vC (f_X5_finding (-1000004) σ) (fun r4 σ3 => some (r4, σ3)) else vC (f_X5_copyRow 52 51 σ) (fun _ σ1 => vI 70 0 (fun j2 => some (σ1 51 j2, σ1)))
abbrev rm_X5_tear : Room := { frames := 0, cells := 0, slots := 0, locals := 0 }
def f_X5_tear_J12  (s0 : Int32) (σ : Mem) : Option (Int32 × Mem) := vL s0 (fun x1 => vW σ 50 3 0 (fun σ2 => some (x1, σ2)))
def f_X5_tear  (σ : Mem) : Option (Int32 × Mem) := if (σ 50 3) = 0 then f_X5_tear_J12 0 σ else f_X5_tear_J12 1 σ
abbrev rm_X5_count : Room := { frames := 3, cells := 0, slots := 0, locals := 65 }
def f_X5_count_J122 (k98 : Int32 → Int32 → Mem → Option (Int32 × Mem)) (y3 : Int32) (s0 : Int32) (s1 : Int32) (σ : Mem) : Option (Int32 × Mem) := vL (s0 + s1) (fun x13 => vL (y3 + 1) (fun x14 => k98 x13 x14 σ))
def f_X5_count_L98  : Nat → Int32 → Int32 → Mem → Option (Int32 × Mem)
  | 0 => fun _ _ _ => none
  | n + 1 => fun y2 y3 σ => if 10 ≤ y3 then some (y2, σ) else vI 70 (12 + y3) (fun j12 => if 0 ≤ (σ 51 j12) then f_X5_count_J122 (f_X5_count_L98 n) y3 y2 1 σ else f_X5_count_J122 (f_X5_count_L98 n) y3 y2 0 σ)
theorem f_X5_count_L98_s  (n : Nat) (y2 : Int32) (y3 : Int32) (σ : Mem) : f_X5_count_L98  (n + 1) y2 y3 σ = if 10 ≤ y3 then some (y2, σ) else vI 70 (12 + y3) (fun j12 => if 0 ≤ (σ 51 j12) then f_X5_count_J122 (f_X5_count_L98 n) y3 y2 1 σ else f_X5_count_J122 (f_X5_count_L98 n) y3 y2 0 σ) := rfl
def f_X5_count (x1 : Int32) (σ : Mem) : Option (Int32 × Mem) := vL (0 : Int32) (fun x1 => if x1 = 0 then vI 70 0 (fun j2 => some (σ 51 j2, σ)) else if x1 = 1 then vI 70 1 (fun j3 => some (σ 51 j3, σ)) else if x1 = 2 then vI 70 4 (fun j4 => some (σ 51 j4, σ)) else if x1 = 3 then vI 70 5 (fun j5 => some (σ 51 j5, σ)) else if x1 = 4 then vC (f_X5_downOnes σ) (fun r7 σ6 => vC (f_X5_bits r7 σ6) (fun r9 σ8 => some (r9, σ8))) else if x1 = 5 then some (σ 50 6, σ) else if x1 = 6 then vI 70 2 (fun j10 => some (σ 51 j10, σ)) else if x1 = 7 then vL (0 : Int32) (fun x11 => f_X5_count_L98 FU x1 x11 σ) else vC (f_X5_finding (-1000001) σ) (fun r16 σ15 => some (r16, σ15)))
abbrev rm_X5_status : Room := { frames := 1, cells := 0, slots := 0, locals := 22 }
def f_X5_status (x1 : Int32) (σ : Mem) : Option (Int32 × Mem) := vC (f_X5_within x1 (-1) 6 σ) (fun r2 σ1 => if r2 = 0 then vC (f_X5_finding (-1000001) σ1) (fun r4 σ3 => some (r4, σ3)) else vI 8 (x1 + 1) (fun j5 => some (σ1 54 j5, σ1)))
