/-- String.length, String.charAt of a String constant -/
def f_J0_length_8abf5 (a0 : Nat) (σ : Mem) : Option (Int32 × Mem) := some (Int32.ofNat (kLen.getD a0 0), σ)
def f_J0_charAt_5068e (a0 : Nat) (x1 : Int32) (σ : Mem) : Option (Int32 × Mem) := vI (kLen.getD a0 0) x1 (fun j => some ((((kByt.getD a0 []).getD j 0 &&& 255).toUInt32 % 65536).toInt32, σ))
abbrev rm_J0_length_8abf5 : Room := { frames := 1, cells := 0, slots := 0, locals := 20 }
abbrev rm_J0_charAt_5068e : Room := { frames := 3, cells := 0, slots := 0, locals := 67 }
abbrev rm_J6_bitCount_0f7a4 : Room := { frames := 0, cells := 0, slots := 0, locals := 0 }
def f_J6_bitCount_0f7a4 (x0 : Int32) (σ : Mem) : Option (Int32 × Mem) := vL (x0 - (((x0.toUInt32 >>> ((1 : Int32).toUInt32 &&& Int32.toUInt32 31)).toInt32) &&& (1431655765))) (fun x1 => vL ((x1 &&& (858993459)) + (((x1.toUInt32 >>> ((2 : Int32).toUInt32 &&& Int32.toUInt32 31)).toInt32) &&& (858993459))) (fun x2 => vL ((x2 + ((x2.toUInt32 >>> ((4 : Int32).toUInt32 &&& Int32.toUInt32 31)).toInt32)) &&& (252645135)) (fun x3 => vL (x3 + ((x3.toUInt32 >>> ((8 : Int32).toUInt32 &&& Int32.toUInt32 31)).toInt32)) (fun x4 => vL (x4 + ((x4.toUInt32 >>> ((16 : Int32).toUInt32 &&& Int32.toUInt32 31)).toInt32)) (fun x5 => some (x5 &&& 63, σ))))))
abbrev rm_X0_beNew : Room := { frames := 0, cells := 0, slots := 0, locals := 0 }
def f_X0_beNew (a0 : Nat) (x1 : Int32) (σ : Mem) : Option (Unit × Mem) := vW σ a0 0 x1 (fun σ1 => vW σ1 a0 1 60 (fun σ2 => vW σ2 a0 2 0 (fun σ3 => vW σ3 a0 3 20 (fun σ4 => vW σ4 a0 4 0 (fun σ5 => vW σ5 a0 5 0 (fun σ6 => some ((), σ6)))))))
abbrev rm_X0_take : Room := { frames := 0, cells := 0, slots := 0, locals := 0 }
def f_X0_take (a0 : Nat) (a1 : Nat) (σ : Mem) : Option (Unit × Mem) := vW σ a0 0 (σ a1 0) (fun σ1 => vW σ1 a0 1 (σ1 a1 1) (fun σ2 => vW σ2 a0 2 (σ2 a1 2) (fun σ3 => vW σ3 a0 3 (σ3 a1 3) (fun σ4 => vW σ4 a0 4 (σ4 a1 4) (fun σ5 => vW σ5 a0 5 (σ5 a1 5) (fun σ6 => some ((), σ6)))))))
abbrev rm_X0_gladdens : Room := { frames := 1, cells := 0, slots := 0, locals := 20 }
def f_X0_gladdens (a0 : Nat) (σ : Mem) : Option (Int32 × Mem) := if (σ a0 0) = 4 then vI 7 (σ a0 0) (fun j2 => vC (f_J6_bitCount_0f7a4 (σ a0 2) σ) (fun r4 σ3 => some (((sTab 0).getD j2 0) + r4, σ3))) else vI 7 (σ a0 0) (fun j1 => some ((sTab 0).getD j1 0, σ))
abbrev rm_X0_tires : Room := { frames := 0, cells := 0, slots := 0, locals := 0 }
def f_X0_tires_J34  (b0 : Nat) (y1 : Int32) (σ : Mem) : Option (Int32 × Mem) := vI 7 (σ b0 0) (fun j1 => some (((sTab 1).getD j1 0) + (y1 &&& 1), σ))
def f_X0_tires_J18  (b0 : Nat) (y1 : Int32) (σ : Mem) : Option (Int32 × Mem) := if (σ b0 0) = 3 then f_X0_tires_J34 b0 y1 σ else if (σ b0 0) = 4 then f_X0_tires_J34 b0 y1 σ else vI 7 (σ b0 0) (fun j2 => some ((sTab 1).getD j2 0, σ))
def f_X0_tires (a0 : Nat) (x1 : Int32) (σ : Mem) : Option (Int32 × Mem) := if (σ a0 0) = 6 then if (σ a0 3) = 0 then some (0, σ) else f_X0_tires_J18 a0 x1 σ else f_X0_tires_J18 a0 x1 σ
abbrev rm_X0_bears : Room := { frames := 0, cells := 0, slots := 0, locals := 0 }
def f_X0_bears (a0 : Nat) (σ : Mem) : Option (Int32 × Mem) := vI 7 (σ a0 0) (fun j1 => some ((sTab 2).getD j1 0, σ))
abbrev rm_X0_falls : Room := { frames := 0, cells := 0, slots := 0, locals := 0 }
def f_X0_falls_J28  (b0 : Nat) (σ : Mem) : Option (Int32 × Mem) := vI 7 (σ b0 0) (fun j1 => some ((sTab 3).getD j1 0, σ))
def f_X0_falls (a0 : Nat) (x1 : Int32) (σ : Mem) : Option (Int32 × Mem) := if (σ a0 0) = 6 then if x1 = 1 then vI 7 (σ a0 0) (fun j2 => some (((sTab 3).getD j2 0) + 6, σ)) else f_X0_falls_J28 a0 σ else f_X0_falls_J28 a0 σ
abbrev rm_X0_rises : Room := { frames := 0, cells := 0, slots := 0, locals := 0 }
def f_X0_rises (a0 : Nat) (σ : Mem) : Option (Int32 × Mem) := vI 7 (σ a0 0) (fun j1 => some ((sTab 4).getD j1 0, σ))
abbrev rm_X0_tell : Room := { frames := 2, cells := 0, slots := 0, locals := 40 }
def f_X0_tell (a0 : Nat) (x1 : Int32) (x2 : Int32) (x3 : Int32) (σ : Mem) : Option (Int32 × Mem) := if x1 = 0 then some (σ a0 0, σ) else if x1 = 1 then some (σ a0 1, σ) else if x1 = 2 then some (σ a0 2, σ) else if x1 = 3 then some (σ a0 3, σ) else if x1 = 4 then some (σ a0 4, σ) else if x1 = 5 then some (σ a0 5, σ) else if x1 = 6 then vC (f_X0_gladdens a0 σ) (fun r2 σ1 => some (r2, σ1)) else if x1 = 7 then vC (f_X0_tires a0 x2 σ) (fun r4 σ3 => some (r4, σ3)) else if x1 = 8 then vC (f_X0_bears a0 σ) (fun r6 σ5 => some (r6, σ5)) else if x1 = 9 then vC (f_X0_falls a0 x3 σ) (fun r8 σ7 => some (r8, σ7)) else vC (f_X0_rises a0 σ) (fun r10 σ9 => some (r10, σ9))
abbrev rm_X0_set : Room := { frames := 0, cells := 0, slots := 0, locals := 0 }
def f_X0_set (a0 : Nat) (x1 : Int32) (x2 : Int32) (σ : Mem) : Option (Unit × Mem) := if x1 = 0 then vW σ a0 0 x2 (fun σ1 => some ((), σ1)) else if x1 = 1 then vW σ a0 1 x2 (fun σ2 => some ((), σ2)) else if x1 = 2 then vW σ a0 2 x2 (fun σ3 => some ((), σ3)) else if x1 = 3 then vW σ a0 3 x2 (fun σ4 => some ((), σ4)) else if x1 = 4 then vW σ a0 4 x2 (fun σ5 => some ((), σ5)) else vW σ a0 5 x2 (fun σ6 => some ((), σ6))
abbrev rm_X0_countsAs : Room := { frames := 0, cells := 0, slots := 0, locals := 0 }
def f_X0_countsAs (a0 : Nat) (x1 : Int32) (σ : Mem) : Option (Int32 × Mem) := vI 7 (σ a0 0) (fun j1 => if ((((sTab 5).getD j1 0) >>> (x1 &&& 31)) &&& 1) = 1 then some (1, σ) else some (0, σ))
abbrev rm_X0_getPulled : Room := { frames := 1, cells := 0, slots := 0, locals := 20 }
def f_X0_getPulled (a0 : Nat) (x1 : Int32) (σ : Mem) : Option (Unit × Mem) := vC (f_X0_rises a0 σ) (fun r2 σ1 => vW σ1 a0 3 (if (((σ a0 3) + (x1 / 10)) + r2) < 20 then (((σ a0 3) + (x1 / 10)) + r2) else 20) (fun σ3 => vW σ3 a0 1 (if 0 < ((σ3 a0 1) - (x1 / 5)) then ((σ3 a0 1) - (x1 / 5)) else 0) (fun σ4 => some ((), σ4))))
abbrev rm_X0_feel : Room := { frames := 2, cells := 0, slots := 0, locals := 40 }
def f_X0_feel (a0 : Nat) (x1 : Int32) (σ : Mem) : Option (Unit × Mem) := if (((σ a0 2) >>> (x1 &&& 31)) &&& 1) = 1 then vC (f_X0_gladdens a0 σ) (fun r5 σ4 => vW σ4 a0 1 (if ((σ a0 1) + r5) < 99 then ((σ a0 1) + r5) else 99) (fun σ6 => some ((), σ6))) else vC (f_X0_tires a0 x1 σ) (fun r2 σ1 => vW σ1 a0 1 (if 0 < ((σ a0 1) - r2) then ((σ a0 1) - r2) else 0) (fun σ3 => some ((), σ3)))
abbrev rm_X0_comeDown : Room := { frames := 1, cells := 0, slots := 0, locals := 14 }
def f_X0_comeDown (a0 : Nat) (x1 : Int32) (σ : Mem) : Option (Unit × Mem) := vW σ a0 5 (if ((σ a0 5) + 1) < 9999 then ((σ a0 5) + 1) else 9999) (fun σ1 => if x1 = 0 then vW σ1 a0 1 (if ((σ1 a0 1) + 25) < 99 then ((σ1 a0 1) + 25) else 99) (fun σ2 => some ((), σ2)) else some ((), σ1))
abbrev rm_X0_passBeat : Room := { frames := 3, cells := 0, slots := 0, locals := 61 }
def f_X0_passBeat_J99  (b0 : Nat) (y2 : Int32) (s0 : Int32) (σ : Mem) : Option (Int32 × Mem) := vL s0 (fun x6 => if x6 = 0 then vB x6 (some (x6, σ)) else vC (f_X0_comeDown b0 y2 σ) (fun _ σ7 => vB x6 (some (x6, σ7))))
def f_X0_passBeat_J98  (b0 : Nat) (y2 : Int32) (σ : Mem) : Option (Int32 × Mem) := f_X0_passBeat_J99 b0 y2 0 σ
def f_X0_passBeat_J83  (b0 : Nat) (y2 : Int32) (y3 : Int32) (σ : Mem) : Option (Int32 × Mem) := if y3 = 0 then f_X0_passBeat_J98 b0 y2 σ else if (σ b0 3) = 0 then f_X0_passBeat_J99 b0 y2 1 σ else f_X0_passBeat_J98 b0 y2 σ
def f_X0_passBeat_J44  (b0 : Nat) (y2 : Int32) (y3 : Int32) (σ : Mem) : Option (Int32 × Mem) := vC (f_X0_falls b0 y2 σ) (fun r4 σ3 => vW σ3 b0 3 (if 0 < ((σ b0 3) - r4) then ((σ b0 3) - r4) else 0) (fun σ5 => f_X0_passBeat_J83 b0 y2 y3 σ5))
def f_X0_passBeat_J27  (b0 : Nat) (y2 : Int32) (s0 : Int32) (σ : Mem) : Option (Int32 × Mem) := vL s0 (fun x2 => if y2 = 1 then f_X0_passBeat_J44 b0 y2 x2 σ else vC (f_X0_bears b0 σ) (fun r9 σ8 => if r9 ≤ (σ b0 1) then vC (f_X0_rises b0 σ8) (fun r11 σ10 => vW σ10 b0 3 (if ((σ8 b0 3) + r11) < 20 then ((σ8 b0 3) + r11) else 20) (fun σ12 => f_X0_passBeat_J83 b0 y2 x2 σ12)) else f_X0_passBeat_J44 b0 y2 x2 σ8))
def f_X0_passBeat (a0 : Nat) (x1 : Int32) (x2 : Int32) (σ : Mem) : Option (Int32 × Mem) := vC (f_X0_feel a0 x1 σ) (fun _ σ1 => if (σ1 a0 4) = 1 then some (0, σ1) else if (σ1 a0 3) ≤ 0 then f_X0_passBeat_J27 a0 x2 0 σ1 else f_X0_passBeat_J27 a0 x2 1 σ1)
abbrev rm_X1_take : Room := { frames := 1, cells := 0, slots := 0, locals := 21 }
def f_X1_take_L80  : Nat → Nat → Nat → Int32 → Mem → Option (Unit × Mem)
  | 0 => fun _ _ _ _ => none
  | n + 1 => fun b0 b1 y2 σ => if (σ b0 5) ≤ y2 then some ((), σ) else vI 8 y2 (fun j10 => vI 8 y2 (fun j11 => vC (f_X0_take (b0 + 3 + 1 + j10) (b1 + 3 + 1 + j11) σ) (fun _ σ12 => vL (y2 + 1) (fun x13 => (f_X1_take_L80 n) b0 b1 x13 σ12))))
theorem f_X1_take_L80_s  (n : Nat) (b0 : Nat) (b1 : Nat) (y2 : Int32) (σ : Mem) : f_X1_take_L80  (n + 1) b0 b1 y2 σ = if (σ b0 5) ≤ y2 then some ((), σ) else vI 8 y2 (fun j10 => vI 8 y2 (fun j11 => vC (f_X0_take (b0 + 3 + 1 + j10) (b1 + 3 + 1 + j11) σ) (fun _ σ12 => vL (y2 + 1) (fun x13 => (f_X1_take_L80 n) b0 b1 x13 σ12)))) := rfl
def f_X1_take (a0 : Nat) (a1 : Nat) (σ : Mem) : Option (Unit × Mem) := vW σ a0 0 (σ a1 0) (fun σ1 => vW σ1 a0 1 (σ1 a1 1) (fun σ2 => vW σ2 a0 2 (σ2 a1 2) (fun σ3 => vW σ3 a0 3 (σ3 a1 3) (fun σ4 => vW σ4 a0 4 (σ4 a1 4) (fun σ5 => vW σ5 a0 5 (σ5 a1 5) (fun σ6 => vY σ6 (a1 + 1) (a0 + 1) 6 6 0 0 6 (fun σ7 => vY σ7 (a1 + 2) (a0 + 2) 10 10 0 0 10 (fun σ8 => vL (0 : Int32) (fun x9 => f_X1_take_L80 FU a0 a1 x9 σ8)))))))))
abbrev rm_X1_isFull : Room := { frames := 0, cells := 0, slots := 0, locals := 0 }
def f_X1_isFull (a0 : Nat) (σ : Mem) : Option (Int32 × Mem) := if (σ a0 5) < 8 then some (0, σ) else some (1, σ)
abbrev rm_X1_hang : Room := { frames := 1, cells := 0, slots := 0, locals := 21 }
def f_X1_hang (a0 : Nat) (x1 : Int32) (σ : Mem) : Option (Nat × Mem) := vI 8 (σ a0 5) (fun j1 => vC (f_X0_beNew (a0 + 3 + 1 + j1) x1 σ) (fun _ σ2 => vW σ2 a0 5 ((σ2 a0 5) + 1) (fun σ3 => some (a0 + 3 + 1 + j1, σ3))))
abbrev rm_X1_placeIn : Room := { frames := 1, cells := 0, slots := 0, locals := 13 }
def f_X1_placeIn (a0 : Nat) (x1 : Int32) (σ : Mem) : Option (Int32 × Mem) := some ((if ((σ a0 3) + x1) < (99999) then ((σ a0 3) + x1) else (99999)) - (if ((σ a0 3) + x1) < (99999) then ((σ a0 3) + x1) else (99999)) / 6 * 6, σ)
abbrev rm_X1_sceneIn : Room := { frames := 2, cells := 0, slots := 0, locals := 34 }
def f_X1_sceneIn (a0 : Nat) (x1 : Int32) (σ : Mem) : Option (Int32 × Mem) := vC (f_X1_placeIn a0 x1 σ) (fun r2 σ1 => vI 6 r2 (fun j3 => some (σ1 (a0 + 1) j3, σ1)))
abbrev rm_X1_tellDown : Room := { frames := 1, cells := 0, slots := 0, locals := 14 }
def f_X1_tellDown (a0 : Nat) (σ : Mem) : Option (Unit × Mem) := if (σ a0 0) = 1 then vW σ a0 2 (if ((σ a0 2) + 100) < 900 then ((σ a0 2) + 100) else 900) (fun σ2 => some ((), σ2)) else vW σ a0 1 (if ((σ a0 1) + 1) < (99999) then ((σ a0 1) + 1) else (99999)) (fun σ1 => some ((), σ1))
abbrev rm_X1_passBeat : Room := { frames := 4, cells := 0, slots := 0, locals := 85 }
def f_X1_passBeat_J37 (k8 : Nat → Int32 → Int32 → Mem → Option (Unit × Mem)) (b0 : Nat) (y1 : Int32) (y2 : Int32) (σ : Mem) : Option (Unit × Mem) := vL (y2 + 1) (fun x9 => k8 b0 y1 x9 σ)
def f_X1_passBeat_L8  : Nat → Nat → Int32 → Int32 → Mem → Option (Unit × Mem)
  | 0 => fun _ _ _ _ => none
  | n + 1 => fun b0 y1 y2 σ => if (σ b0 5) ≤ y2 then vW σ b0 3 (if ((σ b0 3) + 1) < (99999) then ((σ b0 3) + 1) else (99999)) (fun σ5 => some ((), σ5)) else vI 8 y2 (fun j6 => vC (f_X0_passBeat (b0 + 3 + 1 + j6) y1 (σ b0 0) σ) (fun r8 σ7 => if r8 = 0 then f_X1_passBeat_J37 (f_X1_passBeat_L8 n) b0 y1 y2 σ7 else vC (f_X1_tellDown b0 σ7) (fun _ σ10 => f_X1_passBeat_J37 (f_X1_passBeat_L8 n) b0 y1 y2 σ10)))
theorem f_X1_passBeat_L8_s  (n : Nat) (b0 : Nat) (y1 : Int32) (y2 : Int32) (σ : Mem) : f_X1_passBeat_L8  (n + 1) b0 y1 y2 σ = if (σ b0 5) ≤ y2 then vW σ b0 3 (if ((σ b0 3) + 1) < (99999) then ((σ b0 3) + 1) else (99999)) (fun σ5 => some ((), σ5)) else vI 8 y2 (fun j6 => vC (f_X0_passBeat (b0 + 3 + 1 + j6) y1 (σ b0 0) σ) (fun r8 σ7 => if r8 = 0 then f_X1_passBeat_J37 (f_X1_passBeat_L8 n) b0 y1 y2 σ7 else vC (f_X1_tellDown b0 σ7) (fun _ σ10 => f_X1_passBeat_J37 (f_X1_passBeat_L8 n) b0 y1 y2 σ10))) := rfl
def f_X1_passBeat (a0 : Nat) (σ : Mem) : Option (Unit × Mem) := vC (f_X1_sceneIn a0 0 σ) (fun r2 σ1 => vL r2 (fun x3 => vL (0 : Int32) (fun x4 => f_X1_passBeat_L8 FU a0 x3 x4 σ1)))
abbrev rm_X1_passBeats : Room := { frames := 5, cells := 0, slots := 0, locals := 107 }
def f_X1_passBeats_L2  : Nat → Nat → Int32 → Int32 → Mem → Option (Unit × Mem)
  | 0 => fun _ _ _ _ => none
  | n + 1 => fun b0 y1 y2 σ => if y1 ≤ y2 then some ((), σ) else vC (f_X1_passBeat b0 σ) (fun _ σ2 => vL (y2 + 1) (fun x3 => (f_X1_passBeats_L2 n) b0 y1 x3 σ2))
theorem f_X1_passBeats_L2_s  (n : Nat) (b0 : Nat) (y1 : Int32) (y2 : Int32) (σ : Mem) : f_X1_passBeats_L2  (n + 1) b0 y1 y2 σ = if y1 ≤ y2 then some ((), σ) else vC (f_X1_passBeat b0 σ) (fun _ σ2 => vL (y2 + 1) (fun x3 => (f_X1_passBeats_L2 n) b0 y1 x3 σ2)) := rfl
def f_X1_passBeats (a0 : Nat) (x1 : Int32) (σ : Mem) : Option (Unit × Mem) := vL (0 : Int32) (fun x1 => f_X1_passBeats_L2 FU a0 x1 x1 σ)
abbrev rm_X1_draw : Room := { frames := 0, cells := 0, slots := 0, locals := 0 }
def f_X1_draw (a0 : Nat) (σ : Mem) : Option (Int32 × Mem) := vW σ a0 4 (((σ a0 4) * (1103515245)) + 12345) (fun σ1 => some (((σ1 a0 4).toUInt32 >>> ((8 : Int32).toUInt32 &&& Int32.toUInt32 31)).toInt32, σ1))
abbrev rm_X1_thoseDown : Room := { frames := 0, cells := 0, slots := 0, locals := 0 }
def f_X1_thoseDown_J32 (k4 : Nat → Int32 → Int32 → Mem → Option (Int32 × Mem)) (b0 : Nat) (y2 : Int32) (s0 : Int32) (s1 : Int32) (σ : Mem) : Option (Int32 × Mem) := vL (s0 ||| s1) (fun x4 => vL (y2 + 1) (fun x5 => k4 b0 x4 x5 σ))
def f_X1_thoseDown_L4  : Nat → Nat → Int32 → Int32 → Mem → Option (Int32 × Mem)
  | 0 => fun _ _ _ _ => none
  | n + 1 => fun b0 y1 y2 σ => if (σ b0 5) ≤ y2 then some (y1, σ) else vI 8 y2 (fun j3 => if (σ (b0 + 3 + 1 + j3) 3) = 0 then f_X1_thoseDown_J32 (f_X1_thoseDown_L4 n) b0 y2 y1 (1 <<< (y2 &&& 31)) σ else f_X1_thoseDown_J32 (f_X1_thoseDown_L4 n) b0 y2 y1 0 σ)
theorem f_X1_thoseDown_L4_s  (n : Nat) (b0 : Nat) (y1 : Int32) (y2 : Int32) (σ : Mem) : f_X1_thoseDown_L4  (n + 1) b0 y1 y2 σ = if (σ b0 5) ≤ y2 then some (y1, σ) else vI 8 y2 (fun j3 => if (σ (b0 + 3 + 1 + j3) 3) = 0 then f_X1_thoseDown_J32 (f_X1_thoseDown_L4 n) b0 y2 y1 (1 <<< (y2 &&& 31)) σ else f_X1_thoseDown_J32 (f_X1_thoseDown_L4 n) b0 y2 y1 0 σ) := rfl
def f_X1_thoseDown (a0 : Nat) (σ : Mem) : Option (Int32 × Mem) := vL (0 : Int32) (fun x1 => vL (0 : Int32) (fun x2 => f_X1_thoseDown_L4 FU a0 x1 x2 σ))
abbrev rm_X1_thoseWeary : Room := { frames := 1, cells := 0, slots := 0, locals := 20 }
def f_X1_thoseWeary_J41 (k4 : Nat → Int32 → Int32 → Mem → Option (Int32 × Mem)) (b0 : Nat) (y2 : Int32) (s0 : Int32) (s1 : Int32) (σ : Mem) : Option (Int32 × Mem) := vL (s0 ||| s1) (fun x7 => vL (y2 + 1) (fun x8 => k4 b0 x7 x8 σ))
def f_X1_thoseWeary_L4  : Nat → Nat → Int32 → Int32 → Mem → Option (Int32 × Mem)
  | 0 => fun _ _ _ _ => none
  | n + 1 => fun b0 y1 y2 σ => if (σ b0 5) ≤ y2 then some (y1, σ) else vI 8 y2 (fun j3 => vI 8 y2 (fun j4 => vC (f_X0_bears (b0 + 3 + 1 + j4) σ) (fun r6 σ5 => if r6 ≤ (σ (b0 + 3 + 1 + j3) 1) then f_X1_thoseWeary_J41 (f_X1_thoseWeary_L4 n) b0 y2 y1 0 σ5 else f_X1_thoseWeary_J41 (f_X1_thoseWeary_L4 n) b0 y2 y1 (1 <<< (y2 &&& 31)) σ5)))
theorem f_X1_thoseWeary_L4_s  (n : Nat) (b0 : Nat) (y1 : Int32) (y2 : Int32) (σ : Mem) : f_X1_thoseWeary_L4  (n + 1) b0 y1 y2 σ = if (σ b0 5) ≤ y2 then some (y1, σ) else vI 8 y2 (fun j3 => vI 8 y2 (fun j4 => vC (f_X0_bears (b0 + 3 + 1 + j4) σ) (fun r6 σ5 => if r6 ≤ (σ (b0 + 3 + 1 + j3) 1) then f_X1_thoseWeary_J41 (f_X1_thoseWeary_L4 n) b0 y2 y1 0 σ5 else f_X1_thoseWeary_J41 (f_X1_thoseWeary_L4 n) b0 y2 y1 (1 <<< (y2 &&& 31)) σ5))) := rfl
def f_X1_thoseWeary (a0 : Nat) (σ : Mem) : Option (Int32 × Mem) := vL (0 : Int32) (fun x1 => vL (0 : Int32) (fun x2 => f_X1_thoseWeary_L4 FU a0 x1 x2 σ))
abbrev rm_X1_allMoods : Room := { frames := 0, cells := 0, slots := 0, locals := 0 }
def f_X1_allMoods_L4  : Nat → Nat → Int32 → Int32 → Mem → Option (Int32 × Mem)
  | 0 => fun _ _ _ _ => none
  | n + 1 => fun b0 y1 y2 σ => if (σ b0 5) ≤ y2 then some (y1, σ) else vI 8 y2 (fun j3 => vL (y1 + (σ (b0 + 3 + 1 + j3) 1)) (fun x4 => vL (y2 + 1) (fun x5 => (f_X1_allMoods_L4 n) b0 x4 x5 σ)))
theorem f_X1_allMoods_L4_s  (n : Nat) (b0 : Nat) (y1 : Int32) (y2 : Int32) (σ : Mem) : f_X1_allMoods_L4  (n + 1) b0 y1 y2 σ = if (σ b0 5) ≤ y2 then some (y1, σ) else vI 8 y2 (fun j3 => vL (y1 + (σ (b0 + 3 + 1 + j3) 1)) (fun x4 => vL (y2 + 1) (fun x5 => (f_X1_allMoods_L4 n) b0 x4 x5 σ))) := rfl
def f_X1_allMoods (a0 : Nat) (σ : Mem) : Option (Int32 × Mem) := vL (0 : Int32) (fun x1 => vL (0 : Int32) (fun x2 => f_X1_allMoods_L4 FU a0 x1 x2 σ))
abbrev rm_X1_allLikes : Room := { frames := 0, cells := 0, slots := 0, locals := 0 }
def f_X1_allLikes_L4  : Nat → Nat → Int32 → Int32 → Mem → Option (Int32 × Mem)
  | 0 => fun _ _ _ _ => none
  | n + 1 => fun b0 y1 y2 σ => if (σ b0 5) ≤ y2 then some (y1, σ) else vI 8 y2 (fun j3 => vL (y1 ||| (σ (b0 + 3 + 1 + j3) 2)) (fun x4 => vL (y2 + 1) (fun x5 => (f_X1_allLikes_L4 n) b0 x4 x5 σ)))
theorem f_X1_allLikes_L4_s  (n : Nat) (b0 : Nat) (y1 : Int32) (y2 : Int32) (σ : Mem) : f_X1_allLikes_L4  (n + 1) b0 y1 y2 σ = if (σ b0 5) ≤ y2 then some (y1, σ) else vI 8 y2 (fun j3 => vL (y1 ||| (σ (b0 + 3 + 1 + j3) 2)) (fun x4 => vL (y2 + 1) (fun x5 => (f_X1_allLikes_L4 n) b0 x4 x5 σ))) := rfl
def f_X1_allLikes (a0 : Nat) (σ : Mem) : Option (Int32 × Mem) := vL (0 : Int32) (fun x1 => vL (0 : Int32) (fun x2 => f_X1_allLikes_L4 FU a0 x1 x2 σ))
abbrev rm_X1_isPleasedBy : Room := { frames := 0, cells := 0, slots := 0, locals := 0 }
def f_X1_isPleasedBy_J32 (k2 : Nat → Int32 → Int32 → Mem → Option (Int32 × Mem)) (b0 : Nat) (y1 : Int32) (y2 : Int32) (σ : Mem) : Option (Int32 × Mem) := vL (y2 + 1) (fun x4 => k2 b0 y1 x4 σ)
def f_X1_isPleasedBy_L2  : Nat → Nat → Int32 → Int32 → Mem → Option (Int32 × Mem)
  | 0 => fun _ _ _ _ => none
  | n + 1 => fun b0 y1 y2 σ => if (σ b0 5) ≤ y2 then some (1, σ) else vI 8 y2 (fun j2 => vL (σ (b0 + 3 + 1 + j2) 2) (fun x3 => if x3 = 0 then f_X1_isPleasedBy_J32 (f_X1_isPleasedBy_L2 n) b0 y1 y2 σ else if (x3 &&& y1) = 0 then some (0, σ) else f_X1_isPleasedBy_J32 (f_X1_isPleasedBy_L2 n) b0 y1 y2 σ))
theorem f_X1_isPleasedBy_L2_s  (n : Nat) (b0 : Nat) (y1 : Int32) (y2 : Int32) (σ : Mem) : f_X1_isPleasedBy_L2  (n + 1) b0 y1 y2 σ = if (σ b0 5) ≤ y2 then some (1, σ) else vI 8 y2 (fun j2 => vL (σ (b0 + 3 + 1 + j2) 2) (fun x3 => if x3 = 0 then f_X1_isPleasedBy_J32 (f_X1_isPleasedBy_L2 n) b0 y1 y2 σ else if (x3 &&& y1) = 0 then some (0, σ) else f_X1_isPleasedBy_J32 (f_X1_isPleasedBy_L2 n) b0 y1 y2 σ)) := rfl
def f_X1_isPleasedBy (a0 : Nat) (x1 : Int32) (σ : Mem) : Option (Int32 × Mem) := vL (0 : Int32) (fun x1 => f_X1_isPleasedBy_L2 FU a0 x1 x1 σ)
abbrev rm_X1_heldSpots : Room := { frames := 0, cells := 0, slots := 0, locals := 0 }
def f_X1_heldSpots_J37 (k13 : Int32 → Nat → Int32 → Int32 → Mem → Option (Int32 × Mem)) (b2 : Nat) (y3 : Int32) (y4 : Int32) (s0 : Int32) (s1 : Int32) (σ : Mem) : Option (Int32 × Mem) := vL (s0 + s1) (fun x6 => vL (y4 + 1) (fun x7 => k13 x6 b2 y3 x7 σ))
def f_X1_heldSpots_L13  : Nat → Int32 → Nat → Int32 → Int32 → Mem → Option (Int32 × Mem)
  | 0 => fun _ _ _ _ _ => none
  | n + 1 => fun y1 b2 y3 y4 σ => if y3 ≤ y4 then some (y1, σ) else vI 10 y4 (fun j4 => vL (σ b2 j4) (fun x5 => if x5 = (-1) then f_X1_heldSpots_J37 (f_X1_heldSpots_L13 n) b2 y3 y4 y1 0 σ else f_X1_heldSpots_J37 (f_X1_heldSpots_L13 n) b2 y3 y4 y1 1 σ))
theorem f_X1_heldSpots_L13_s  (n : Nat) (y1 : Int32) (b2 : Nat) (y3 : Int32) (y4 : Int32) (σ : Mem) : f_X1_heldSpots_L13  (n + 1) y1 b2 y3 y4 σ = if y3 ≤ y4 then some (y1, σ) else vI 10 y4 (fun j4 => vL (σ b2 j4) (fun x5 => if x5 = (-1) then f_X1_heldSpots_J37 (f_X1_heldSpots_L13 n) b2 y3 y4 y1 0 σ else f_X1_heldSpots_J37 (f_X1_heldSpots_L13 n) b2 y3 y4 y1 1 σ)) := rfl
def f_X1_heldSpots (a0 : Nat) (σ : Mem) : Option (Int32 × Mem) := vL (0 : Int32) (fun x1 => vL (10 : Int32) (fun x2 => vL (0 : Int32) (fun x3 => f_X1_heldSpots_L13 FU x1 (a0 + 2) x2 x3 σ)))
abbrev rm_X2_isMissing : Room := { frames := 0, cells := 0, slots := 0, locals := 0 }
def f_X2_isMissing (a0 : Nat) (σ : Mem) : Option (Int32 × Mem) := if (σ a0 0) = 0 then some (1, σ) else some (0, σ)
abbrev rm_X2_lay : Room := { frames := 0, cells := 0, slots := 0, locals := 0 }
def f_X2_lay_L12  : Nat → Nat → Int32 → Int32 → Mem → Option (Unit × Mem)
  | 0 => fun _ _ _ _ => none
  | n + 1 => fun b0 y2 y3 σ => if y2 ≤ y3 then some ((), σ) else vI 40 y3 (fun j4 => vW σ (b0 + 1) j4 0 (fun σ5 => vL (y3 + 1) (fun x6 => (f_X2_lay_L12 n) b0 y2 x6 σ5)))
theorem f_X2_lay_L12_s  (n : Nat) (b0 : Nat) (y2 : Int32) (y3 : Int32) (σ : Mem) : f_X2_lay_L12  (n + 1) b0 y2 y3 σ = if y2 ≤ y3 then some ((), σ) else vI 40 y3 (fun j4 => vW σ (b0 + 1) j4 0 (fun σ5 => vL (y3 + 1) (fun x6 => (f_X2_lay_L12 n) b0 y2 x6 σ5))) := rfl
def f_X2_lay (a0 : Nat) (x1 : Int32) (x2 : Int32) (σ : Mem) : Option (Unit × Mem) := vW σ a0 0 x1 (fun σ1 => vW σ1 a0 1 x2 (fun σ2 => vL (0 : Int32) (fun x3 => f_X2_lay_L12 FU a0 x2 x3 σ2)))
abbrev rm_X2_put : Room := { frames := 0, cells := 0, slots := 0, locals := 0 }
def f_X2_put (a0 : Nat) (x1 : Int32) (x2 : Int32) (σ : Mem) : Option (Unit × Mem) := if (σ a0 0) = 8 then vI 40 x1 (fun j5 => vW σ (a0 + 1) j5 x2.toInt8.toInt32 (fun σ6 => some ((), σ6))) else if (σ a0 0) = 16 then vI 40 x1 (fun j3 => vW σ (a0 + 1) j3 x2.toInt16.toInt32 (fun σ4 => some ((), σ4))) else vI 40 x1 (fun j1 => vW σ (a0 + 1) j1 x2 (fun σ2 => some ((), σ2)))
abbrev rm_X2_has : Room := { frames := 0, cells := 0, slots := 0, locals := 0 }
def f_X2_has (a0 : Nat) (x1 : Int32) (x2 : Int32) (σ : Mem) : Option (Int32 × Mem) := if x2 < 0 then some (0, σ) else if x1 < 0 then some (0, σ) else if ((σ a0 1) - x2) < x1 then some (0, σ) else some (1, σ)
abbrev rm_X3_add : Room := { frames := 0, cells := 0, slots := 0, locals := 0 }
def f_X3_add (x1 : Int32) (σ : Mem) : Option (Unit × Mem) := if 120 ≤ (σ 38 1) then some ((), σ) else vI 120 (σ 38 1) (fun j1 => vW σ 39 j1 (vp_nar .byte x1) (fun σ2 => vW σ2 38 1 ((σ2 38 1) + 1) (fun σ3 => some ((), σ3))))
abbrev rm_X3_valueAtHand : Room := { frames := 1, cells := 0, slots := 0, locals := 13 }
def f_X3_valueAtHand_L7  : Nat → Int32 → Int32 → Mem → Option (Int32 × Mem)
  | 0 => fun _ _ _ => none
  | n + 1 => fun y1 y2 σ => if (σ 38 4) ≤ y2 then some (y1, σ) else vI 120 y2 (fun j3 => vL (if (((y1 * 10) + (σ 39 j3)) - 48) < 10000 then (((y1 * 10) + (σ 39 j3)) - 48) else 10000) (fun x4 => vL (y2 + 1) (fun x5 => (f_X3_valueAtHand_L7 n) x4 x5 σ)))
theorem f_X3_valueAtHand_L7_s  (n : Nat) (y1 : Int32) (y2 : Int32) (σ : Mem) : f_X3_valueAtHand_L7  (n + 1) y1 y2 σ = if (σ 38 4) ≤ y2 then some (y1, σ) else vI 120 y2 (fun j3 => vL (if (((y1 * 10) + (σ 39 j3)) - 48) < 10000 then (((y1 * 10) + (σ 39 j3)) - 48) else 10000) (fun x4 => vL (y2 + 1) (fun x5 => (f_X3_valueAtHand_L7 n) x4 x5 σ))) := rfl
def f_X3_valueAtHand  (σ : Mem) : Option (Int32 × Mem) := vL (0 : Int32) (fun x1 => vL (σ 38 3) (fun x2 => f_X3_valueAtHand_L7 FU x1 x2 σ))
abbrev rm_X3_tokenBegunBy : Room := { frames := 0, cells := 0, slots := 0, locals := 0 }
def f_X3_tokenBegunBy_J28  (y0 : Int32) (σ : Mem) : Option (Int32 × Mem) := if y0 = 59 then some (2, σ) else some (4, σ)
def f_X3_tokenBegunBy_J14  (y0 : Int32) (σ : Mem) : Option (Int32 × Mem) := if y0 < 48 then f_X3_tokenBegunBy_J28 y0 σ else if 57 < y0 then f_X3_tokenBegunBy_J28 y0 σ else some (1, σ)
def f_X3_tokenBegunBy (x0 : Int32) (σ : Mem) : Option (Int32 × Mem) := if x0 < 97 then f_X3_tokenBegunBy_J14 x0 σ else if 122 < x0 then f_X3_tokenBegunBy_J14 x0 σ else some (0, σ)
abbrev rm_X3_step : Room := { frames := 2, cells := 0, slots := 0, locals := 35 }
def f_X3_step_J169  (s1 : Int32) (σ : Mem) : Option (Unit × Mem) := vW σ 38 5 s1 (fun σ4 => some ((), σ4))
def f_X3_step_J152   (σ : Mem) : Option (Unit × Mem) := if (σ 38 2) = 1 then vC (f_X3_valueAtHand σ) (fun r6 σ5 => f_X3_step_J169 r6 σ5) else f_X3_step_J169 0 σ
def f_X3_step_J109 (k94 : Mem → Option (Unit × Mem))  (σ : Mem) : Option (Unit × Mem) := if (σ 38 1) ≤ (σ 38 4) then f_X3_step_J152 σ else vI 120 (σ 38 4) (fun j7 => vC (f_X3_tokenBegunBy (σ 39 j7) σ) (fun r9 σ8 => if r9 = (σ8 38 2) then vW σ8 38 4 ((σ8 38 4) + 1) (fun σ10 => k94 σ10) else f_X3_step_J152 σ8))
def f_X3_step_L94  : Nat → Mem → Option (Unit × Mem)
  | 0 => fun  _ => none
  | n + 1 => fun  σ => if (σ 38 2) = 0 then f_X3_step_J109 (f_X3_step_L94 n) σ else if (σ 38 2) = 1 then f_X3_step_J109 (f_X3_step_L94 n) σ else f_X3_step_J152 σ
theorem f_X3_step_L94_s  (n : Nat)  (σ : Mem) : f_X3_step_L94  (n + 1)  σ = if (σ 38 2) = 0 then f_X3_step_J109 (f_X3_step_L94 n) σ else if (σ 38 2) = 1 then f_X3_step_J109 (f_X3_step_L94 n) σ else f_X3_step_J152 σ := rfl
def f_X3_step_J74  (s1 : Int32) (σ : Mem) : Option (Unit × Mem) := vW σ 38 2 s1 (fun σ2 => vW σ2 38 4 (if ((σ2 38 3) + 1) < (σ2 38 1) then ((σ2 38 3) + 1) else (σ2 38 1)) (fun σ3 => f_X3_step_L94 FU σ3))
def f_X3_step_J46   (σ : Mem) : Option (Unit × Mem) := if (σ 38 1) ≤ (σ 38 3) then f_X3_step_J74 3 σ else vI 120 (σ 38 3) (fun j11 => vC (f_X3_tokenBegunBy (σ 39 j11) σ) (fun r13 σ12 => f_X3_step_J74 r13 σ12))
def f_X3_step_L8  : Nat → Mem → Option (Unit × Mem)
  | 0 => fun  _ => none
  | n + 1 => fun  σ => if (σ 38 1) ≤ (σ 38 3) then f_X3_step_J46 σ else vI 120 (σ 38 3) (fun j14 => if (σ 39 j14) = 32 then vW σ 38 3 ((σ 38 3) + 1) (fun σ15 => (f_X3_step_L8 n) σ15) else f_X3_step_J46 σ)
theorem f_X3_step_L8_s  (n : Nat)  (σ : Mem) : f_X3_step_L8  (n + 1)  σ = if (σ 38 1) ≤ (σ 38 3) then f_X3_step_J46 σ else vI 120 (σ 38 3) (fun j14 => if (σ 39 j14) = 32 then vW σ 38 3 ((σ 38 3) + 1) (fun σ15 => (f_X3_step_L8 n) σ15) else f_X3_step_J46 σ) := rfl
def f_X3_step  (σ : Mem) : Option (Unit × Mem) := vW σ 38 3 (σ 38 4) (fun σ1 => f_X3_step_L8 FU σ1)
abbrev rm_X3_isWord : Room := { frames := 4, cells := 0, slots := 0, locals := 88 }
def f_X3_isWord_L27  : Nat → Nat → Int32 → Mem → Option (Int32 × Mem)
  | 0 => fun _ _ _ => none
  | n + 1 => fun b1 y2 σ => vC (f_J0_length_8abf5 b1 σ) (fun r5 σ4 => if r5 ≤ y2 then some (1, σ4) else vI 120 ((σ4 38 3) + y2) (fun j6 => vC (f_J0_charAt_5068e b1 y2 σ4) (fun r8 σ7 => if (σ4 39 j6) = r8 then vL (y2 + 1) (fun x9 => (f_X3_isWord_L27 n) b1 x9 σ7) else some (0, σ7))))
theorem f_X3_isWord_L27_s  (n : Nat) (b1 : Nat) (y2 : Int32) (σ : Mem) : f_X3_isWord_L27  (n + 1) b1 y2 σ = vC (f_J0_length_8abf5 b1 σ) (fun r5 σ4 => if r5 ≤ y2 then some (1, σ4) else vI 120 ((σ4 38 3) + y2) (fun j6 => vC (f_J0_charAt_5068e b1 y2 σ4) (fun r8 σ7 => if (σ4 39 j6) = r8 then vL (y2 + 1) (fun x9 => (f_X3_isWord_L27 n) b1 x9 σ7) else some (0, σ7)))) := rfl
def f_X3_isWord (a1 : Nat) (σ : Mem) : Option (Int32 × Mem) := if (σ 38 2) = 0 then vC (f_J0_length_8abf5 a1 σ) (fun r2 σ1 => if ((σ 38 4) - (σ 38 3)) = r2 then vL (0 : Int32) (fun x3 => f_X3_isWord_L27 FU a1 x3 σ1) else some (0, σ1)) else some (0, σ)
abbrev rm_X3_kindAtHand : Room := { frames := 5, cells := 0, slots := 0, locals := 110 }
def f_X3_kindAtHand  (σ : Mem) : Option (Int32 × Mem) := vC (f_X3_isWord 0 σ) (fun r2 σ1 => if r2 = 0 then vC (f_X3_isWord 1 σ1) (fun r4 σ3 => if r4 = 0 then vC (f_X3_isWord 2 σ3) (fun r6 σ5 => if r6 = 0 then vC (f_X3_isWord 3 σ5) (fun r8 σ7 => if r8 = 0 then vC (f_X3_isWord 4 σ7) (fun r10 σ9 => if r10 = 0 then vC (f_X3_isWord 5 σ9) (fun r12 σ11 => if r12 = 0 then vC (f_X3_isWord 6 σ11) (fun r14 σ13 => if r14 = 0 then some ((-1), σ13) else some (6, σ13)) else some (5, σ11)) else some (4, σ9)) else some (3, σ7)) else some (2, σ5)) else some (1, σ3)) else some (0, σ1))
abbrev rm_X3_takeWord : Room := { frames := 5, cells := 0, slots := 0, locals := 110 }
def f_X3_takeWord (a1 : Nat) (σ : Mem) : Option (Int32 × Mem) := vC (f_X3_isWord a1 σ) (fun r2 σ1 => vL r2 (fun x3 => if x3 = 0 then vB x3 (some (x3, σ1)) else vC (f_X3_step σ1) (fun _ σ4 => vB x3 (some (x3, σ4)))))
abbrev rm_X3_takeNumber : Room := { frames := 3, cells := 0, slots := 0, locals := 55 }
def f_X3_takeNumber (x1 : Int32) (σ : Mem) : Option (Int32 × Mem) := if (σ 38 2) = 1 then if (σ 38 5) ≤ x1 then vL (σ 38 5) (fun x1 => vC (f_X3_step σ) (fun _ σ2 => some (x1, σ2))) else some ((-1), σ) else some ((-1), σ)
abbrev rm_X3_readPart : Room := { frames := 6, cells := 0, slots := 0, locals := 132 }
def f_X3_readPart (a1 : Nat) (a2 : Nat) (x3 : Int32) (σ : Mem) : Option (Int32 × Mem) := vC (f_X3_takeWord a2 σ) (fun r2 σ1 => if r2 = 0 then some (1, σ1) else vI 6 x3 (fun j3 => vC (f_X3_takeNumber ((sTab 6).getD j3 0) σ1) (fun r5 σ4 => vL r5 (fun x6 => if x6 = (-1) then some (0, σ4) else vC (f_X0_set a1 x3 x6 σ4) (fun _ σ7 => some (1, σ7))))))
abbrev rm_X3_readCurtain : Room := { frames := 7, cells := 0, slots := 0, locals := 156 }
def f_X3_readCurtain_J69  (c0 : Nat) (s1 : Int32) (σ : Mem) : Option (Int32 × Mem) := vW σ c0 4 s1 (fun σ14 => some (1, σ14))
def f_X3_readCurtain (a1 : Nat) (x2 : Int32) (σ : Mem) : Option (Int32 × Mem) := vC (f_X1_isFull a1 σ) (fun r2 σ1 => if r2 = 0 then vC (f_X3_step σ1) (fun _ σ3 => vC (f_X1_hang a1 x2 σ3) (fun r5 σ4 => vC (f_X3_readPart r5 10 1 σ4) (fun r7 σ6 => if r7 = 0 then some (0, σ6) else vC (f_X3_readPart r5 11 2 σ6) (fun r9 σ8 => if r9 = 0 then some (0, σ8) else vC (f_X3_readPart r5 12 3 σ8) (fun r11 σ10 => if r11 = 0 then some (0, σ10) else vC (f_X3_takeWord 13 σ10) (fun r13 σ12 => if r13 = 0 then f_X3_readCurtain_J69 r5 0 σ12 else f_X3_readCurtain_J69 r5 1 σ12)))))) else some (0, σ1))
abbrev rm_X3_readScene : Room := { frames := 4, cells := 0, slots := 0, locals := 77 }
def f_X3_readScene (a1 : Nat) (σ : Mem) : Option (Int32 × Mem) := vC (f_X3_takeNumber 5 σ) (fun r2 σ1 => vL r2 (fun x3 => if x3 = (-1) then some (0, σ1) else vC (f_X3_takeNumber 11 σ1) (fun r5 σ4 => vL r5 (fun x6 => if x6 = (-1) then some (0, σ4) else vI 6 x3 (fun j7 => vW σ4 (a1 + 1) j7 x6 (fun σ8 => some (1, σ8)))))))
abbrev rm_X3_readOther : Room := { frames := 6, cells := 0, slots := 0, locals := 132 }
def f_X3_readOther (a1 : Nat) (σ : Mem) : Option (Int32 × Mem) := vC (f_X3_takeWord 7 σ) (fun r2 σ1 => if r2 = 0 then vC (f_X3_takeWord 8 σ1) (fun r4 σ3 => if r4 = 0 then vC (f_X3_takeWord 9 σ3) (fun r6 σ5 => if r6 = 0 then some (0, σ5) else vW σ5 a1 0 0 (fun σ7 => some (1, σ7))) else vW σ3 a1 0 1 (fun σ8 => some (1, σ8))) else vC (f_X3_readScene a1 σ1) (fun r10 σ9 => vB r10 (some (r10, σ9))))
abbrev rm_X3_readInto : Room := { frames := 8, cells := 0, slots := 0, locals := 179 }
def f_X3_readInto_J84   (σ : Mem) : Option (Int32 × Mem) := some ((-1) - (σ 38 3), σ)
def f_X3_readInto_J58 (k11 : Nat → Int32 → Mem → Option (Int32 × Mem)) (b1 : Nat) (y2 : Int32) (y4 : Int32) (σ : Mem) : Option (Int32 × Mem) := if y4 = 0 then f_X3_readInto_J84 σ else if (σ 38 2) = 2 then vC (f_X3_step σ) (fun _ σ10 => vL (y2 + 1) (fun x11 => k11 b1 x11 σ10)) else f_X3_readInto_J84 σ
def f_X3_readInto_J41 (k11 : Nat → Int32 → Mem → Option (Int32 × Mem)) (b1 : Nat) (y2 : Int32) (s0 : Int32) (σ : Mem) : Option (Int32 × Mem) := vL s0 (fun x9 => if x9 = 0 then f_X3_readInto_J58 k11 b1 y2 x9 σ else if (σ 38 2) = 3 then some (y2, σ) else f_X3_readInto_J58 k11 b1 y2 x9 σ)
def f_X3_readInto_L11  : Nat → Nat → Int32 → Mem → Option (Int32 × Mem)
  | 0 => fun _ _ _ => none
  | n + 1 => fun b1 y2 σ => if 120 < y2 then f_X3_readInto_J84 σ else vC (f_X3_kindAtHand σ) (fun r5 σ4 => vL r5 (fun x6 => if x6 = (-1) then vC (f_X3_readOther b1 σ4) (fun r13 σ12 => f_X3_readInto_J41 (f_X3_readInto_L11 n) b1 y2 r13 σ12) else vC (f_X3_readCurtain b1 x6 σ4) (fun r8 σ7 => f_X3_readInto_J41 (f_X3_readInto_L11 n) b1 y2 r8 σ7)))
theorem f_X3_readInto_L11_s  (n : Nat) (b1 : Nat) (y2 : Int32) (σ : Mem) : f_X3_readInto_L11  (n + 1) b1 y2 σ = if 120 < y2 then f_X3_readInto_J84 σ else vC (f_X3_kindAtHand σ) (fun r5 σ4 => vL r5 (fun x6 => if x6 = (-1) then vC (f_X3_readOther b1 σ4) (fun r13 σ12 => f_X3_readInto_J41 (f_X3_readInto_L11 n) b1 y2 r13 σ12) else vC (f_X3_readCurtain b1 x6 σ4) (fun r8 σ7 => f_X3_readInto_J41 (f_X3_readInto_L11 n) b1 y2 r8 σ7))) := rfl
def f_X3_readInto (a1 : Nat) (σ : Mem) : Option (Int32 × Mem) := vW σ 38 4 0 (fun σ1 => vC (f_X3_step σ1) (fun _ σ2 => vL (1 : Int32) (fun x3 => f_X3_readInto_L11 FU a1 x3 σ2)))
abbrev rm_X4_isWithin : Room := { frames := 0, cells := 0, slots := 0, locals := 0 }
def f_X4_isWithin (x0 : Int32) (x1 : Int32) (x2 : Int32) (σ : Mem) : Option (Int32 × Mem) := if x0 < x1 then some (0, σ) else if x2 < x0 then some (0, σ) else some (1, σ)
abbrev rm_X4_find : Room := { frames := 0, cells := 0, slots := 0, locals := 0 }
def f_X4_find (x1 : Int32) (σ : Mem) : Option (Int32 × Mem) := vI 7 x1 (fun j1 => vI 7 x1 (fun j2 => vW σ 49 j2 ((σ 49 j1) + 1) (fun σ3 => some ((-1000001) - x1, σ3))))
abbrev rm_X4_fire : Room := { frames := 1, cells := 0, slots := 0, locals := 22 }
def f_X4_fire (x1 : Int32) (σ : Mem) : Option (Int32 × Mem) := vC (f_X4_isWithin x1 0 1 σ) (fun r2 σ1 => if r2 = 0 then vC (f_X4_find 0 σ1) (fun r6 σ5 => some (r6, σ5)) else vL (σ1 1 0) (fun x3 => vW σ1 1 0 x1 (fun σ4 => some (x3, σ4))))
abbrev rm_X4_isPlace : Room := { frames := 1, cells := 0, slots := 0, locals := 22 }
def f_X4_isPlace (x0 : Int32) (σ : Mem) : Option (Int32 × Mem) := vC (f_X4_isWithin x0 0 5 σ) (fun r2 σ1 => vB r2 (some (r2, σ1)))
abbrev rm_X4_scene : Room := { frames := 2, cells := 0, slots := 0, locals := 42 }
def f_X4_scene_J17   (σ : Mem) : Option (Int32 × Mem) := vC (f_X4_find 0 σ) (fun r4 σ3 => some (r4, σ3))
def f_X4_scene (x1 : Int32) (x2 : Int32) (σ : Mem) : Option (Int32 × Mem) := vC (f_X4_isPlace x1 σ) (fun r2 σ1 => if r2 = 0 then f_X4_scene_J17 σ1 else vC (f_X4_isWithin x2 0 11 σ1) (fun r6 σ5 => if r6 = 0 then f_X4_scene_J17 σ5 else vI 6 x1 (fun j7 => vL (σ5 (1 + 1) j7) (fun x8 => vI 6 x1 (fun j9 => vW σ5 (1 + 1) j9 x2 (fun σ10 => some (x8, σ10)))))))
abbrev rm_X4_listed : Room := { frames := 2, cells := 0, slots := 0, locals := 42 }
def f_X4_listed (x1 : Int32) (σ : Mem) : Option (Int32 × Mem) := vC (f_X4_isPlace x1 σ) (fun r2 σ1 => if r2 = 0 then vC (f_X4_find 0 σ1) (fun r5 σ4 => some (r5, σ4)) else vI 6 x1 (fun j3 => some (σ1 (1 + 1) j3, σ1)))
abbrev rm_X4_isKind : Room := { frames := 1, cells := 0, slots := 0, locals := 22 }
def f_X4_isKind (x0 : Int32) (σ : Mem) : Option (Int32 × Mem) := vC (f_X4_isWithin x0 0 6 σ) (fun r2 σ1 => vB r2 (some (r2, σ1)))
abbrev rm_X4_curtain : Room := { frames := 2, cells := 0, slots := 0, locals := 43 }
def f_X4_curtain_J18   (σ : Mem) : Option (Int32 × Mem) := vC (f_X4_find 0 σ) (fun r4 σ3 => some (r4, σ3))
def f_X4_curtain (x1 : Int32) (x2 : Int32) (σ : Mem) : Option (Int32 × Mem) := vC (f_X4_isKind x1 σ) (fun r2 σ1 => if r2 = 0 then f_X4_curtain_J18 σ1 else vC (f_X4_isWithin x2 0 4095 σ1) (fun r6 σ5 => if r6 = 0 then f_X4_curtain_J18 σ5 else vC (f_X1_isFull 1 σ5) (fun r8 σ7 => if r8 = 0 then vC (f_X1_hang 1 x1 σ7) (fun r10 σ9 => vW σ9 r10 2 x2 (fun σ11 => some ((σ11 1 5) - 1, σ11))) else vC (f_X4_find 1 σ7) (fun r13 σ12 => some (r13, σ12)))))
abbrev rm_X4_isCurtain : Room := { frames := 1, cells := 0, slots := 0, locals := 22 }
def f_X4_isCurtain (x1 : Int32) (σ : Mem) : Option (Int32 × Mem) := vC (f_X4_isWithin x1 0 ((σ 1 5) - 1) σ) (fun r2 σ1 => vB r2 (some (r2, σ1)))
abbrev rm_X4_of : Room := { frames := 3, cells := 0, slots := 0, locals := 63 }
def f_X4_of_J18   (σ : Mem) : Option (Int32 × Mem) := vC (f_X4_find 0 σ) (fun r4 σ3 => some (r4, σ3))
def f_X4_of (x1 : Int32) (x2 : Int32) (σ : Mem) : Option (Int32 × Mem) := vC (f_X4_isCurtain x1 σ) (fun r2 σ1 => if r2 = 0 then f_X4_of_J18 σ1 else vC (f_X4_isWithin x2 0 10 σ1) (fun r6 σ5 => if r6 = 0 then f_X4_of_J18 σ5 else vI 8 x1 (fun j7 => vC (f_X1_sceneIn 1 0 σ5) (fun r9 σ8 => vC (f_X0_tell (1 + 3 + 1 + j7) x2 r9 (σ8 1 0) σ8) (fun r11 σ10 => some (r11, σ10))))))
abbrev rm_X4_change : Room := { frames := 3, cells := 0, slots := 0, locals := 63 }
def f_X4_change_J30   (σ : Mem) : Option (Int32 × Mem) := vC (f_X4_find 0 σ) (fun r4 σ3 => some (r4, σ3))
def f_X4_change (x1 : Int32) (x2 : Int32) (x3 : Int32) (σ : Mem) : Option (Int32 × Mem) := vC (f_X4_isCurtain x1 σ) (fun r2 σ1 => if r2 = 0 then f_X4_change_J30 σ1 else vC (f_X4_isWithin x2 0 5 σ1) (fun r6 σ5 => if r6 = 0 then f_X4_change_J30 σ5 else vI 6 x2 (fun j7 => vC (f_X4_isWithin x3 0 ((sTab 6).getD j7 0) σ5) (fun r9 σ8 => if r9 = 0 then f_X4_change_J30 σ8 else vI 8 x1 (fun j10 => vC (f_X1_sceneIn 1 0 σ8) (fun r12 σ11 => vC (f_X0_tell (1 + 3 + 1 + j10) x2 r12 (σ11 1 0) σ11) (fun r14 σ13 => vL r14 (fun x15 => vC (f_X0_set (1 + 3 + 1 + j10) x2 x3 σ13) (fun _ σ16 => some (x15, σ16))))))))))
abbrev rm_X4_pull : Room := { frames := 2, cells := 0, slots := 0, locals := 43 }
def f_X4_pull_J18   (σ : Mem) : Option (Int32 × Mem) := vC (f_X4_find 0 σ) (fun r4 σ3 => some (r4, σ3))
def f_X4_pull (x1 : Int32) (x2 : Int32) (σ : Mem) : Option (Int32 × Mem) := vC (f_X4_isCurtain x1 σ) (fun r2 σ1 => if r2 = 0 then f_X4_pull_J18 σ1 else vC (f_X4_isWithin x2 1 40 σ1) (fun r6 σ5 => if r6 = 0 then f_X4_pull_J18 σ5 else vI 8 x1 (fun j7 => if (σ5 (1 + 3 + 1 + j7) 4) = 1 then vC (f_X4_find 4 σ5) (fun r10 σ9 => some (r10, σ9)) else vC (f_X0_getPulled (1 + 3 + 1 + j7) x2 σ5) (fun _ σ8 => some (σ8 (1 + 3 + 1 + j7) 3, σ8)))))
abbrev rm_X4_go : Room := { frames := 6, cells := 0, slots := 0, locals := 129 }
def f_X4_go (x1 : Int32) (σ : Mem) : Option (Int32 × Mem) := vC (f_X4_isWithin x1 1 60 σ) (fun r2 σ1 => if r2 = 0 then vC (f_X4_find 0 σ1) (fun r7 σ6 => some (r7, σ6)) else if (σ1 1 3) ≤ ((99999) - x1) then vC (f_X1_passBeats 1 x1 σ1) (fun _ σ3 => some (σ3 1 1, σ3)) else vC (f_X4_find 4 σ1) (fun r5 σ4 => some (r5, σ4)))
abbrev rm_X4_now : Room := { frames := 2, cells := 0, slots := 0, locals := 42 }
def f_X4_now (x1 : Int32) (σ : Mem) : Option (Int32 × Mem) := if x1 = 0 then some (σ 1 3, σ) else if x1 = 1 then some (σ 1 1, σ) else if x1 = 2 then some (σ 1 2, σ) else if x1 = 3 then vC (f_X1_thoseDown 1 σ) (fun r2 σ1 => some (r2, σ1)) else if x1 = 4 then vC (f_X1_thoseWeary 1 σ) (fun r4 σ3 => some (r4, σ3)) else if x1 = 5 then vC (f_X1_allMoods 1 σ) (fun r6 σ5 => some (r6, σ5)) else if x1 = 6 then vC (f_X1_allLikes 1 σ) (fun r8 σ7 => some (r8, σ7)) else if x1 = 7 then some (σ 1 0, σ) else vC (f_X4_find 0 σ) (fun r10 σ9 => some (r10, σ9))
abbrev rm_X4_passProbe : Room := { frames := 4, cells := 0, slots := 0, locals := 85 }
def f_X4_passProbe_J47 (k4 : Int32 → Int32 → Int32 → Mem → Option (Int32 × Mem)) (y1 : Int32) (y2 : Int32) (y3 : Int32) (σ : Mem) : Option (Int32 × Mem) := vL (y3 + 1) (fun x7 => k4 y1 y2 x7 σ)
def f_X4_passProbe_L4  : Nat → Int32 → Int32 → Int32 → Mem → Option (Int32 × Mem)
  | 0 => fun _ _ _ _ => none
  | n + 1 => fun y1 y2 y3 σ => if y1 ≤ y3 then some (y2, σ) else vC (f_X1_sceneIn 1 y3 σ) (fun r4 σ3 => vC (f_X0_passBeat 37 r4 (σ3 1 0) σ3) (fun r6 σ5 => if r6 = 0 then f_X4_passProbe_J47 (f_X4_passProbe_L4 n) y1 y2 y3 σ5 else if (σ5 1 0) = 0 then vL (y2 + 1) (fun x8 => f_X4_passProbe_J47 (f_X4_passProbe_L4 n) y1 x8 y3 σ5) else f_X4_passProbe_J47 (f_X4_passProbe_L4 n) y1 y2 y3 σ5))
theorem f_X4_passProbe_L4_s  (n : Nat) (y1 : Int32) (y2 : Int32) (y3 : Int32) (σ : Mem) : f_X4_passProbe_L4  (n + 1) y1 y2 y3 σ = if y1 ≤ y3 then some (y2, σ) else vC (f_X1_sceneIn 1 y3 σ) (fun r4 σ3 => vC (f_X0_passBeat 37 r4 (σ3 1 0) σ3) (fun r6 σ5 => if r6 = 0 then f_X4_passProbe_J47 (f_X4_passProbe_L4 n) y1 y2 y3 σ5 else if (σ5 1 0) = 0 then vL (y2 + 1) (fun x8 => f_X4_passProbe_J47 (f_X4_passProbe_L4 n) y1 x8 y3 σ5) else f_X4_passProbe_J47 (f_X4_passProbe_L4 n) y1 y2 y3 σ5)) := rfl
def f_X4_passProbe (x1 : Int32) (σ : Mem) : Option (Int32 × Mem) := vL (0 : Int32) (fun x1 => vL (0 : Int32) (fun x2 => f_X4_passProbe_L4 FU x1 x1 x2 σ))
abbrev rm_X4_ahead : Room := { frames := 5, cells := 0, slots := 0, locals := 108 }
def f_X4_ahead_J51   (σ : Mem) : Option (Int32 × Mem) := vC (f_X4_find 0 σ) (fun r5 σ4 => some (r5, σ4))
def f_X4_ahead_J26  (y1 : Int32) (y2 : Int32) (y3 : Int32) (s0 : Int32) (σ : Mem) : Option (Int32 × Mem) := vL s0 (fun x1 => vC (f_X4_isCurtain y1 σ) (fun r3 σ2 => if r3 = 0 then f_X4_ahead_J51 σ2 else if x1 = 0 then f_X4_ahead_J51 σ2 else vC (f_X4_isWithin y3 0 100 σ2) (fun r7 σ6 => if r7 = 0 then f_X4_ahead_J51 σ6 else vI 8 y1 (fun j8 => vC (f_X0_take 37 (1 + 3 + 1 + j8) σ6) (fun _ σ9 => vC (f_X4_passProbe y3 σ9) (fun r11 σ10 => vC (f_X1_sceneIn 1 y3 σ10) (fun r13 σ12 => vC (f_X0_tell 37 y2 r13 (σ12 1 0) σ12) (fun r15 σ14 => some (r15, σ14)))))))))
def f_X4_ahead_J21  (y1 : Int32) (y2 : Int32) (y3 : Int32) (σ : Mem) : Option (Int32 × Mem) := f_X4_ahead_J26 y1 y2 y3 1 σ
def f_X4_ahead (x1 : Int32) (x2 : Int32) (x3 : Int32) (σ : Mem) : Option (Int32 × Mem) := if x2 = 1 then f_X4_ahead_J21 x1 x2 x3 σ else if x2 = 3 then f_X4_ahead_J21 x1 x2 x3 σ else if x2 = 5 then f_X4_ahead_J21 x1 x2 x3 σ else if x2 = 8 then f_X4_ahead_J21 x1 x2 x3 σ else f_X4_ahead_J26 x1 x2 x3 0 σ
abbrev rm_X4_cut : Room := { frames := 6, cells := 0, slots := 0, locals := 129 }
def f_X4_cut (x1 : Int32) (σ : Mem) : Option (Int32 × Mem) := vC (f_X4_isWithin x1 0 100 σ) (fun r2 σ1 => if r2 = 0 then vC (f_X4_find 0 σ1) (fun r6 σ5 => some (r6, σ5)) else vC (f_X1_take 25 1 σ1) (fun _ σ3 => vC (f_X1_passBeats 25 x1 σ3) (fun _ σ4 => some (σ4 25 1, σ4))))
abbrev rm_X4_beatsUntil : Room := { frames := 4, cells := 0, slots := 0, locals := 85 }
def f_X4_beatsUntil_L19  : Nat → Int32 → Int32 → Int32 → Int32 → Mem → Option (Int32 × Mem)
  | 0 => fun _ _ _ _ _ => none
  | n + 1 => fun y2 y3 y4 y5 σ => if 200 < y5 then vC (f_X4_find 3 σ) (fun r5 σ4 => some (r5, σ4)) else vC (f_X1_sceneIn 1 y5 σ) (fun r7 σ6 => vL r7 (fun x8 => vC (f_X0_tell 37 y2 x8 (σ6 1 0) σ6) (fun r10 σ9 => vC (f_X4_isWithin r10 y3 y4 σ9) (fun r12 σ11 => if r12 = 0 then vC (f_X0_passBeat 37 x8 (σ11 1 0) σ11) (fun r14 σ13 => vL (y5 + 1) (fun x15 => (f_X4_beatsUntil_L19 n) y2 y3 y4 x15 σ13)) else some (y5, σ11)))))
theorem f_X4_beatsUntil_L19_s  (n : Nat) (y2 : Int32) (y3 : Int32) (y4 : Int32) (y5 : Int32) (σ : Mem) : f_X4_beatsUntil_L19  (n + 1) y2 y3 y4 y5 σ = if 200 < y5 then vC (f_X4_find 3 σ) (fun r5 σ4 => some (r5, σ4)) else vC (f_X1_sceneIn 1 y5 σ) (fun r7 σ6 => vL r7 (fun x8 => vC (f_X0_tell 37 y2 x8 (σ6 1 0) σ6) (fun r10 σ9 => vC (f_X4_isWithin r10 y3 y4 σ9) (fun r12 σ11 => if r12 = 0 then vC (f_X0_passBeat 37 x8 (σ11 1 0) σ11) (fun r14 σ13 => vL (y5 + 1) (fun x15 => (f_X4_beatsUntil_L19 n) y2 y3 y4 x15 σ13)) else some (y5, σ11))))) := rfl
def f_X4_beatsUntil (x1 : Int32) (x2 : Int32) (x3 : Int32) (x4 : Int32) (σ : Mem) : Option (Int32 × Mem) := vI 8 x1 (fun j1 => vC (f_X0_take 37 (1 + 3 + 1 + j1) σ) (fun _ σ2 => vL (0 : Int32) (fun x3 => f_X4_beatsUntil_L19 FU x2 x3 x4 x3 σ2)))
abbrev rm_X4_down : Room := { frames := 5, cells := 0, slots := 0, locals := 111 }
def f_X4_down (x1 : Int32) (σ : Mem) : Option (Int32 × Mem) := vC (f_X4_isCurtain x1 σ) (fun r2 σ1 => if r2 = 0 then vC (f_X4_find 0 σ1) (fun r6 σ5 => some (r6, σ5)) else vC (f_X4_beatsUntil x1 3 0 0 σ1) (fun r4 σ3 => some (r4, σ3)))
abbrev rm_X4_up : Room := { frames := 5, cells := 0, slots := 0, locals := 111 }
def f_X4_up (x1 : Int32) (σ : Mem) : Option (Int32 × Mem) := vC (f_X4_isCurtain x1 σ) (fun r2 σ1 => if r2 = 0 then vC (f_X4_find 0 σ1) (fun r6 σ5 => some (r6, σ5)) else vC (f_X4_beatsUntil x1 3 20 20 σ1) (fun r4 σ3 => some (r4, σ3)))
abbrev rm_X4_weary : Room := { frames := 5, cells := 0, slots := 0, locals := 111 }
def f_X4_weary_J18   (σ : Mem) : Option (Int32 × Mem) := vC (f_X4_find 0 σ) (fun r4 σ3 => some (r4, σ3))
def f_X4_weary (x1 : Int32) (x2 : Int32) (σ : Mem) : Option (Int32 × Mem) := vC (f_X4_isCurtain x1 σ) (fun r2 σ1 => if r2 = 0 then f_X4_weary_J18 σ1 else vC (f_X4_isWithin x2 0 99 σ1) (fun r6 σ5 => if r6 = 0 then f_X4_weary_J18 σ5 else vC (f_X4_beatsUntil x1 1 0 x2 σ5) (fun r8 σ7 => some (r8, σ7))))
abbrev rm_X4_saved : Room := { frames := 5, cells := 0, slots := 0, locals := 107 }
def f_X4_saved_L30  : Nat → Int32 → Int32 → Mem → Option (Int32 × Mem)
  | 0 => fun _ _ _ => none
  | n + 1 => fun y1 y2 σ => if 200 < y2 then vC (f_X4_find 3 σ) (fun r6 σ5 => some (r6, σ5)) else if (σ 25 2) < y1 then vC (f_X1_passBeat 25 σ) (fun _ σ7 => vL (y2 + 1) (fun x8 => (f_X4_saved_L30 n) y1 x8 σ7)) else some (y2, σ)
theorem f_X4_saved_L30_s  (n : Nat) (y1 : Int32) (y2 : Int32) (σ : Mem) : f_X4_saved_L30  (n + 1) y1 y2 σ = if 200 < y2 then vC (f_X4_find 3 σ) (fun r6 σ5 => some (r6, σ5)) else if (σ 25 2) < y1 then vC (f_X1_passBeat 25 σ) (fun _ σ7 => vL (y2 + 1) (fun x8 => (f_X4_saved_L30 n) y1 x8 σ7)) else some (y2, σ) := rfl
def f_X4_saved (x1 : Int32) (σ : Mem) : Option (Int32 × Mem) := vC (f_X4_isWithin x1 0 900 σ) (fun r2 σ1 => if r2 = 0 then vC (f_X4_find 0 σ1) (fun r10 σ9 => some (r10, σ9)) else vC (f_X1_take 25 1 σ1) (fun _ σ3 => vL (0 : Int32) (fun x4 => f_X4_saved_L30 FU x1 x4 σ3)))
abbrev rm_X4_sceneFor : Room := { frames := 6, cells := 0, slots := 0, locals := 129 }
def f_X4_sceneFor_J17   (σ : Mem) : Option (Int32 × Mem) := vC (f_X4_find 0 σ) (fun r4 σ3 => some (r4, σ3))
def f_X4_sceneFor_J93 (k32 : Int32 → Int32 → Int32 → Int32 → Int32 → Mem → Option (Int32 × Mem)) (y1 : Int32) (y2 : Int32) (y3 : Int32) (y4 : Int32) (y5 : Int32) (σ : Mem) : Option (Int32 × Mem) := vL (y5 + 1) (fun x14 => k32 y1 y2 y3 y4 x14 σ)
def f_X4_sceneFor_L32  : Nat → Int32 → Int32 → Int32 → Int32 → Int32 → Mem → Option (Int32 × Mem)
  | 0 => fun _ _ _ _ _ _ => none
  | n + 1 => fun y1 y2 y3 y4 y5 σ => if 12 ≤ y5 then some (y3, σ) else vC (f_X1_take 25 1 σ) (fun _ σ10 => vI 6 y1 (fun j11 => vW σ10 (25 + 1) j11 y5 (fun σ12 => vC (f_X1_passBeats 25 y2 σ12) (fun _ σ13 => if y4 ≤ (σ13 25 1) then f_X4_sceneFor_J93 (f_X4_sceneFor_L32 n) y1 y2 y3 y4 y5 σ13 else vL (σ13 25 1) (fun x15 => vL y5 (fun x16 => f_X4_sceneFor_J93 (f_X4_sceneFor_L32 n) y1 y2 x16 x15 y5 σ13))))))
theorem f_X4_sceneFor_L32_s  (n : Nat) (y1 : Int32) (y2 : Int32) (y3 : Int32) (y4 : Int32) (y5 : Int32) (σ : Mem) : f_X4_sceneFor_L32  (n + 1) y1 y2 y3 y4 y5 σ = if 12 ≤ y5 then some (y3, σ) else vC (f_X1_take 25 1 σ) (fun _ σ10 => vI 6 y1 (fun j11 => vW σ10 (25 + 1) j11 y5 (fun σ12 => vC (f_X1_passBeats 25 y2 σ12) (fun _ σ13 => if y4 ≤ (σ13 25 1) then f_X4_sceneFor_J93 (f_X4_sceneFor_L32 n) y1 y2 y3 y4 y5 σ13 else vL (σ13 25 1) (fun x15 => vL y5 (fun x16 => f_X4_sceneFor_J93 (f_X4_sceneFor_L32 n) y1 y2 x16 x15 y5 σ13)))))) := rfl
def f_X4_sceneFor (x1 : Int32) (x2 : Int32) (σ : Mem) : Option (Int32 × Mem) := vC (f_X4_isPlace x1 σ) (fun r2 σ1 => if r2 = 0 then f_X4_sceneFor_J17 σ1 else vC (f_X4_isWithin x2 0 60 σ1) (fun r6 σ5 => if r6 = 0 then f_X4_sceneFor_J17 σ5 else vL (0 : Int32) (fun x7 => vL (100000 : Int32) (fun x8 => vL (0 : Int32) (fun x9 => f_X4_sceneFor_L32 FU x1 x2 x7 x8 x9 σ5)))))
abbrev rm_X4_kindFor : Room := { frames := 5, cells := 0, slots := 0, locals := 108 }
def f_X4_kindFor_J18   (σ : Mem) : Option (Int32 × Mem) := vC (f_X4_find 0 σ) (fun r4 σ3 => some (r4, σ3))
def f_X4_kindFor_J94 (k32 : Int32 → Int32 → Int32 → Int32 → Int32 → Mem → Option (Int32 × Mem)) (y1 : Int32) (y2 : Int32) (y3 : Int32) (y4 : Int32) (y5 : Int32) (σ : Mem) : Option (Int32 × Mem) := vL (y5 + 1) (fun x15 => k32 y1 y2 y3 y4 x15 σ)
def f_X4_kindFor_L32  : Nat → Int32 → Int32 → Int32 → Int32 → Int32 → Mem → Option (Int32 × Mem)
  | 0 => fun _ _ _ _ _ _ => none
  | n + 1 => fun y1 y2 y3 y4 y5 σ => if 7 ≤ y5 then some (y3, σ) else vI 8 y1 (fun j10 => vC (f_X0_take 37 (1 + 3 + 1 + j10) σ) (fun _ σ11 => vW σ11 37 0 y5 (fun σ12 => vC (f_X4_passProbe y2 σ12) (fun r14 σ13 => if (σ13 37 1) ≤ y4 then f_X4_kindFor_J94 (f_X4_kindFor_L32 n) y1 y2 y3 y4 y5 σ13 else vL (σ13 37 1) (fun x16 => vL y5 (fun x17 => f_X4_kindFor_J94 (f_X4_kindFor_L32 n) y1 y2 x17 x16 y5 σ13))))))
theorem f_X4_kindFor_L32_s  (n : Nat) (y1 : Int32) (y2 : Int32) (y3 : Int32) (y4 : Int32) (y5 : Int32) (σ : Mem) : f_X4_kindFor_L32  (n + 1) y1 y2 y3 y4 y5 σ = if 7 ≤ y5 then some (y3, σ) else vI 8 y1 (fun j10 => vC (f_X0_take 37 (1 + 3 + 1 + j10) σ) (fun _ σ11 => vW σ11 37 0 y5 (fun σ12 => vC (f_X4_passProbe y2 σ12) (fun r14 σ13 => if (σ13 37 1) ≤ y4 then f_X4_kindFor_J94 (f_X4_kindFor_L32 n) y1 y2 y3 y4 y5 σ13 else vL (σ13 37 1) (fun x16 => vL y5 (fun x17 => f_X4_kindFor_J94 (f_X4_kindFor_L32 n) y1 y2 x17 x16 y5 σ13)))))) := rfl
def f_X4_kindFor (x1 : Int32) (x2 : Int32) (σ : Mem) : Option (Int32 × Mem) := vC (f_X4_isCurtain x1 σ) (fun r2 σ1 => if r2 = 0 then f_X4_kindFor_J18 σ1 else vC (f_X4_isWithin x2 0 60 σ1) (fun r6 σ5 => if r6 = 0 then f_X4_kindFor_J18 σ5 else vL (0 : Int32) (fun x7 => vL (-1 : Int32) (fun x8 => vL (0 : Int32) (fun x9 => f_X4_kindFor_L32 FU x1 x2 x7 x8 x9 σ5)))))
abbrev rm_X4_moodFor : Room := { frames := 5, cells := 0, slots := 0, locals := 108 }
def f_X4_moodFor_J18   (σ : Mem) : Option (Int32 × Mem) := vC (f_X4_find 0 σ) (fun r4 σ3 => some (r4, σ3))
def f_X4_moodFor_L37  : Nat → Int32 → Nat → Int32 → Mem → Option (Int32 × Mem)
  | 0 => fun _ _ _ _ => none
  | n + 1 => fun y2 b3 y4 σ => if 99 < y4 then vC (f_X4_find 3 σ) (fun r10 σ9 => some (r10, σ9)) else vC (f_X0_take 37 b3 σ) (fun _ σ11 => vW σ11 37 1 y4 (fun σ12 => vC (f_X4_passProbe y2 σ12) (fun r14 σ13 => if (σ13 37 5) = (σ13 b3 5) then some (y4, σ13) else vL (y4 + 1) (fun x15 => (f_X4_moodFor_L37 n) y2 b3 x15 σ13))))
theorem f_X4_moodFor_L37_s  (n : Nat) (y2 : Int32) (b3 : Nat) (y4 : Int32) (σ : Mem) : f_X4_moodFor_L37  (n + 1) y2 b3 y4 σ = if 99 < y4 then vC (f_X4_find 3 σ) (fun r10 σ9 => some (r10, σ9)) else vC (f_X0_take 37 b3 σ) (fun _ σ11 => vW σ11 37 1 y4 (fun σ12 => vC (f_X4_passProbe y2 σ12) (fun r14 σ13 => if (σ13 37 5) = (σ13 b3 5) then some (y4, σ13) else vL (y4 + 1) (fun x15 => (f_X4_moodFor_L37 n) y2 b3 x15 σ13)))) := rfl
def f_X4_moodFor (x1 : Int32) (x2 : Int32) (σ : Mem) : Option (Int32 × Mem) := vC (f_X4_isCurtain x1 σ) (fun r2 σ1 => if r2 = 0 then f_X4_moodFor_J18 σ1 else vC (f_X4_isWithin x2 0 60 σ1) (fun r6 σ5 => if r6 = 0 then f_X4_moodFor_J18 σ5 else vI 8 x1 (fun j7 => vL (0 : Int32) (fun x8 => f_X4_moodFor_L37 FU x2 (1 + 3 + 1 + j7) x8 σ5))))
abbrev rm_X4_handsFor : Room := { frames := 5, cells := 0, slots := 0, locals := 108 }
def f_X4_handsFor_J18   (σ : Mem) : Option (Int32 × Mem) := vC (f_X4_find 0 σ) (fun r4 σ3 => some (r4, σ3))
def f_X4_handsFor_L51  : Nat → Int32 → Nat → Int32 → Mem → Option (Int32 × Mem)
  | 0 => fun _ _ _ _ => none
  | n + 1 => fun y2 b3 y4 σ => if 40 < y4 then vC (f_X4_find 3 σ) (fun r10 σ9 => some (r10, σ9)) else vC (f_X0_take 37 b3 σ) (fun _ σ11 => vC (f_X0_getPulled 37 y4 σ11) (fun _ σ12 => vC (f_X4_passProbe y2 σ12) (fun r14 σ13 => if (σ13 37 3) ≤ 0 then vL (y4 + 1) (fun x15 => (f_X4_handsFor_L51 n) y2 b3 x15 σ13) else some (y4, σ13))))
theorem f_X4_handsFor_L51_s  (n : Nat) (y2 : Int32) (b3 : Nat) (y4 : Int32) (σ : Mem) : f_X4_handsFor_L51  (n + 1) y2 b3 y4 σ = if 40 < y4 then vC (f_X4_find 3 σ) (fun r10 σ9 => some (r10, σ9)) else vC (f_X0_take 37 b3 σ) (fun _ σ11 => vC (f_X0_getPulled 37 y4 σ11) (fun _ σ12 => vC (f_X4_passProbe y2 σ12) (fun r14 σ13 => if (σ13 37 3) ≤ 0 then vL (y4 + 1) (fun x15 => (f_X4_handsFor_L51 n) y2 b3 x15 σ13) else some (y4, σ13)))) := rfl
def f_X4_handsFor (x1 : Int32) (x2 : Int32) (σ : Mem) : Option (Int32 × Mem) := vC (f_X4_isCurtain x1 σ) (fun r2 σ1 => if r2 = 0 then f_X4_handsFor_J18 σ1 else vC (f_X4_isWithin x2 0 60 σ1) (fun r6 σ5 => if r6 = 0 then f_X4_handsFor_J18 σ5 else vI 8 x1 (fun j7 => if (σ5 (1 + 3 + 1 + j7) 4) = 1 then vC (f_X4_find 4 σ5) (fun r17 σ16 => some (r17, σ16)) else vL (1 : Int32) (fun x8 => f_X4_handsFor_L51 FU x2 (1 + 3 + 1 + j7) x8 σ5))))
abbrev rm_X4_tie : Room := { frames := 5, cells := 0, slots := 0, locals := 108 }
def f_X4_tie_J87 (k39 : Int32 → Int32 → Int32 → Int32 → Mem → Option (Int32 × Mem)) (y1 : Int32) (y2 : Int32) (y3 : Int32) (y4 : Int32) (σ : Mem) : Option (Int32 × Mem) := vL (y4 + 1) (fun x10 => k39 y1 y2 y3 x10 σ)
def f_X4_tie_L39  : Nat → Int32 → Int32 → Int32 → Int32 → Mem → Option (Int32 × Mem)
  | 0 => fun _ _ _ _ _ => none
  | n + 1 => fun y1 y2 y3 y4 σ => if y2 = 0 then some (y3, σ) else if (σ 1 5) ≤ y4 then some (y3, σ) else vI 8 y4 (fun j6 => vC (f_X0_take 37 (1 + 3 + 1 + j6) σ) (fun _ σ7 => vC (f_X4_passProbe y1 σ7) (fun r9 σ8 => if r9 ≤ 0 then f_X4_tie_J87 (f_X4_tie_L39 n) y1 y2 y3 y4 σ8 else vL (y3 ||| (1 <<< (y4 &&& 31))) (fun x11 => f_X4_tie_J87 (f_X4_tie_L39 n) y1 y2 x11 y4 σ8))))
theorem f_X4_tie_L39_s  (n : Nat) (y1 : Int32) (y2 : Int32) (y3 : Int32) (y4 : Int32) (σ : Mem) : f_X4_tie_L39  (n + 1) y1 y2 y3 y4 σ = if y2 = 0 then some (y3, σ) else if (σ 1 5) ≤ y4 then some (y3, σ) else vI 8 y4 (fun j6 => vC (f_X0_take 37 (1 + 3 + 1 + j6) σ) (fun _ σ7 => vC (f_X4_passProbe y1 σ7) (fun r9 σ8 => if r9 ≤ 0 then f_X4_tie_J87 (f_X4_tie_L39 n) y1 y2 y3 y4 σ8 else vL (y3 ||| (1 <<< (y4 &&& 31))) (fun x11 => f_X4_tie_J87 (f_X4_tie_L39 n) y1 y2 x11 y4 σ8)))) := rfl
def f_X4_tie_J33  (y1 : Int32) (s0 : Int32) (σ : Mem) : Option (Int32 × Mem) := vL s0 (fun x3 => vL (0 : Int32) (fun x4 => vL (0 : Int32) (fun x5 => f_X4_tie_L39 FU y1 x3 x4 x5 σ)))
def f_X4_tie (x1 : Int32) (σ : Mem) : Option (Int32 × Mem) := vC (f_X4_isWithin x1 0 20 σ) (fun r2 σ1 => if r2 = 0 then vC (f_X4_find 0 σ1) (fun r13 σ12 => some (r13, σ12)) else if (99999) ≤ (σ1 1 1) then f_X4_tie_J33 x1 0 σ1 else f_X4_tie_J33 x1 1 σ1)
abbrev rm_X4_please : Room := { frames := 1, cells := 0, slots := 0, locals := 23 }
def f_X4_please_J42 (k7 : Int32 → Int32 → Int32 → Mem → Option (Int32 × Mem)) (y1 : Int32) (y2 : Int32) (y3 : Int32) (σ : Mem) : Option (Int32 × Mem) := vL (y3 + 1) (fun x7 => k7 y1 y2 x7 σ)
def f_X4_please_L7  : Nat → Int32 → Int32 → Int32 → Mem → Option (Int32 × Mem)
  | 0 => fun _ _ _ _ => none
  | n + 1 => fun y1 y2 y3 σ => if 4095 < y3 then some (y1, σ) else vC (f_J6_bitCount_0f7a4 y3 σ) (fun r5 σ4 => vL r5 (fun x6 => if y2 ≤ x6 then f_X4_please_J42 (f_X4_please_L7 n) y1 y2 y3 σ4 else vC (f_X1_isPleasedBy 1 y3 σ4) (fun r9 σ8 => if r9 = 0 then f_X4_please_J42 (f_X4_please_L7 n) y1 y2 y3 σ8 else vL x6 (fun x10 => vL y3 (fun x11 => f_X4_please_J42 (f_X4_please_L7 n) x11 x10 y3 σ8)))))
theorem f_X4_please_L7_s  (n : Nat) (y1 : Int32) (y2 : Int32) (y3 : Int32) (σ : Mem) : f_X4_please_L7  (n + 1) y1 y2 y3 σ = if 4095 < y3 then some (y1, σ) else vC (f_J6_bitCount_0f7a4 y3 σ) (fun r5 σ4 => vL r5 (fun x6 => if y2 ≤ x6 then f_X4_please_J42 (f_X4_please_L7 n) y1 y2 y3 σ4 else vC (f_X1_isPleasedBy 1 y3 σ4) (fun r9 σ8 => if r9 = 0 then f_X4_please_J42 (f_X4_please_L7 n) y1 y2 y3 σ8 else vL x6 (fun x10 => vL y3 (fun x11 => f_X4_please_J42 (f_X4_please_L7 n) x11 x10 y3 σ8))))) := rfl
def f_X4_please  (σ : Mem) : Option (Int32 × Mem) := vL (0 : Int32) (fun x1 => vL (13 : Int32) (fun x2 => vL (0 : Int32) (fun x3 => f_X4_please_L7 FU x1 x2 x3 σ)))
abbrev rm_X4_isSheet : Room := { frames := 1, cells := 0, slots := 0, locals := 22 }
def f_X4_isSheet (x0 : Int32) (σ : Mem) : Option (Int32 × Mem) := vC (f_X4_isWithin x0 0 3 σ) (fun r2 σ1 => vB r2 (some (r2, σ1)))
abbrev rm_X4_findingForTold : Room := { frames := 2, cells := 0, slots := 0, locals := 43 }
def f_X4_findingForTold (x1 : Int32) (x2 : Int32) (σ : Mem) : Option (Int32 × Mem) := vC (f_X4_isSheet x1 σ) (fun r2 σ1 => if r2 = 0 then some (0, σ1) else vI 4 x1 (fun j3 => vC (f_X2_isMissing (40 + 1 + 2 * j3) σ1) (fun r5 σ4 => if r5 = 0 then vC (f_X4_isCurtain x2 σ4) (fun r7 σ6 => if r7 = 0 then some (0, σ6) else some ((-1), σ6)) else some (5, σ4))))
abbrev rm_X4_isProbeAsTold : Room := { frames := 4, cells := 0, slots := 0, locals := 85 }
def f_X4_isProbeAsTold_J38 (k2 : Nat → Int32 → Mem → Option (Int32 × Mem)) (b1 : Nat) (y2 : Int32) (σ : Mem) : Option (Int32 × Mem) := vC (f_X1_sceneIn 25 y2 σ) (fun r4 σ3 => vC (f_X0_passBeat 37 r4 (σ3 25 0) σ3) (fun r6 σ5 => vL (y2 + 1) (fun x7 => k2 b1 x7 σ5)))
def f_X4_isProbeAsTold_L2  : Nat → Nat → Int32 → Mem → Option (Int32 × Mem)
  | 0 => fun _ _ _ => none
  | n + 1 => fun b1 y2 σ => if (σ b1 1) ≤ y2 then some (1, σ) else vI 40 y2 (fun j2 => if (σ (b1 + 1) j2) = (-1) then f_X4_isProbeAsTold_J38 (f_X4_isProbeAsTold_L2 n) b1 y2 σ else vI 40 y2 (fun j8 => if (σ (b1 + 1) j8) = (σ 37 3) then f_X4_isProbeAsTold_J38 (f_X4_isProbeAsTold_L2 n) b1 y2 σ else some (0, σ)))
theorem f_X4_isProbeAsTold_L2_s  (n : Nat) (b1 : Nat) (y2 : Int32) (σ : Mem) : f_X4_isProbeAsTold_L2  (n + 1) b1 y2 σ = if (σ b1 1) ≤ y2 then some (1, σ) else vI 40 y2 (fun j2 => if (σ (b1 + 1) j2) = (-1) then f_X4_isProbeAsTold_J38 (f_X4_isProbeAsTold_L2 n) b1 y2 σ else vI 40 y2 (fun j8 => if (σ (b1 + 1) j8) = (σ 37 3) then f_X4_isProbeAsTold_J38 (f_X4_isProbeAsTold_L2 n) b1 y2 σ else some (0, σ))) := rfl
def f_X4_isProbeAsTold (a1 : Nat) (σ : Mem) : Option (Int32 × Mem) := vL (0 : Int32) (fun x1 => f_X4_isProbeAsTold_L2 FU a1 x1 σ)
abbrev rm_X4_fits : Room := { frames := 5, cells := 0, slots := 0, locals := 107 }
def f_X4_fits_J102 (k45 : Int32 → Int32 → Int32 → Int32 → Int32 → Mem → Option (Int32 × Mem)) (y1 : Int32) (y2 : Int32) (y4 : Int32) (y5 : Int32) (y6 : Int32) (σ : Mem) : Option (Int32 × Mem) := vL (y6 + 1) (fun x17 => k45 y1 y2 y4 y5 x17 σ)
def f_X4_fits_L45  : Nat → Int32 → Int32 → Int32 → Int32 → Int32 → Mem → Option (Int32 × Mem)
  | 0 => fun _ _ _ _ _ _ => none
  | n + 1 => fun y1 y2 y4 y5 y6 σ => if 12 ≤ y6 then some (y5, σ) else vI 6 y4 (fun j10 => vW σ (25 + 1) j10 y6 (fun σ11 => vI 8 y2 (fun j12 => vC (f_X0_take 37 (1 + 3 + 1 + j12) σ11) (fun _ σ13 => vI 4 y1 (fun j14 => vC (f_X4_isProbeAsTold (40 + 1 + 2 * j14) σ13) (fun r16 σ15 => if r16 = 0 then f_X4_fits_J102 (f_X4_fits_L45 n) y1 y2 y4 y5 y6 σ15 else vL (y5 ||| (1 <<< (y6 &&& 31))) (fun x18 => f_X4_fits_J102 (f_X4_fits_L45 n) y1 y2 y4 x18 y6 σ15)))))))
theorem f_X4_fits_L45_s  (n : Nat) (y1 : Int32) (y2 : Int32) (y4 : Int32) (y5 : Int32) (y6 : Int32) (σ : Mem) : f_X4_fits_L45  (n + 1) y1 y2 y4 y5 y6 σ = if 12 ≤ y6 then some (y5, σ) else vI 6 y4 (fun j10 => vW σ (25 + 1) j10 y6 (fun σ11 => vI 8 y2 (fun j12 => vC (f_X0_take 37 (1 + 3 + 1 + j12) σ11) (fun _ σ13 => vI 4 y1 (fun j14 => vC (f_X4_isProbeAsTold (40 + 1 + 2 * j14) σ13) (fun r16 σ15 => if r16 = 0 then f_X4_fits_J102 (f_X4_fits_L45 n) y1 y2 y4 y5 y6 σ15 else vL (y5 ||| (1 <<< (y6 &&& 31))) (fun x18 => f_X4_fits_J102 (f_X4_fits_L45 n) y1 y2 y4 x18 y6 σ15))))))) := rfl
def f_X4_fits (x1 : Int32) (x2 : Int32) (σ : Mem) : Option (Int32 × Mem) := vC (f_X4_findingForTold x1 x2 σ) (fun r2 σ1 => vL r2 (fun x3 => if x3 = (-1) then vC (f_X1_take 25 1 σ1) (fun _ σ4 => vC (f_X1_placeIn 1 0 σ4) (fun r6 σ5 => vL r6 (fun x7 => vL (0 : Int32) (fun x8 => vL (0 : Int32) (fun x9 => f_X4_fits_L45 FU x1 x2 x7 x8 x9 σ5))))) else vC (f_X4_find x3 σ1) (fun r20 σ19 => some (r20, σ19))))
abbrev rm_X4_kinds : Room := { frames := 5, cells := 0, slots := 0, locals := 107 }
def f_X4_kinds_J89 (k35 : Int32 → Int32 → Int32 → Int32 → Mem → Option (Int32 × Mem)) (y1 : Int32) (y2 : Int32) (y4 : Int32) (y5 : Int32) (σ : Mem) : Option (Int32 × Mem) := vL (y5 + 1) (fun x13 => k35 y1 y2 y4 x13 σ)
def f_X4_kinds_L35  : Nat → Int32 → Int32 → Int32 → Int32 → Mem → Option (Int32 × Mem)
  | 0 => fun _ _ _ _ _ => none
  | n + 1 => fun y1 y2 y4 y5 σ => if 7 ≤ y5 then some (y4, σ) else vI 8 y2 (fun j7 => vC (f_X0_take 37 (1 + 3 + 1 + j7) σ) (fun _ σ8 => vW σ8 37 0 y5 (fun σ9 => vI 4 y1 (fun j10 => vC (f_X4_isProbeAsTold (40 + 1 + 2 * j10) σ9) (fun r12 σ11 => if r12 = 0 then f_X4_kinds_J89 (f_X4_kinds_L35 n) y1 y2 y4 y5 σ11 else vL (y4 ||| (1 <<< (y5 &&& 31))) (fun x14 => f_X4_kinds_J89 (f_X4_kinds_L35 n) y1 y2 x14 y5 σ11))))))
theorem f_X4_kinds_L35_s  (n : Nat) (y1 : Int32) (y2 : Int32) (y4 : Int32) (y5 : Int32) (σ : Mem) : f_X4_kinds_L35  (n + 1) y1 y2 y4 y5 σ = if 7 ≤ y5 then some (y4, σ) else vI 8 y2 (fun j7 => vC (f_X0_take 37 (1 + 3 + 1 + j7) σ) (fun _ σ8 => vW σ8 37 0 y5 (fun σ9 => vI 4 y1 (fun j10 => vC (f_X4_isProbeAsTold (40 + 1 + 2 * j10) σ9) (fun r12 σ11 => if r12 = 0 then f_X4_kinds_J89 (f_X4_kinds_L35 n) y1 y2 y4 y5 σ11 else vL (y4 ||| (1 <<< (y5 &&& 31))) (fun x14 => f_X4_kinds_J89 (f_X4_kinds_L35 n) y1 y2 x14 y5 σ11)))))) := rfl
def f_X4_kinds (x1 : Int32) (x2 : Int32) (σ : Mem) : Option (Int32 × Mem) := vC (f_X4_findingForTold x1 x2 σ) (fun r2 σ1 => vL r2 (fun x3 => if x3 = (-1) then vC (f_X1_take 25 1 σ1) (fun _ σ4 => vL (0 : Int32) (fun x5 => vL (0 : Int32) (fun x6 => f_X4_kinds_L35 FU x1 x2 x5 x6 σ4))) else vC (f_X4_find x3 σ1) (fun r16 σ15 => some (r16, σ15))))
abbrev rm_X4_evening : Room := { frames := 5, cells := 0, slots := 0, locals := 107 }
def f_X4_evening_J113 (k38 : Int32 → Int32 → Mem → Option (Int32 × Mem)) (y1 : Int32) (y2 : Int32) (σ : Mem) : Option (Int32 × Mem) := vC (f_X1_passBeat 1 σ) (fun _ σ16 => vL (y2 + 1) (fun x17 => k38 y1 x17 σ16))
def f_X4_evening_L38  : Nat → Int32 → Int32 → Mem → Option (Int32 × Mem)
  | 0 => fun _ _ _ => none
  | n + 1 => fun y1 y2 σ => if y1 ≤ y2 then some (σ 1 1, σ) else vC (f_X1_draw 1 σ) (fun r5 σ4 => vL (r5 - r5 / 12 * 12) (fun x6 => vC (f_X1_draw 1 σ4) (fun r8 σ7 => vL (r8 - r8 / 8 * 8) (fun x9 => vC (f_X1_placeIn 1 0 σ7) (fun r11 σ10 => vI 6 r11 (fun j12 => vW σ10 (1 + 1) j12 x6 (fun σ13 => vC (f_X4_isCurtain x9 σ13) (fun r15 σ14 => if r15 = 0 then f_X4_evening_J113 (f_X4_evening_L38 n) y1 y2 σ14 else vI 8 x9 (fun j18 => vW σ14 (1 + 3 + 1 + j18) 2 ((σ14 (1 + 3 + 1 + j18) 2) ^^^ (1 <<< (x6 &&& 31))) (fun σ19 => f_X4_evening_J113 (f_X4_evening_L38 n) y1 y2 σ19))))))))))
theorem f_X4_evening_L38_s  (n : Nat) (y1 : Int32) (y2 : Int32) (σ : Mem) : f_X4_evening_L38  (n + 1) y1 y2 σ = if y1 ≤ y2 then some (σ 1 1, σ) else vC (f_X1_draw 1 σ) (fun r5 σ4 => vL (r5 - r5 / 12 * 12) (fun x6 => vC (f_X1_draw 1 σ4) (fun r8 σ7 => vL (r8 - r8 / 8 * 8) (fun x9 => vC (f_X1_placeIn 1 0 σ7) (fun r11 σ10 => vI 6 r11 (fun j12 => vW σ10 (1 + 1) j12 x6 (fun σ13 => vC (f_X4_isCurtain x9 σ13) (fun r15 σ14 => if r15 = 0 then f_X4_evening_J113 (f_X4_evening_L38 n) y1 y2 σ14 else vI 8 x9 (fun j18 => vW σ14 (1 + 3 + 1 + j18) 2 ((σ14 (1 + 3 + 1 + j18) 2) ^^^ (1 <<< (x6 &&& 31))) (fun σ19 => f_X4_evening_J113 (f_X4_evening_L38 n) y1 y2 σ19)))))))))) := rfl
def f_X4_evening (x1 : Int32) (σ : Mem) : Option (Int32 × Mem) := vC (f_X4_isWithin x1 1 20 σ) (fun r2 σ1 => if r2 = 0 then vC (f_X4_find 0 σ1) (fun r23 σ22 => some (r23, σ22)) else if (σ1 1 3) ≤ ((99999) - x1) then vL (0 : Int32) (fun x3 => f_X4_evening_L38 FU x1 x3 σ1) else vC (f_X4_find 4 σ1) (fun r21 σ20 => some (r21, σ20)))
abbrev rm_X4_commonDivisorWithScenes : Room := { frames := 0, cells := 0, slots := 0, locals := 0 }
def f_X4_commonDivisorWithScenes_J23 (k3 : Int32 → Int32 → Mem → Option (Int32 × Mem)) (y0 : Int32) (y1 : Int32) (σ : Mem) : Option (Int32 × Mem) := vL (y1 + (-1)) (fun x2 => k3 y0 x2 σ)
def f_X4_commonDivisorWithScenes_L3  : Nat → Int32 → Int32 → Mem → Option (Int32 × Mem)
  | 0 => fun _ _ _ => none
  | n + 1 => fun y0 y1 σ => if y1 ≤ 1 then some (1, σ) else vN y1 (if (12 - 12 / y1 * y1) = 0 then vN y1 (if (y0 - y0 / y1 * y1) = 0 then some (y1, σ) else f_X4_commonDivisorWithScenes_J23 (f_X4_commonDivisorWithScenes_L3 n) y0 y1 σ) else f_X4_commonDivisorWithScenes_J23 (f_X4_commonDivisorWithScenes_L3 n) y0 y1 σ)
theorem f_X4_commonDivisorWithScenes_L3_s  (n : Nat) (y0 : Int32) (y1 : Int32) (σ : Mem) : f_X4_commonDivisorWithScenes_L3  (n + 1) y0 y1 σ = if y1 ≤ 1 then some (1, σ) else vN y1 (if (12 - 12 / y1 * y1) = 0 then vN y1 (if (y0 - y0 / y1 * y1) = 0 then some (y1, σ) else f_X4_commonDivisorWithScenes_J23 (f_X4_commonDivisorWithScenes_L3 n) y0 y1 σ) else f_X4_commonDivisorWithScenes_J23 (f_X4_commonDivisorWithScenes_L3 n) y0 y1 σ) := rfl
def f_X4_commonDivisorWithScenes (x0 : Int32) (σ : Mem) : Option (Int32 × Mem) := vL (12 : Int32) (fun x1 => f_X4_commonDivisorWithScenes_L3 FU x0 x1 σ)
abbrev rm_X4_odds : Room := { frames := 2, cells := 0, slots := 0, locals := 43 }
def f_X4_odds_J27   (σ : Mem) : Option (Int64 × Mem) := vC (f_X4_find 0 σ) (fun r4 σ3 => some (r4.toInt64, σ3))
def f_X4_odds_L76  : Nat → Int32 → Int32 → Int64 → Int32 → Mem → Option (Int64 × Mem)
  | 0 => fun _ _ _ _ _ => none
  | n + 1 => fun y2 y5 z6 y8 σ => if y2 ≤ y8 then some (z6, σ) else vL (z6 * y5.toInt64) (fun z18 => vL (y8 + 1) (fun x19 => (f_X4_odds_L76 n) y2 y5 z18 x19 σ))
theorem f_X4_odds_L76_s  (n : Nat) (y2 : Int32) (y5 : Int32) (z6 : Int64) (y8 : Int32) (σ : Mem) : f_X4_odds_L76  (n + 1) y2 y5 z6 y8 σ = if y2 ≤ y8 then some (z6, σ) else vL (z6 * y5.toInt64) (fun z18 => vL (y8 + 1) (fun x19 => (f_X4_odds_L76 n) y2 y5 z18 x19 σ)) := rfl
def f_X4_odds_J62  (y2 : Int32) (y4 : Int32) (s0 : Int32) (σ : Mem) : Option (Int64 × Mem) := vC (f_X4_commonDivisorWithScenes y4 σ) (fun r14 σ13 => vN r14 (vL (s0 / r14) (fun x15 => vL (1 : Int64) (fun z16 => vL (0 : Int32) (fun x17 => f_X4_odds_L76 FU y2 x15 z16 x17 σ13)))))
def f_X4_odds (x1 : Int32) (x2 : Int32) (x3 : Int32) (σ : Mem) : Option (Int64 × Mem) := vC (f_X4_isCurtain x1 σ) (fun r2 σ1 => if r2 = 0 then f_X4_odds_J27 σ1 else vC (f_X4_isWithin x2 0 17 σ1) (fun r6 σ5 => if r6 = 0 then f_X4_odds_J27 σ5 else vC (f_X4_isWithin x3 0 1 σ5) (fun r8 σ7 => if r8 = 0 then f_X4_odds_J27 σ7 else vI 8 x1 (fun j9 => vC (f_J6_bitCount_0f7a4 (σ7 (1 + 3 + 1 + j9) 2) σ7) (fun r11 σ10 => vL r11 (fun x12 => if x3 = 0 then f_X4_odds_J62 x2 x12 x12 σ10 else f_X4_odds_J62 x2 x12 12 σ10))))))
abbrev rm_X4_seed : Room := { frames := 0, cells := 0, slots := 0, locals := 0 }
def f_X4_seed (x1 : Int32) (σ : Mem) : Option (Int32 × Mem) := vL (σ 1 4) (fun x1 => vW σ 1 4 x1 (fun σ2 => some (x1, σ2)))
abbrev rm_X4_feed : Room := { frames := 1, cells := 0, slots := 0, locals := 22 }
def f_X4_feed_L39  : Nat → Int32 → Int32 → Mem → Option (Int32 × Mem)
  | 0 => fun _ _ _ => none
  | n + 1 => fun y1 y3 σ => if y3 < 0 then some (σ 38 1, σ) else vC (f_X3_add ((y1 >>> ((8 * y3) &&& 31)).toInt8.toInt32) σ) (fun _ σ4 => vL (y3 + (-1)) (fun x5 => (f_X4_feed_L39 n) y1 x5 σ4))
theorem f_X4_feed_L39_s  (n : Nat) (y1 : Int32) (y3 : Int32) (σ : Mem) : f_X4_feed_L39  (n + 1) y1 y3 σ = if y3 < 0 then some (σ 38 1, σ) else vC (f_X3_add ((y1 >>> ((8 * y3) &&& 31)).toInt8.toInt32) σ) (fun _ σ4 => vL (y3 + (-1)) (fun x5 => (f_X4_feed_L39 n) y1 x5 σ4)) := rfl
def f_X4_feed (x1 : Int32) (x2 : Int32) (σ : Mem) : Option (Int32 × Mem) := vC (f_X4_isWithin x2 1 4 σ) (fun r2 σ1 => if r2 = 0 then vC (f_X4_find 0 σ1) (fun r9 σ8 => some (r9, σ8)) else if (σ1 38 1) ≤ (120 - x2) then vL (x2 - 1) (fun x3 => f_X4_feed_L39 FU x1 x3 σ1) else vC (f_X4_find 1 σ1) (fun r7 σ6 => some (r7, σ6)))
abbrev rm_X4_wipe : Room := { frames := 0, cells := 0, slots := 0, locals := 0 }
def f_X4_wipe  (σ : Mem) : Option (Int32 × Mem) := vL (σ 38 1) (fun x1 => vW σ 38 1 0 (fun σ2 => some (x1, σ2)))
abbrev rm_X4_text : Room := { frames := 9, cells := 0, slots := 0, locals := 203 }
def f_X4_text_J38  (y1 : Int32) (σ : Mem) : Option (Int32 × Mem) := vW σ 38 1 0 (fun σ5 => some (y1, σ5))
def f_X4_text  (σ : Mem) : Option (Int32 × Mem) := vC (f_X1_take 25 1 σ) (fun _ σ1 => vC (f_X3_readInto 25 σ1) (fun r3 σ2 => vL r3 (fun x4 => if x4 < 0 then f_X4_text_J38 x4 σ2 else vC (f_X1_take 1 25 σ2) (fun _ σ6 => f_X4_text_J38 x4 σ6))))
abbrev rm_X4_isSpot : Room := { frames := 1, cells := 0, slots := 0, locals := 22 }
def f_X4_isSpot (x0 : Int32) (σ : Mem) : Option (Int32 × Mem) := vC (f_X4_isWithin x0 0 9 σ) (fun r2 σ1 => vB r2 (some (r2, σ1)))
abbrev rm_X4_hold : Room := { frames := 2, cells := 0, slots := 0, locals := 43 }
def f_X4_hold_J20   (σ : Mem) : Option (Int32 × Mem) := vC (f_X4_find 0 σ) (fun r4 σ3 => some (r4, σ3))
def f_X4_hold_J26  (y1 : Int32) (y2 : Int32) (σ : Mem) : Option (Int32 × Mem) := vI 10 y1 (fun j5 => vW σ (1 + 2) j5 y2 (fun σ6 => some (1, σ6)))
def f_X4_hold (x1 : Int32) (x2 : Int32) (σ : Mem) : Option (Int32 × Mem) := vC (f_X4_isSpot x1 σ) (fun r2 σ1 => if r2 = 0 then f_X4_hold_J20 σ1 else if x2 = (-1) then f_X4_hold_J26 x1 x2 σ1 else vC (f_X4_isCurtain x2 σ1) (fun r8 σ7 => if r8 = 0 then f_X4_hold_J20 σ7 else f_X4_hold_J26 x1 x2 σ7))
abbrev rm_X4_as : Room := { frames := 2, cells := 0, slots := 0, locals := 43 }
def f_X4_as_J14   (σ : Mem) : Option (Int32 × Mem) := vC (f_X4_find 0 σ) (fun r4 σ3 => some (r4, σ3))
def f_X4_as (x1 : Int32) (x2 : Int32) (σ : Mem) : Option (Int32 × Mem) := vC (f_X4_isSpot x1 σ) (fun r2 σ1 => if r2 = 0 then f_X4_as_J14 σ1 else vC (f_X4_isKind x2 σ1) (fun r6 σ5 => if r6 = 0 then f_X4_as_J14 σ5 else vI 10 x1 (fun j7 => vL (σ5 (1 + 2) j7) (fun x8 => vC (f_X4_isCurtain x8 σ5) (fun r10 σ9 => if r10 = 0 then vC (f_X4_find 5 σ9) (fun r17 σ16 => some (r17, σ16)) else vI 8 x8 (fun j11 => vC (f_X0_countsAs (1 + 3 + 1 + j11) x2 σ9) (fun r13 σ12 => if r13 = 0 then vC (f_X4_find 2 σ12) (fun r15 σ14 => some (r15, σ14)) else some (x8, σ12))))))))
abbrev rm_X4_sheet : Room := { frames := 2, cells := 0, slots := 0, locals := 42 }
def f_X4_sheet_J29   (σ : Mem) : Option (Int32 × Mem) := vC (f_X4_find 0 σ) (fun r4 σ3 => some (r4, σ3))
def f_X4_sheet_J74  (y1 : Int32) (c0 : Nat) (s1 : Int32) (s2 : Int32) (σ : Mem) : Option (Int32 × Mem) := vC (f_X2_lay c0 s1 s2 σ) (fun _ σ6 => vI 4 y1 (fun j7 => some (σ6 (40 + 1 + 2 * j7) 1, σ6)))
def f_X4_sheet_J35  (y1 : Int32) (y2 : Int32) (y3 : Int32) (σ : Mem) : Option (Int32 × Mem) := if 0 ≤ y3 then if y3 ≤ 40 then vI 4 y1 (fun j5 => if y2 = 0 then f_X4_sheet_J74 y1 (40 + 1 + 2 * j5) y2 0 σ else f_X4_sheet_J74 y1 (40 + 1 + 2 * j5) y2 y3 σ) else vC (f_X4_find 0 σ) (fun r9 σ8 => some (r9, σ8)) else vC (f_X4_find 6 σ) (fun r11 σ10 => some (r11, σ10))
def f_X4_sheet (x1 : Int32) (x2 : Int32) (x3 : Int32) (σ : Mem) : Option (Int32 × Mem) := vC (f_X4_isSheet x1 σ) (fun r2 σ1 => if r2 = 0 then f_X4_sheet_J29 σ1 else if x2 = 0 then f_X4_sheet_J35 x1 x2 x3 σ1 else if x2 = 8 then f_X4_sheet_J35 x1 x2 x3 σ1 else if x2 = 16 then f_X4_sheet_J35 x1 x2 x3 σ1 else if x2 = 32 then f_X4_sheet_J35 x1 x2 x3 σ1 else f_X4_sheet_J29 σ1)
abbrev rm_X4_write : Room := { frames := 2, cells := 0, slots := 0, locals := 42 }
def f_X4_write (x1 : Int32) (x2 : Int32) (x3 : Int32) (σ : Mem) : Option (Int32 × Mem) := vC (f_X4_isSheet x1 σ) (fun r2 σ1 => if r2 = 0 then vC (f_X4_find 0 σ1) (fun r16 σ15 => some (r16, σ15)) else vI 4 x1 (fun j3 => vC (f_X2_isMissing (40 + 1 + 2 * j3) σ1) (fun r5 σ4 => if r5 = 0 then vI 4 x1 (fun j6 => vC (f_X4_isWithin x2 0 ((σ4 (40 + 1 + 2 * j6) 1) - 1) σ4) (fun r8 σ7 => if r8 = 0 then vC (f_X4_find 0 σ7) (fun r12 σ11 => some (r12, σ11)) else vI 4 x1 (fun j9 => vC (f_X2_put (40 + 1 + 2 * j9) x2 x3 σ7) (fun _ σ10 => some (1, σ10))))) else vC (f_X4_find 5 σ4) (fun r14 σ13 => some (r14, σ13)))))
abbrev rm_X4_copy : Room := { frames := 2, cells := 0, slots := 0, locals := 42 }
def f_X4_copy_J14   (σ : Mem) : Option (Int32 × Mem) := vC (f_X4_find 0 σ) (fun r4 σ3 => some (r4, σ3))
def f_X4_copy_J52   (σ : Mem) : Option (Int32 × Mem) := vC (f_X4_find 5 σ) (fun r12 σ11 => some (r12, σ11))
def f_X4_copy_J100   (σ : Mem) : Option (Int32 × Mem) := vC (f_X4_find 0 σ) (fun r18 σ17 => some (r18, σ17))
def f_X4_copy (x1 : Int32) (x2 : Int32) (x3 : Int32) (x4 : Int32) (x5 : Int32) (σ : Mem) : Option (Int32 × Mem) := vC (f_X4_isSheet x1 σ) (fun r2 σ1 => if r2 = 0 then f_X4_copy_J14 σ1 else vC (f_X4_isSheet x3 σ1) (fun r6 σ5 => if r6 = 0 then f_X4_copy_J14 σ5 else vI 4 x1 (fun j7 => vI 4 x3 (fun j8 => vC (f_X2_isMissing (40 + 1 + 2 * j7) σ5) (fun r10 σ9 => if r10 = 0 then vC (f_X2_isMissing (40 + 1 + 2 * j8) σ9) (fun r14 σ13 => if r14 = 0 then if (σ13 (40 + 1 + 2 * j7) 0) = (σ13 (40 + 1 + 2 * j8) 0) then vC (f_X2_has (40 + 1 + 2 * j7) x2 x5 σ13) (fun r16 σ15 => if r16 = 0 then f_X4_copy_J100 σ15 else vC (f_X2_has (40 + 1 + 2 * j8) x4 x5 σ15) (fun r20 σ19 => if r20 = 0 then f_X4_copy_J100 σ19 else vY σ19 ((40 + 1 + 2 * j7) + 1) ((40 + 1 + 2 * j8) + 1) 40 40 x2 x4 x5 (fun σ21 => some (x5, σ21)))) else vC (f_X4_find 2 σ13) (fun r23 σ22 => some (r23, σ22)) else f_X4_copy_J52 σ13) else f_X4_copy_J52 σ9)))))
abbrev rm_X4_load : Room := { frames := 2, cells := 0, slots := 0, locals := 43 }
def f_X4_load_L35  : Nat → Nat → Int32 → Mem → Option (Int32 × Mem)
  | 0 => fun _ _ _ => none
  | n + 1 => fun b2 y3 σ => if (σ b2 1) ≤ y3 then some (σ b2 1, σ) else vC (f_X4_isCurtain y3 σ) (fun r8 σ7 => if r8 = 0 then some (y3, σ7) else vI 40 y3 (fun j9 => vC (f_X4_isWithin (σ7 (b2 + 1) j9) 0 4095 σ7) (fun r11 σ10 => if r11 = 0 then some (y3, σ10) else vI 8 y3 (fun j12 => vI 40 y3 (fun j13 => vW σ10 (1 + 3 + 1 + j12) 2 (σ10 (b2 + 1) j13) (fun σ14 => vL (y3 + 1) (fun x15 => (f_X4_load_L35 n) b2 x15 σ14)))))))
theorem f_X4_load_L35_s  (n : Nat) (b2 : Nat) (y3 : Int32) (σ : Mem) : f_X4_load_L35  (n + 1) b2 y3 σ = if (σ b2 1) ≤ y3 then some (σ b2 1, σ) else vC (f_X4_isCurtain y3 σ) (fun r8 σ7 => if r8 = 0 then some (y3, σ7) else vI 40 y3 (fun j9 => vC (f_X4_isWithin (σ7 (b2 + 1) j9) 0 4095 σ7) (fun r11 σ10 => if r11 = 0 then some (y3, σ10) else vI 8 y3 (fun j12 => vI 40 y3 (fun j13 => vW σ10 (1 + 3 + 1 + j12) 2 (σ10 (b2 + 1) j13) (fun σ14 => vL (y3 + 1) (fun x15 => (f_X4_load_L35 n) b2 x15 σ14))))))) := rfl
def f_X4_load (x1 : Int32) (σ : Mem) : Option (Int32 × Mem) := vC (f_X4_isSheet x1 σ) (fun r2 σ1 => if r2 = 0 then vC (f_X4_find 0 σ1) (fun r19 σ18 => some (r19, σ18)) else vI 4 x1 (fun j3 => vC (f_X2_isMissing (40 + 1 + 2 * j3) σ1) (fun r5 σ4 => if r5 = 0 then vL (0 : Int32) (fun x6 => f_X4_load_L35 FU (40 + 1 + 2 * j3) x6 σ4) else vC (f_X4_find 5 σ4) (fun r17 σ16 => some (r17, σ16)))))
abbrev rm_X4_judge : Room := { frames := 2, cells := 0, slots := 0, locals := 43 }
def f_X4_judge_J72  (y3 : Int32) (σ : Mem) : Option (Int32 × Mem) := some (1 + y3, σ)
def f_X4_judge_L35  : Nat → Nat → Int32 → Mem → Option (Int32 × Mem)
  | 0 => fun _ _ _ => none
  | n + 1 => fun b2 y3 σ => if (σ b2 1) ≤ y3 then some (0, σ) else vC (f_X4_isCurtain y3 σ) (fun r8 σ7 => if r8 = 0 then f_X4_judge_J72 y3 σ7 else vI 40 y3 (fun j9 => vI 8 y3 (fun j10 => if (σ7 (b2 + 1) j9) = (σ7 (1 + 3 + 1 + j10) 3) then vL (y3 + 1) (fun x11 => (f_X4_judge_L35 n) b2 x11 σ7) else f_X4_judge_J72 y3 σ7)))
theorem f_X4_judge_L35_s  (n : Nat) (b2 : Nat) (y3 : Int32) (σ : Mem) : f_X4_judge_L35  (n + 1) b2 y3 σ = if (σ b2 1) ≤ y3 then some (0, σ) else vC (f_X4_isCurtain y3 σ) (fun r8 σ7 => if r8 = 0 then f_X4_judge_J72 y3 σ7 else vI 40 y3 (fun j9 => vI 8 y3 (fun j10 => if (σ7 (b2 + 1) j9) = (σ7 (1 + 3 + 1 + j10) 3) then vL (y3 + 1) (fun x11 => (f_X4_judge_L35 n) b2 x11 σ7) else f_X4_judge_J72 y3 σ7))) := rfl
def f_X4_judge (x1 : Int32) (σ : Mem) : Option (Int32 × Mem) := vC (f_X4_isSheet x1 σ) (fun r2 σ1 => if r2 = 0 then vC (f_X4_find 0 σ1) (fun r15 σ14 => some (r15, σ14)) else vI 4 x1 (fun j3 => vC (f_X2_isMissing (40 + 1 + 2 * j3) σ1) (fun r5 σ4 => if r5 = 0 then vL (0 : Int32) (fun x6 => f_X4_judge_L35 FU (40 + 1 + 2 * j3) x6 σ4) else vC (f_X4_find 5 σ4) (fun r13 σ12 => some (r13, σ12)))))
abbrev rm_X4_image : Room := { frames := 2, cells := 0, slots := 0, locals := 43 }
def f_X4_image  (σ : Mem) : Option (Int32 × Mem) := vC (f_X1_take 13 1 σ) (fun _ σ1 => vW σ1 0 2 1 (fun σ2 => some (1, σ2)))
abbrev rm_X4_undo : Room := { frames := 2, cells := 0, slots := 0, locals := 43 }
def f_X4_undo  (σ : Mem) : Option (Int32 × Mem) := if (σ 0 2) = 0 then vC (f_X4_find 3 σ) (fun r3 σ2 => some (r3, σ2)) else vC (f_X1_take 1 13 σ) (fun _ σ1 => some (σ1 1 3, σ1))
abbrev rm_X4_tear : Room := { frames := 0, cells := 0, slots := 0, locals := 0 }
def f_X4_tear_J12  (s0 : Int32) (σ : Mem) : Option (Int32 × Mem) := vL s0 (fun x1 => vW σ 0 2 0 (fun σ2 => some (x1, σ2)))
def f_X4_tear  (σ : Mem) : Option (Int32 × Mem) := if (σ 0 2) = 0 then f_X4_tear_J12 0 σ else f_X4_tear_J12 1 σ
abbrev rm_X4_count : Room := { frames := 1, cells := 0, slots := 0, locals := 25 }
def f_X4_count (x1 : Int32) (σ : Mem) : Option (Int32 × Mem) := if x1 = 0 then some (σ 1 3, σ) else if x1 = 1 then some (σ 1 5, σ) else if x1 = 2 then some (σ 1 1, σ) else if x1 = 3 then some (σ 1 2, σ) else if x1 = 4 then vC (f_X1_thoseDown 1 σ) (fun r2 σ1 => vC (f_J6_bitCount_0f7a4 r2 σ1) (fun r4 σ3 => some (r4, σ3))) else if x1 = 5 then some (σ 38 1, σ) else if x1 = 6 then some (σ 1 4, σ) else if x1 = 7 then vC (f_X1_heldSpots 1 σ) (fun r6 σ5 => some (r6, σ5)) else vC (f_X4_find 0 σ) (fun r8 σ7 => some (r8, σ7))
abbrev rm_X4_status : Room := { frames := 1, cells := 0, slots := 0, locals := 22 }
def f_X4_status_L31  : Nat → Int32 → Int32 → Mem → Option (Int32 × Mem)
  | 0 => fun _ _ _ => none
  | n + 1 => fun y2 y3 σ => if 7 ≤ y3 then some (y2, σ) else vI 7 y3 (fun j5 => vL (y2 + (σ 49 j5)) (fun x6 => vL (y3 + 1) (fun x7 => (f_X4_status_L31 n) x6 x7 σ)))
theorem f_X4_status_L31_s  (n : Nat) (y2 : Int32) (y3 : Int32) (σ : Mem) : f_X4_status_L31  (n + 1) y2 y3 σ = if 7 ≤ y3 then some (y2, σ) else vI 7 y3 (fun j5 => vL (y2 + (σ 49 j5)) (fun x6 => vL (y3 + 1) (fun x7 => (f_X4_status_L31 n) x6 x7 σ))) := rfl
def f_X4_status (x1 : Int32) (σ : Mem) : Option (Int32 × Mem) := vC (f_X4_isWithin x1 (-1) 6 σ) (fun r2 σ1 => if r2 = 0 then vC (f_X4_find 0 σ1) (fun r10 σ9 => some (r10, σ9)) else if x1 < 0 then vL (0 : Int32) (fun x3 => vL (0 : Int32) (fun x4 => f_X4_status_L31 FU x3 x4 σ1)) else vI 7 x1 (fun j8 => some (σ1 49 j8, σ1)))
