/-- String.length, String.charAt of a String constant -/
def f_J0_length_8abf5 (a0 : Nat) (σ : Mem) : Option (Int32 × Mem) := some (Int32.ofNat (kLen.getD a0 0), σ)
def f_J0_charAt_5068e (a0 : Nat) (x1 : Int32) (σ : Mem) : Option (Int32 × Mem) := vI (kLen.getD a0 0) x1 (fun j => some ((((kByt.getD a0 []).getD j 0 &&& 255).toUInt32 % 65536).toInt32, σ))
abbrev rm_J0_length_8abf5 : Room := { frames := 1, cells := 0, slots := 0, locals := 20 }
abbrev rm_J0_charAt_5068e : Room := { frames := 3, cells := 0, slots := 0, locals := 67 }
abbrev rm_J6_bitCount_0f7a4 : Room := { frames := 0, cells := 0, slots := 0, locals := 0 }
def f_J6_bitCount_0f7a4 (x0 : Int32) (σ : Mem) : Option (Int32 × Mem) := vL (x0 - (((x0.toUInt32 >>> ((1 : Int32).toUInt32 &&& Int32.toUInt32 31)).toInt32) &&& (1431655765))) (fun x21 => vL ((x21 &&& (858993459)) + (((x21.toUInt32 >>> ((2 : Int32).toUInt32 &&& Int32.toUInt32 31)).toInt32) &&& (858993459))) (fun x22 => vL ((x22 + ((x22.toUInt32 >>> ((4 : Int32).toUInt32 &&& Int32.toUInt32 31)).toInt32)) &&& (252645135)) (fun x23 => vL (x23 + ((x23.toUInt32 >>> ((8 : Int32).toUInt32 &&& Int32.toUInt32 31)).toInt32)) (fun x24 => vL (x24 + ((x24.toUInt32 >>> ((16 : Int32).toUInt32 &&& Int32.toUInt32 31)).toInt32)) (fun x25 => some (x25 &&& 63, σ))))))
abbrev rm_X0_beNew : Room := { frames := 0, cells := 0, slots := 0, locals := 0 }
def f_X0_beNew (a0 : Nat) (x1 : Int32) (σ : Mem) : Option (Unit × Mem) := vW σ a0 0 x1 (fun σ21 => vW σ21 a0 1 60 (fun σ22 => vW σ22 a0 2 0 (fun σ23 => vW σ23 a0 3 20 (fun σ24 => vW σ24 a0 4 0 (fun σ25 => vW σ25 a0 5 0 (fun σ26 => some ((), σ26)))))))
abbrev rm_X0_take : Room := { frames := 0, cells := 0, slots := 0, locals := 0 }
def f_X0_take (a0 : Nat) (a1 : Nat) (σ : Mem) : Option (Unit × Mem) := vW σ a0 0 (σ a1 0) (fun σ21 => vW σ21 a0 1 (σ21 a1 1) (fun σ22 => vW σ22 a0 2 (σ22 a1 2) (fun σ23 => vW σ23 a0 3 (σ23 a1 3) (fun σ24 => vW σ24 a0 4 (σ24 a1 4) (fun σ25 => vW σ25 a0 5 (σ25 a1 5) (fun σ26 => some ((), σ26)))))))
abbrev rm_X0_gladdens : Room := { frames := 1, cells := 0, slots := 0, locals := 20 }
def f_X0_gladdens (a0 : Nat) (σ : Mem) : Option (Int32 × Mem) := if (σ a0 0) = 4 then vI 7 (σ a0 0) (fun j22 => vC (f_J6_bitCount_0f7a4 (σ a0 2) σ) (fun r24 σ23 => some (((sTab 0).getD j22 0) + r24, σ23))) else vI 7 (σ a0 0) (fun j21 => some ((sTab 0).getD j21 0, σ))
abbrev rm_X0_tires : Room := { frames := 0, cells := 0, slots := 0, locals := 0 }
def f_X0_tires_J34  (b0 : Nat) (y1 : Int32) (σ : Mem) : Option (Int32 × Mem) := vI 7 (σ b0 0) (fun j21 => some (((sTab 1).getD j21 0) + (y1 &&& 1), σ))
def f_X0_tires_J18  (b0 : Nat) (y1 : Int32) (σ : Mem) : Option (Int32 × Mem) := if (σ b0 0) = 3 then f_X0_tires_J34 b0 y1 σ else if (σ b0 0) = 4 then f_X0_tires_J34 b0 y1 σ else vI 7 (σ b0 0) (fun j22 => some ((sTab 1).getD j22 0, σ))
def f_X0_tires (a0 : Nat) (x1 : Int32) (σ : Mem) : Option (Int32 × Mem) := if (σ a0 0) = 6 then if (σ a0 3) = 0 then some (0, σ) else f_X0_tires_J18 a0 x1 σ else f_X0_tires_J18 a0 x1 σ
abbrev rm_X0_bears : Room := { frames := 0, cells := 0, slots := 0, locals := 0 }
def f_X0_bears (a0 : Nat) (σ : Mem) : Option (Int32 × Mem) := vI 7 (σ a0 0) (fun j21 => some ((sTab 2).getD j21 0, σ))
abbrev rm_X0_falls : Room := { frames := 0, cells := 0, slots := 0, locals := 0 }
def f_X0_falls_J28  (b0 : Nat) (σ : Mem) : Option (Int32 × Mem) := vI 7 (σ b0 0) (fun j21 => some ((sTab 3).getD j21 0, σ))
def f_X0_falls (a0 : Nat) (x1 : Int32) (σ : Mem) : Option (Int32 × Mem) := if (σ a0 0) = 6 then if x1 = 1 then vI 7 (σ a0 0) (fun j22 => some (((sTab 3).getD j22 0) + 6, σ)) else f_X0_falls_J28 a0 σ else f_X0_falls_J28 a0 σ
abbrev rm_X0_rises : Room := { frames := 0, cells := 0, slots := 0, locals := 0 }
def f_X0_rises (a0 : Nat) (σ : Mem) : Option (Int32 × Mem) := vI 7 (σ a0 0) (fun j21 => some ((sTab 4).getD j21 0, σ))
abbrev rm_X0_tell : Room := { frames := 2, cells := 0, slots := 0, locals := 40 }
def f_X0_tell (a0 : Nat) (x1 : Int32) (x2 : Int32) (x3 : Int32) (σ : Mem) : Option (Int32 × Mem) := if x1 = 0 then some (σ a0 0, σ) else if x1 = 1 then some (σ a0 1, σ) else if x1 = 2 then some (σ a0 2, σ) else if x1 = 3 then some (σ a0 3, σ) else if x1 = 4 then some (σ a0 4, σ) else if x1 = 5 then some (σ a0 5, σ) else if x1 = 6 then vC (f_X0_gladdens a0 σ) (fun r22 σ21 => some (r22, σ21)) else if x1 = 7 then vC (f_X0_tires a0 x2 σ) (fun r24 σ23 => some (r24, σ23)) else if x1 = 8 then vC (f_X0_bears a0 σ) (fun r26 σ25 => some (r26, σ25)) else if x1 = 9 then vC (f_X0_falls a0 x3 σ) (fun r28 σ27 => some (r28, σ27)) else vC (f_X0_rises a0 σ) (fun r30 σ29 => some (r30, σ29))
abbrev rm_X0_set : Room := { frames := 0, cells := 0, slots := 0, locals := 0 }
def f_X0_set (a0 : Nat) (x1 : Int32) (x2 : Int32) (σ : Mem) : Option (Unit × Mem) := if x1 = 0 then vW σ a0 0 x2 (fun σ21 => some ((), σ21)) else if x1 = 1 then vW σ a0 1 x2 (fun σ22 => some ((), σ22)) else if x1 = 2 then vW σ a0 2 x2 (fun σ23 => some ((), σ23)) else if x1 = 3 then vW σ a0 3 x2 (fun σ24 => some ((), σ24)) else if x1 = 4 then vW σ a0 4 x2 (fun σ25 => some ((), σ25)) else vW σ a0 5 x2 (fun σ26 => some ((), σ26))
abbrev rm_X0_countsAs : Room := { frames := 0, cells := 0, slots := 0, locals := 0 }
def f_X0_countsAs (a0 : Nat) (x1 : Int32) (σ : Mem) : Option (Int32 × Mem) := vI 7 (σ a0 0) (fun j21 => if ((((sTab 5).getD j21 0) >>> (x1 &&& 31)) &&& 1) = 1 then some (1, σ) else some (0, σ))
abbrev rm_X0_getPulled : Room := { frames := 1, cells := 0, slots := 0, locals := 20 }
def f_X0_getPulled (a0 : Nat) (x1 : Int32) (σ : Mem) : Option (Unit × Mem) := vC (f_X0_rises a0 σ) (fun r22 σ21 => vW σ21 a0 3 (if (((σ a0 3) + (x1 / 10)) + r22) < 20 then (((σ a0 3) + (x1 / 10)) + r22) else 20) (fun σ23 => vW σ23 a0 1 (if 0 < ((σ23 a0 1) - (x1 / 5)) then ((σ23 a0 1) - (x1 / 5)) else 0) (fun σ24 => some ((), σ24))))
abbrev rm_X0_feel : Room := { frames := 2, cells := 0, slots := 0, locals := 40 }
def f_X0_feel (a0 : Nat) (x1 : Int32) (σ : Mem) : Option (Unit × Mem) := if (((σ a0 2) >>> (x1 &&& 31)) &&& 1) = 1 then vC (f_X0_gladdens a0 σ) (fun r25 σ24 => vW σ24 a0 1 (if ((σ a0 1) + r25) < 99 then ((σ a0 1) + r25) else 99) (fun σ26 => some ((), σ26))) else vC (f_X0_tires a0 x1 σ) (fun r22 σ21 => vW σ21 a0 1 (if 0 < ((σ a0 1) - r22) then ((σ a0 1) - r22) else 0) (fun σ23 => some ((), σ23)))
abbrev rm_X0_comeDown : Room := { frames := 1, cells := 0, slots := 0, locals := 14 }
def f_X0_comeDown (a0 : Nat) (x1 : Int32) (σ : Mem) : Option (Unit × Mem) := vW σ a0 5 (if ((σ a0 5) + 1) < 9999 then ((σ a0 5) + 1) else 9999) (fun σ21 => if x1 = 0 then vW σ21 a0 1 (if ((σ21 a0 1) + 25) < 99 then ((σ21 a0 1) + 25) else 99) (fun σ22 => some ((), σ22)) else some ((), σ21))
abbrev rm_X0_passBeat : Room := { frames := 3, cells := 0, slots := 0, locals := 61 }
def f_X0_passBeat_J99  (b0 : Nat) (y2 : Int32) (s0 : Int32) (σ : Mem) : Option (Int32 × Mem) := vL s0 (fun x26 => if x26 = 0 then vB x26 (some (x26, σ)) else vC (f_X0_comeDown b0 y2 σ) (fun _ σ27 => vB x26 (some (x26, σ27))))
def f_X0_passBeat_J98  (b0 : Nat) (y2 : Int32) (σ : Mem) : Option (Int32 × Mem) := f_X0_passBeat_J99 b0 y2 0 σ
def f_X0_passBeat_J83  (b0 : Nat) (y2 : Int32) (y3 : Int32) (σ : Mem) : Option (Int32 × Mem) := if y3 = 0 then f_X0_passBeat_J98 b0 y2 σ else if (σ b0 3) = 0 then f_X0_passBeat_J99 b0 y2 1 σ else f_X0_passBeat_J98 b0 y2 σ
def f_X0_passBeat_J44  (b0 : Nat) (y2 : Int32) (y3 : Int32) (σ : Mem) : Option (Int32 × Mem) := vC (f_X0_falls b0 y2 σ) (fun r24 σ23 => vW σ23 b0 3 (if 0 < ((σ b0 3) - r24) then ((σ b0 3) - r24) else 0) (fun σ25 => f_X0_passBeat_J83 b0 y2 y3 σ25))
def f_X0_passBeat_J27  (b0 : Nat) (y2 : Int32) (s0 : Int32) (σ : Mem) : Option (Int32 × Mem) := vL s0 (fun x22 => if y2 = 1 then f_X0_passBeat_J44 b0 y2 x22 σ else vC (f_X0_bears b0 σ) (fun r29 σ28 => if r29 ≤ (σ b0 1) then vC (f_X0_rises b0 σ28) (fun r31 σ30 => vW σ30 b0 3 (if ((σ28 b0 3) + r31) < 20 then ((σ28 b0 3) + r31) else 20) (fun σ32 => f_X0_passBeat_J83 b0 y2 x22 σ32)) else f_X0_passBeat_J44 b0 y2 x22 σ28))
def f_X0_passBeat (a0 : Nat) (x1 : Int32) (x2 : Int32) (σ : Mem) : Option (Int32 × Mem) := vC (f_X0_feel a0 x1 σ) (fun _ σ21 => if (σ21 a0 4) = 1 then some (0, σ21) else if (σ21 a0 3) ≤ 0 then f_X0_passBeat_J27 a0 x2 0 σ21 else f_X0_passBeat_J27 a0 x2 1 σ21)
abbrev rm_X1_take : Room := { frames := 1, cells := 0, slots := 0, locals := 21 }
def f_X1_take_L80  : Nat → Nat → Nat → Int32 → Mem → Option (Unit × Mem)
  | 0 => fun _ _ _ _ => none
  | n + 1 => fun b0 b1 y2 σ => if (σ b0 5) ≤ y2 then some ((), σ) else vI 8 y2 (fun j30 => vI 8 y2 (fun j31 => vC (f_X0_take (b0 + 3 + 1 + j30) (b1 + 3 + 1 + j31) σ) (fun _ σ32 => vL (y2 + 1) (fun x33 => (f_X1_take_L80 n) b0 b1 x33 σ32))))
theorem f_X1_take_L80_s  (n : Nat) (b0 : Nat) (b1 : Nat) (y2 : Int32) (σ : Mem) : f_X1_take_L80  (n + 1) b0 b1 y2 σ = if (σ b0 5) ≤ y2 then some ((), σ) else vI 8 y2 (fun j30 => vI 8 y2 (fun j31 => vC (f_X0_take (b0 + 3 + 1 + j30) (b1 + 3 + 1 + j31) σ) (fun _ σ32 => vL (y2 + 1) (fun x33 => (f_X1_take_L80 n) b0 b1 x33 σ32)))) := rfl
def f_X1_take (a0 : Nat) (a1 : Nat) (σ : Mem) : Option (Unit × Mem) := vW σ a0 0 (σ a1 0) (fun σ21 => vW σ21 a0 1 (σ21 a1 1) (fun σ22 => vW σ22 a0 2 (σ22 a1 2) (fun σ23 => vW σ23 a0 3 (σ23 a1 3) (fun σ24 => vW σ24 a0 4 (σ24 a1 4) (fun σ25 => vW σ25 a0 5 (σ25 a1 5) (fun σ26 => vY σ26 (a1 + 1) (a0 + 1) 6 6 0 0 6 (fun σ27 => vY σ27 (a1 + 2) (a0 + 2) 10 10 0 0 10 (fun σ28 => vL (0 : Int32) (fun x29 => f_X1_take_L80 FU a0 a1 x29 σ28)))))))))
abbrev rm_X1_isFull : Room := { frames := 0, cells := 0, slots := 0, locals := 0 }
def f_X1_isFull (a0 : Nat) (σ : Mem) : Option (Int32 × Mem) := if (σ a0 5) < 8 then some (0, σ) else some (1, σ)
abbrev rm_X1_hang : Room := { frames := 1, cells := 0, slots := 0, locals := 21 }
def f_X1_hang (a0 : Nat) (x1 : Int32) (σ : Mem) : Option (Nat × Mem) := vI 8 (σ a0 5) (fun j21 => vC (f_X0_beNew (a0 + 3 + 1 + j21) x1 σ) (fun _ σ22 => vW σ22 a0 5 ((σ22 a0 5) + 1) (fun σ23 => some (a0 + 3 + 1 + j21, σ23))))
abbrev rm_X1_placeIn : Room := { frames := 1, cells := 0, slots := 0, locals := 13 }
def f_X1_placeIn (a0 : Nat) (x1 : Int32) (σ : Mem) : Option (Int32 × Mem) := some ((if ((σ a0 3) + x1) < (99999) then ((σ a0 3) + x1) else (99999)) - (if ((σ a0 3) + x1) < (99999) then ((σ a0 3) + x1) else (99999)) / 6 * 6, σ)
abbrev rm_X1_sceneIn : Room := { frames := 2, cells := 0, slots := 0, locals := 34 }
def f_X1_sceneIn (a0 : Nat) (x1 : Int32) (σ : Mem) : Option (Int32 × Mem) := vC (f_X1_placeIn a0 x1 σ) (fun r22 σ21 => vI 6 r22 (fun j23 => some (σ21 (a0 + 1) j23, σ21)))
abbrev rm_X1_tellDown : Room := { frames := 1, cells := 0, slots := 0, locals := 14 }
def f_X1_tellDown (a0 : Nat) (σ : Mem) : Option (Unit × Mem) := if (σ a0 0) = 1 then vW σ a0 2 (if ((σ a0 2) + 100) < 900 then ((σ a0 2) + 100) else 900) (fun σ22 => some ((), σ22)) else vW σ a0 1 (if ((σ a0 1) + 1) < (99999) then ((σ a0 1) + 1) else (99999)) (fun σ21 => some ((), σ21))
abbrev rm_X1_passBeat : Room := { frames := 4, cells := 0, slots := 0, locals := 85 }
def f_X1_passBeat_J37 (k8 : Nat → Int32 → Int32 → Mem → Option (Unit × Mem)) (b0 : Nat) (y1 : Int32) (y2 : Int32) (σ : Mem) : Option (Unit × Mem) := vL (y2 + 1) (fun x29 => k8 b0 y1 x29 σ)
def f_X1_passBeat_L8  : Nat → Nat → Int32 → Int32 → Mem → Option (Unit × Mem)
  | 0 => fun _ _ _ _ => none
  | n + 1 => fun b0 y1 y2 σ => if (σ b0 5) ≤ y2 then vW σ b0 3 (if ((σ b0 3) + 1) < (99999) then ((σ b0 3) + 1) else (99999)) (fun σ25 => some ((), σ25)) else vI 8 y2 (fun j26 => vC (f_X0_passBeat (b0 + 3 + 1 + j26) y1 (σ b0 0) σ) (fun r28 σ27 => if r28 = 0 then f_X1_passBeat_J37 (f_X1_passBeat_L8 n) b0 y1 y2 σ27 else vC (f_X1_tellDown b0 σ27) (fun _ σ30 => f_X1_passBeat_J37 (f_X1_passBeat_L8 n) b0 y1 y2 σ30)))
theorem f_X1_passBeat_L8_s  (n : Nat) (b0 : Nat) (y1 : Int32) (y2 : Int32) (σ : Mem) : f_X1_passBeat_L8  (n + 1) b0 y1 y2 σ = if (σ b0 5) ≤ y2 then vW σ b0 3 (if ((σ b0 3) + 1) < (99999) then ((σ b0 3) + 1) else (99999)) (fun σ25 => some ((), σ25)) else vI 8 y2 (fun j26 => vC (f_X0_passBeat (b0 + 3 + 1 + j26) y1 (σ b0 0) σ) (fun r28 σ27 => if r28 = 0 then f_X1_passBeat_J37 (f_X1_passBeat_L8 n) b0 y1 y2 σ27 else vC (f_X1_tellDown b0 σ27) (fun _ σ30 => f_X1_passBeat_J37 (f_X1_passBeat_L8 n) b0 y1 y2 σ30))) := rfl
def f_X1_passBeat (a0 : Nat) (σ : Mem) : Option (Unit × Mem) := vC (f_X1_sceneIn a0 0 σ) (fun r22 σ21 => vL r22 (fun x23 => vL (0 : Int32) (fun x24 => f_X1_passBeat_L8 FU a0 x23 x24 σ21)))
abbrev rm_X1_passBeats : Room := { frames := 5, cells := 0, slots := 0, locals := 107 }
def f_X1_passBeats_L2  : Nat → Nat → Int32 → Int32 → Mem → Option (Unit × Mem)
  | 0 => fun _ _ _ _ => none
  | n + 1 => fun b0 y1 y2 σ => if y1 ≤ y2 then some ((), σ) else vC (f_X1_passBeat b0 σ) (fun _ σ22 => vL (y2 + 1) (fun x23 => (f_X1_passBeats_L2 n) b0 y1 x23 σ22))
theorem f_X1_passBeats_L2_s  (n : Nat) (b0 : Nat) (y1 : Int32) (y2 : Int32) (σ : Mem) : f_X1_passBeats_L2  (n + 1) b0 y1 y2 σ = if y1 ≤ y2 then some ((), σ) else vC (f_X1_passBeat b0 σ) (fun _ σ22 => vL (y2 + 1) (fun x23 => (f_X1_passBeats_L2 n) b0 y1 x23 σ22)) := rfl
def f_X1_passBeats (a0 : Nat) (x1 : Int32) (σ : Mem) : Option (Unit × Mem) := vL (0 : Int32) (fun x21 => f_X1_passBeats_L2 FU a0 x1 x21 σ)
abbrev rm_X1_draw : Room := { frames := 0, cells := 0, slots := 0, locals := 0 }
def f_X1_draw (a0 : Nat) (σ : Mem) : Option (Int32 × Mem) := vW σ a0 4 (((σ a0 4) * (1103515245)) + 12345) (fun σ21 => some (((σ21 a0 4).toUInt32 >>> ((8 : Int32).toUInt32 &&& Int32.toUInt32 31)).toInt32, σ21))
abbrev rm_X1_thoseDown : Room := { frames := 0, cells := 0, slots := 0, locals := 0 }
def f_X1_thoseDown_J32 (k4 : Nat → Int32 → Int32 → Mem → Option (Int32 × Mem)) (b0 : Nat) (y2 : Int32) (s0 : Int32) (s1 : Int32) (σ : Mem) : Option (Int32 × Mem) := vL (s0 ||| s1) (fun x24 => vL (y2 + 1) (fun x25 => k4 b0 x24 x25 σ))
def f_X1_thoseDown_L4  : Nat → Nat → Int32 → Int32 → Mem → Option (Int32 × Mem)
  | 0 => fun _ _ _ _ => none
  | n + 1 => fun b0 y1 y2 σ => if (σ b0 5) ≤ y2 then some (y1, σ) else vI 8 y2 (fun j23 => if (σ (b0 + 3 + 1 + j23) 3) = 0 then f_X1_thoseDown_J32 (f_X1_thoseDown_L4 n) b0 y2 y1 (1 <<< (y2 &&& 31)) σ else f_X1_thoseDown_J32 (f_X1_thoseDown_L4 n) b0 y2 y1 0 σ)
theorem f_X1_thoseDown_L4_s  (n : Nat) (b0 : Nat) (y1 : Int32) (y2 : Int32) (σ : Mem) : f_X1_thoseDown_L4  (n + 1) b0 y1 y2 σ = if (σ b0 5) ≤ y2 then some (y1, σ) else vI 8 y2 (fun j23 => if (σ (b0 + 3 + 1 + j23) 3) = 0 then f_X1_thoseDown_J32 (f_X1_thoseDown_L4 n) b0 y2 y1 (1 <<< (y2 &&& 31)) σ else f_X1_thoseDown_J32 (f_X1_thoseDown_L4 n) b0 y2 y1 0 σ) := rfl
def f_X1_thoseDown (a0 : Nat) (σ : Mem) : Option (Int32 × Mem) := vL (0 : Int32) (fun x21 => vL (0 : Int32) (fun x22 => f_X1_thoseDown_L4 FU a0 x21 x22 σ))
abbrev rm_X1_thoseWeary : Room := { frames := 1, cells := 0, slots := 0, locals := 20 }
def f_X1_thoseWeary_J41 (k4 : Nat → Int32 → Int32 → Mem → Option (Int32 × Mem)) (b0 : Nat) (y2 : Int32) (s0 : Int32) (s1 : Int32) (σ : Mem) : Option (Int32 × Mem) := vL (s0 ||| s1) (fun x27 => vL (y2 + 1) (fun x28 => k4 b0 x27 x28 σ))
def f_X1_thoseWeary_L4  : Nat → Nat → Int32 → Int32 → Mem → Option (Int32 × Mem)
  | 0 => fun _ _ _ _ => none
  | n + 1 => fun b0 y1 y2 σ => if (σ b0 5) ≤ y2 then some (y1, σ) else vI 8 y2 (fun j23 => vI 8 y2 (fun j24 => vC (f_X0_bears (b0 + 3 + 1 + j24) σ) (fun r26 σ25 => if r26 ≤ (σ (b0 + 3 + 1 + j23) 1) then f_X1_thoseWeary_J41 (f_X1_thoseWeary_L4 n) b0 y2 y1 0 σ25 else f_X1_thoseWeary_J41 (f_X1_thoseWeary_L4 n) b0 y2 y1 (1 <<< (y2 &&& 31)) σ25)))
theorem f_X1_thoseWeary_L4_s  (n : Nat) (b0 : Nat) (y1 : Int32) (y2 : Int32) (σ : Mem) : f_X1_thoseWeary_L4  (n + 1) b0 y1 y2 σ = if (σ b0 5) ≤ y2 then some (y1, σ) else vI 8 y2 (fun j23 => vI 8 y2 (fun j24 => vC (f_X0_bears (b0 + 3 + 1 + j24) σ) (fun r26 σ25 => if r26 ≤ (σ (b0 + 3 + 1 + j23) 1) then f_X1_thoseWeary_J41 (f_X1_thoseWeary_L4 n) b0 y2 y1 0 σ25 else f_X1_thoseWeary_J41 (f_X1_thoseWeary_L4 n) b0 y2 y1 (1 <<< (y2 &&& 31)) σ25))) := rfl
def f_X1_thoseWeary (a0 : Nat) (σ : Mem) : Option (Int32 × Mem) := vL (0 : Int32) (fun x21 => vL (0 : Int32) (fun x22 => f_X1_thoseWeary_L4 FU a0 x21 x22 σ))
abbrev rm_X1_allMoods : Room := { frames := 0, cells := 0, slots := 0, locals := 0 }
def f_X1_allMoods_L4  : Nat → Nat → Int32 → Int32 → Mem → Option (Int32 × Mem)
  | 0 => fun _ _ _ _ => none
  | n + 1 => fun b0 y1 y2 σ => if (σ b0 5) ≤ y2 then some (y1, σ) else vI 8 y2 (fun j23 => vL (y1 + (σ (b0 + 3 + 1 + j23) 1)) (fun x24 => vL (y2 + 1) (fun x25 => (f_X1_allMoods_L4 n) b0 x24 x25 σ)))
theorem f_X1_allMoods_L4_s  (n : Nat) (b0 : Nat) (y1 : Int32) (y2 : Int32) (σ : Mem) : f_X1_allMoods_L4  (n + 1) b0 y1 y2 σ = if (σ b0 5) ≤ y2 then some (y1, σ) else vI 8 y2 (fun j23 => vL (y1 + (σ (b0 + 3 + 1 + j23) 1)) (fun x24 => vL (y2 + 1) (fun x25 => (f_X1_allMoods_L4 n) b0 x24 x25 σ))) := rfl
def f_X1_allMoods (a0 : Nat) (σ : Mem) : Option (Int32 × Mem) := vL (0 : Int32) (fun x21 => vL (0 : Int32) (fun x22 => f_X1_allMoods_L4 FU a0 x21 x22 σ))
abbrev rm_X1_allLikes : Room := { frames := 0, cells := 0, slots := 0, locals := 0 }
def f_X1_allLikes_L4  : Nat → Nat → Int32 → Int32 → Mem → Option (Int32 × Mem)
  | 0 => fun _ _ _ _ => none
  | n + 1 => fun b0 y1 y2 σ => if (σ b0 5) ≤ y2 then some (y1, σ) else vI 8 y2 (fun j23 => vL (y1 ||| (σ (b0 + 3 + 1 + j23) 2)) (fun x24 => vL (y2 + 1) (fun x25 => (f_X1_allLikes_L4 n) b0 x24 x25 σ)))
theorem f_X1_allLikes_L4_s  (n : Nat) (b0 : Nat) (y1 : Int32) (y2 : Int32) (σ : Mem) : f_X1_allLikes_L4  (n + 1) b0 y1 y2 σ = if (σ b0 5) ≤ y2 then some (y1, σ) else vI 8 y2 (fun j23 => vL (y1 ||| (σ (b0 + 3 + 1 + j23) 2)) (fun x24 => vL (y2 + 1) (fun x25 => (f_X1_allLikes_L4 n) b0 x24 x25 σ))) := rfl
def f_X1_allLikes (a0 : Nat) (σ : Mem) : Option (Int32 × Mem) := vL (0 : Int32) (fun x21 => vL (0 : Int32) (fun x22 => f_X1_allLikes_L4 FU a0 x21 x22 σ))
abbrev rm_X1_isPleasedBy : Room := { frames := 0, cells := 0, slots := 0, locals := 0 }
def f_X1_isPleasedBy_J32 (k2 : Nat → Int32 → Int32 → Mem → Option (Int32 × Mem)) (b0 : Nat) (y1 : Int32) (y2 : Int32) (σ : Mem) : Option (Int32 × Mem) := vL (y2 + 1) (fun x24 => k2 b0 y1 x24 σ)
def f_X1_isPleasedBy_L2  : Nat → Nat → Int32 → Int32 → Mem → Option (Int32 × Mem)
  | 0 => fun _ _ _ _ => none
  | n + 1 => fun b0 y1 y2 σ => if (σ b0 5) ≤ y2 then some (1, σ) else vI 8 y2 (fun j22 => vL (σ (b0 + 3 + 1 + j22) 2) (fun x23 => if x23 = 0 then f_X1_isPleasedBy_J32 (f_X1_isPleasedBy_L2 n) b0 y1 y2 σ else if (x23 &&& y1) = 0 then some (0, σ) else f_X1_isPleasedBy_J32 (f_X1_isPleasedBy_L2 n) b0 y1 y2 σ))
theorem f_X1_isPleasedBy_L2_s  (n : Nat) (b0 : Nat) (y1 : Int32) (y2 : Int32) (σ : Mem) : f_X1_isPleasedBy_L2  (n + 1) b0 y1 y2 σ = if (σ b0 5) ≤ y2 then some (1, σ) else vI 8 y2 (fun j22 => vL (σ (b0 + 3 + 1 + j22) 2) (fun x23 => if x23 = 0 then f_X1_isPleasedBy_J32 (f_X1_isPleasedBy_L2 n) b0 y1 y2 σ else if (x23 &&& y1) = 0 then some (0, σ) else f_X1_isPleasedBy_J32 (f_X1_isPleasedBy_L2 n) b0 y1 y2 σ)) := rfl
def f_X1_isPleasedBy (a0 : Nat) (x1 : Int32) (σ : Mem) : Option (Int32 × Mem) := vL (0 : Int32) (fun x21 => f_X1_isPleasedBy_L2 FU a0 x1 x21 σ)
abbrev rm_X1_heldSpots : Room := { frames := 0, cells := 0, slots := 0, locals := 0 }
def f_X1_heldSpots_J37 (k13 : Int32 → Nat → Int32 → Int32 → Mem → Option (Int32 × Mem)) (b2 : Nat) (y3 : Int32) (y4 : Int32) (s0 : Int32) (s1 : Int32) (σ : Mem) : Option (Int32 × Mem) := vL (s0 + s1) (fun x26 => vL (y4 + 1) (fun x27 => k13 x26 b2 y3 x27 σ))
def f_X1_heldSpots_L13  : Nat → Int32 → Nat → Int32 → Int32 → Mem → Option (Int32 × Mem)
  | 0 => fun _ _ _ _ _ => none
  | n + 1 => fun y1 b2 y3 y4 σ => if y3 ≤ y4 then some (y1, σ) else vI 10 y4 (fun j24 => vL (σ b2 j24) (fun x25 => if x25 = (-1) then f_X1_heldSpots_J37 (f_X1_heldSpots_L13 n) b2 y3 y4 y1 0 σ else f_X1_heldSpots_J37 (f_X1_heldSpots_L13 n) b2 y3 y4 y1 1 σ))
theorem f_X1_heldSpots_L13_s  (n : Nat) (y1 : Int32) (b2 : Nat) (y3 : Int32) (y4 : Int32) (σ : Mem) : f_X1_heldSpots_L13  (n + 1) y1 b2 y3 y4 σ = if y3 ≤ y4 then some (y1, σ) else vI 10 y4 (fun j24 => vL (σ b2 j24) (fun x25 => if x25 = (-1) then f_X1_heldSpots_J37 (f_X1_heldSpots_L13 n) b2 y3 y4 y1 0 σ else f_X1_heldSpots_J37 (f_X1_heldSpots_L13 n) b2 y3 y4 y1 1 σ)) := rfl
def f_X1_heldSpots (a0 : Nat) (σ : Mem) : Option (Int32 × Mem) := vL (0 : Int32) (fun x21 => vL (10 : Int32) (fun x22 => vL (0 : Int32) (fun x23 => f_X1_heldSpots_L13 FU x21 (a0 + 2) x22 x23 σ)))
abbrev rm_X2_isMissing : Room := { frames := 0, cells := 0, slots := 0, locals := 0 }
def f_X2_isMissing (a0 : Nat) (σ : Mem) : Option (Int32 × Mem) := if (σ a0 0) = 0 then some (1, σ) else some (0, σ)
abbrev rm_X2_lay : Room := { frames := 0, cells := 0, slots := 0, locals := 0 }
def f_X2_lay_L12  : Nat → Nat → Int32 → Int32 → Mem → Option (Unit × Mem)
  | 0 => fun _ _ _ _ => none
  | n + 1 => fun b0 y2 y3 σ => if y2 ≤ y3 then some ((), σ) else vI 40 y3 (fun j24 => vW σ (b0 + 1) j24 0 (fun σ25 => vL (y3 + 1) (fun x26 => (f_X2_lay_L12 n) b0 y2 x26 σ25)))
theorem f_X2_lay_L12_s  (n : Nat) (b0 : Nat) (y2 : Int32) (y3 : Int32) (σ : Mem) : f_X2_lay_L12  (n + 1) b0 y2 y3 σ = if y2 ≤ y3 then some ((), σ) else vI 40 y3 (fun j24 => vW σ (b0 + 1) j24 0 (fun σ25 => vL (y3 + 1) (fun x26 => (f_X2_lay_L12 n) b0 y2 x26 σ25))) := rfl
def f_X2_lay (a0 : Nat) (x1 : Int32) (x2 : Int32) (σ : Mem) : Option (Unit × Mem) := vW σ a0 0 x1 (fun σ21 => vW σ21 a0 1 x2 (fun σ22 => vL (0 : Int32) (fun x23 => f_X2_lay_L12 FU a0 x2 x23 σ22)))
abbrev rm_X2_put : Room := { frames := 0, cells := 0, slots := 0, locals := 0 }
def f_X2_put (a0 : Nat) (x1 : Int32) (x2 : Int32) (σ : Mem) : Option (Unit × Mem) := if (σ a0 0) = 8 then vI 40 x1 (fun j25 => vW σ (a0 + 1) j25 x2.toInt8.toInt32 (fun σ26 => some ((), σ26))) else if (σ a0 0) = 16 then vI 40 x1 (fun j23 => vW σ (a0 + 1) j23 x2.toInt16.toInt32 (fun σ24 => some ((), σ24))) else vI 40 x1 (fun j21 => vW σ (a0 + 1) j21 x2 (fun σ22 => some ((), σ22)))
abbrev rm_X2_has : Room := { frames := 0, cells := 0, slots := 0, locals := 0 }
def f_X2_has (a0 : Nat) (x1 : Int32) (x2 : Int32) (σ : Mem) : Option (Int32 × Mem) := if x2 < 0 then some (0, σ) else if x1 < 0 then some (0, σ) else if ((σ a0 1) - x2) < x1 then some (0, σ) else some (1, σ)
abbrev rm_X3_add : Room := { frames := 0, cells := 0, slots := 0, locals := 0 }
def f_X3_add (x1 : Int32) (σ : Mem) : Option (Unit × Mem) := if 120 ≤ (σ 38 1) then some ((), σ) else vI 120 (σ 38 1) (fun j21 => vW σ 39 j21 (vp_nar .byte x1) (fun σ22 => vW σ22 38 1 ((σ22 38 1) + 1) (fun σ23 => some ((), σ23))))
abbrev rm_X3_valueAtHand : Room := { frames := 1, cells := 0, slots := 0, locals := 13 }
def f_X3_valueAtHand_L7  : Nat → Int32 → Int32 → Mem → Option (Int32 × Mem)
  | 0 => fun _ _ _ => none
  | n + 1 => fun y1 y2 σ => if (σ 38 4) ≤ y2 then some (y1, σ) else vI 120 y2 (fun j23 => vL (if (((y1 * 10) + (σ 39 j23)) - 48) < 10000 then (((y1 * 10) + (σ 39 j23)) - 48) else 10000) (fun x24 => vL (y2 + 1) (fun x25 => (f_X3_valueAtHand_L7 n) x24 x25 σ)))
theorem f_X3_valueAtHand_L7_s  (n : Nat) (y1 : Int32) (y2 : Int32) (σ : Mem) : f_X3_valueAtHand_L7  (n + 1) y1 y2 σ = if (σ 38 4) ≤ y2 then some (y1, σ) else vI 120 y2 (fun j23 => vL (if (((y1 * 10) + (σ 39 j23)) - 48) < 10000 then (((y1 * 10) + (σ 39 j23)) - 48) else 10000) (fun x24 => vL (y2 + 1) (fun x25 => (f_X3_valueAtHand_L7 n) x24 x25 σ))) := rfl
def f_X3_valueAtHand  (σ : Mem) : Option (Int32 × Mem) := vL (0 : Int32) (fun x21 => vL (σ 38 3) (fun x22 => f_X3_valueAtHand_L7 FU x21 x22 σ))
abbrev rm_X3_tokenBegunBy : Room := { frames := 0, cells := 0, slots := 0, locals := 0 }
def f_X3_tokenBegunBy_J28  (y0 : Int32) (σ : Mem) : Option (Int32 × Mem) := if y0 = 59 then some (2, σ) else some (4, σ)
def f_X3_tokenBegunBy_J14  (y0 : Int32) (σ : Mem) : Option (Int32 × Mem) := if y0 < 48 then f_X3_tokenBegunBy_J28 y0 σ else if 57 < y0 then f_X3_tokenBegunBy_J28 y0 σ else some (1, σ)
def f_X3_tokenBegunBy (x0 : Int32) (σ : Mem) : Option (Int32 × Mem) := if x0 < 97 then f_X3_tokenBegunBy_J14 x0 σ else if 122 < x0 then f_X3_tokenBegunBy_J14 x0 σ else some (0, σ)
abbrev rm_X3_step : Room := { frames := 2, cells := 0, slots := 0, locals := 35 }
def f_X3_step_J169  (s1 : Int32) (σ : Mem) : Option (Unit × Mem) := vW σ 38 5 s1 (fun σ24 => some ((), σ24))
def f_X3_step_J152   (σ : Mem) : Option (Unit × Mem) := if (σ 38 2) = 1 then vC (f_X3_valueAtHand σ) (fun r26 σ25 => f_X3_step_J169 r26 σ25) else f_X3_step_J169 0 σ
def f_X3_step_J109 (k94 : Mem → Option (Unit × Mem))  (σ : Mem) : Option (Unit × Mem) := if (σ 38 1) ≤ (σ 38 4) then f_X3_step_J152 σ else vI 120 (σ 38 4) (fun j27 => vC (f_X3_tokenBegunBy (σ 39 j27) σ) (fun r29 σ28 => if r29 = (σ28 38 2) then vW σ28 38 4 ((σ28 38 4) + 1) (fun σ30 => k94 σ30) else f_X3_step_J152 σ28))
def f_X3_step_L94  : Nat → Mem → Option (Unit × Mem)
  | 0 => fun  _ => none
  | n + 1 => fun  σ => if (σ 38 2) = 0 then f_X3_step_J109 (f_X3_step_L94 n) σ else if (σ 38 2) = 1 then f_X3_step_J109 (f_X3_step_L94 n) σ else f_X3_step_J152 σ
theorem f_X3_step_L94_s  (n : Nat)  (σ : Mem) : f_X3_step_L94  (n + 1)  σ = if (σ 38 2) = 0 then f_X3_step_J109 (f_X3_step_L94 n) σ else if (σ 38 2) = 1 then f_X3_step_J109 (f_X3_step_L94 n) σ else f_X3_step_J152 σ := rfl
def f_X3_step_J74  (s1 : Int32) (σ : Mem) : Option (Unit × Mem) := vW σ 38 2 s1 (fun σ22 => vW σ22 38 4 (if ((σ22 38 3) + 1) < (σ22 38 1) then ((σ22 38 3) + 1) else (σ22 38 1)) (fun σ23 => f_X3_step_L94 FU σ23))
def f_X3_step_J46   (σ : Mem) : Option (Unit × Mem) := if (σ 38 1) ≤ (σ 38 3) then f_X3_step_J74 3 σ else vI 120 (σ 38 3) (fun j31 => vC (f_X3_tokenBegunBy (σ 39 j31) σ) (fun r33 σ32 => f_X3_step_J74 r33 σ32))
def f_X3_step_L8  : Nat → Mem → Option (Unit × Mem)
  | 0 => fun  _ => none
  | n + 1 => fun  σ => if (σ 38 1) ≤ (σ 38 3) then f_X3_step_J46 σ else vI 120 (σ 38 3) (fun j34 => if (σ 39 j34) = 32 then vW σ 38 3 ((σ 38 3) + 1) (fun σ35 => (f_X3_step_L8 n) σ35) else f_X3_step_J46 σ)
theorem f_X3_step_L8_s  (n : Nat)  (σ : Mem) : f_X3_step_L8  (n + 1)  σ = if (σ 38 1) ≤ (σ 38 3) then f_X3_step_J46 σ else vI 120 (σ 38 3) (fun j34 => if (σ 39 j34) = 32 then vW σ 38 3 ((σ 38 3) + 1) (fun σ35 => (f_X3_step_L8 n) σ35) else f_X3_step_J46 σ) := rfl
def f_X3_step  (σ : Mem) : Option (Unit × Mem) := vW σ 38 3 (σ 38 4) (fun σ21 => f_X3_step_L8 FU σ21)
abbrev rm_X3_isWord : Room := { frames := 4, cells := 0, slots := 0, locals := 88 }
def f_X3_isWord_L27  : Nat → Nat → Int32 → Mem → Option (Int32 × Mem)
  | 0 => fun _ _ _ => none
  | n + 1 => fun b1 y2 σ => vC (f_J0_length_8abf5 b1 σ) (fun r25 σ24 => if r25 ≤ y2 then some (1, σ24) else vI 120 ((σ24 38 3) + y2) (fun j26 => vC (f_J0_charAt_5068e b1 y2 σ24) (fun r28 σ27 => if (σ24 39 j26) = r28 then vL (y2 + 1) (fun x29 => (f_X3_isWord_L27 n) b1 x29 σ27) else some (0, σ27))))
theorem f_X3_isWord_L27_s  (n : Nat) (b1 : Nat) (y2 : Int32) (σ : Mem) : f_X3_isWord_L27  (n + 1) b1 y2 σ = vC (f_J0_length_8abf5 b1 σ) (fun r25 σ24 => if r25 ≤ y2 then some (1, σ24) else vI 120 ((σ24 38 3) + y2) (fun j26 => vC (f_J0_charAt_5068e b1 y2 σ24) (fun r28 σ27 => if (σ24 39 j26) = r28 then vL (y2 + 1) (fun x29 => (f_X3_isWord_L27 n) b1 x29 σ27) else some (0, σ27)))) := rfl
def f_X3_isWord (a1 : Nat) (σ : Mem) : Option (Int32 × Mem) := if (σ 38 2) = 0 then vC (f_J0_length_8abf5 a1 σ) (fun r22 σ21 => if ((σ 38 4) - (σ 38 3)) = r22 then vL (0 : Int32) (fun x23 => f_X3_isWord_L27 FU a1 x23 σ21) else some (0, σ21)) else some (0, σ)
abbrev rm_X3_kindAtHand : Room := { frames := 5, cells := 0, slots := 0, locals := 110 }
def f_X3_kindAtHand  (σ : Mem) : Option (Int32 × Mem) := vC (f_X3_isWord 0 σ) (fun r22 σ21 => if r22 = 0 then vC (f_X3_isWord 1 σ21) (fun r24 σ23 => if r24 = 0 then vC (f_X3_isWord 2 σ23) (fun r26 σ25 => if r26 = 0 then vC (f_X3_isWord 3 σ25) (fun r28 σ27 => if r28 = 0 then vC (f_X3_isWord 4 σ27) (fun r30 σ29 => if r30 = 0 then vC (f_X3_isWord 5 σ29) (fun r32 σ31 => if r32 = 0 then vC (f_X3_isWord 6 σ31) (fun r34 σ33 => if r34 = 0 then some ((-1), σ33) else some (6, σ33)) else some (5, σ31)) else some (4, σ29)) else some (3, σ27)) else some (2, σ25)) else some (1, σ23)) else some (0, σ21))
abbrev rm_X3_takeWord : Room := { frames := 5, cells := 0, slots := 0, locals := 110 }
def f_X3_takeWord (a1 : Nat) (σ : Mem) : Option (Int32 × Mem) := vC (f_X3_isWord a1 σ) (fun r22 σ21 => vL r22 (fun x23 => if x23 = 0 then vB x23 (some (x23, σ21)) else vC (f_X3_step σ21) (fun _ σ24 => vB x23 (some (x23, σ24)))))
abbrev rm_X3_takeNumber : Room := { frames := 3, cells := 0, slots := 0, locals := 55 }
def f_X3_takeNumber (x1 : Int32) (σ : Mem) : Option (Int32 × Mem) := if (σ 38 2) = 1 then if (σ 38 5) ≤ x1 then vL (σ 38 5) (fun x21 => vC (f_X3_step σ) (fun _ σ22 => some (x21, σ22))) else some ((-1), σ) else some ((-1), σ)
abbrev rm_X3_readPart : Room := { frames := 6, cells := 0, slots := 0, locals := 132 }
def f_X3_readPart (a1 : Nat) (a2 : Nat) (x3 : Int32) (σ : Mem) : Option (Int32 × Mem) := vC (f_X3_takeWord a2 σ) (fun r22 σ21 => if r22 = 0 then some (1, σ21) else vI 6 x3 (fun j23 => vC (f_X3_takeNumber ((sTab 6).getD j23 0) σ21) (fun r25 σ24 => vL r25 (fun x26 => if x26 = (-1) then some (0, σ24) else vC (f_X0_set a1 x3 x26 σ24) (fun _ σ27 => some (1, σ27))))))
abbrev rm_X3_readCurtain : Room := { frames := 7, cells := 0, slots := 0, locals := 156 }
def f_X3_readCurtain_J69  (c0 : Nat) (s1 : Int32) (σ : Mem) : Option (Int32 × Mem) := vW σ c0 4 s1 (fun σ34 => some (1, σ34))
def f_X3_readCurtain (a1 : Nat) (x2 : Int32) (σ : Mem) : Option (Int32 × Mem) := vC (f_X1_isFull a1 σ) (fun r22 σ21 => if r22 = 0 then vC (f_X3_step σ21) (fun _ σ23 => vC (f_X1_hang a1 x2 σ23) (fun r25 σ24 => vC (f_X3_readPart r25 10 1 σ24) (fun r27 σ26 => if r27 = 0 then some (0, σ26) else vC (f_X3_readPart r25 11 2 σ26) (fun r29 σ28 => if r29 = 0 then some (0, σ28) else vC (f_X3_readPart r25 12 3 σ28) (fun r31 σ30 => if r31 = 0 then some (0, σ30) else vC (f_X3_takeWord 13 σ30) (fun r33 σ32 => if r33 = 0 then f_X3_readCurtain_J69 r25 0 σ32 else f_X3_readCurtain_J69 r25 1 σ32)))))) else some (0, σ21))
abbrev rm_X3_readScene : Room := { frames := 4, cells := 0, slots := 0, locals := 77 }
def f_X3_readScene (a1 : Nat) (σ : Mem) : Option (Int32 × Mem) := vC (f_X3_takeNumber 5 σ) (fun r22 σ21 => vL r22 (fun x23 => if x23 = (-1) then some (0, σ21) else vC (f_X3_takeNumber 11 σ21) (fun r25 σ24 => vL r25 (fun x26 => if x26 = (-1) then some (0, σ24) else vI 6 x23 (fun j27 => vW σ24 (a1 + 1) j27 x26 (fun σ28 => some (1, σ28)))))))
abbrev rm_X3_readOther : Room := { frames := 6, cells := 0, slots := 0, locals := 132 }
def f_X3_readOther (a1 : Nat) (σ : Mem) : Option (Int32 × Mem) := vC (f_X3_takeWord 7 σ) (fun r22 σ21 => if r22 = 0 then vC (f_X3_takeWord 8 σ21) (fun r24 σ23 => if r24 = 0 then vC (f_X3_takeWord 9 σ23) (fun r26 σ25 => if r26 = 0 then some (0, σ25) else vW σ25 a1 0 0 (fun σ27 => some (1, σ27))) else vW σ23 a1 0 1 (fun σ28 => some (1, σ28))) else vC (f_X3_readScene a1 σ21) (fun r30 σ29 => vB r30 (some (r30, σ29))))
abbrev rm_X3_readInto : Room := { frames := 8, cells := 0, slots := 0, locals := 179 }
def f_X3_readInto_J84   (σ : Mem) : Option (Int32 × Mem) := some ((-1) - (σ 38 3), σ)
def f_X3_readInto_J58 (k11 : Nat → Int32 → Mem → Option (Int32 × Mem)) (b1 : Nat) (y2 : Int32) (y4 : Int32) (σ : Mem) : Option (Int32 × Mem) := if y4 = 0 then f_X3_readInto_J84 σ else if (σ 38 2) = 2 then vC (f_X3_step σ) (fun _ σ30 => vL (y2 + 1) (fun x31 => k11 b1 x31 σ30)) else f_X3_readInto_J84 σ
def f_X3_readInto_J41 (k11 : Nat → Int32 → Mem → Option (Int32 × Mem)) (b1 : Nat) (y2 : Int32) (s0 : Int32) (σ : Mem) : Option (Int32 × Mem) := vL s0 (fun x29 => if x29 = 0 then f_X3_readInto_J58 k11 b1 y2 x29 σ else if (σ 38 2) = 3 then some (y2, σ) else f_X3_readInto_J58 k11 b1 y2 x29 σ)
def f_X3_readInto_L11  : Nat → Nat → Int32 → Mem → Option (Int32 × Mem)
  | 0 => fun _ _ _ => none
  | n + 1 => fun b1 y2 σ => if 120 < y2 then f_X3_readInto_J84 σ else vC (f_X3_kindAtHand σ) (fun r25 σ24 => vL r25 (fun x26 => if x26 = (-1) then vC (f_X3_readOther b1 σ24) (fun r33 σ32 => f_X3_readInto_J41 (f_X3_readInto_L11 n) b1 y2 r33 σ32) else vC (f_X3_readCurtain b1 x26 σ24) (fun r28 σ27 => f_X3_readInto_J41 (f_X3_readInto_L11 n) b1 y2 r28 σ27)))
theorem f_X3_readInto_L11_s  (n : Nat) (b1 : Nat) (y2 : Int32) (σ : Mem) : f_X3_readInto_L11  (n + 1) b1 y2 σ = if 120 < y2 then f_X3_readInto_J84 σ else vC (f_X3_kindAtHand σ) (fun r25 σ24 => vL r25 (fun x26 => if x26 = (-1) then vC (f_X3_readOther b1 σ24) (fun r33 σ32 => f_X3_readInto_J41 (f_X3_readInto_L11 n) b1 y2 r33 σ32) else vC (f_X3_readCurtain b1 x26 σ24) (fun r28 σ27 => f_X3_readInto_J41 (f_X3_readInto_L11 n) b1 y2 r28 σ27))) := rfl
def f_X3_readInto (a1 : Nat) (σ : Mem) : Option (Int32 × Mem) := vW σ 38 4 0 (fun σ21 => vC (f_X3_step σ21) (fun _ σ22 => vL (1 : Int32) (fun x23 => f_X3_readInto_L11 FU a1 x23 σ22)))
abbrev rm_X4_isWithin : Room := { frames := 0, cells := 0, slots := 0, locals := 0 }
def f_X4_isWithin (x0 : Int32) (x1 : Int32) (x2 : Int32) (σ : Mem) : Option (Int32 × Mem) := if x0 < x1 then some (0, σ) else if x2 < x0 then some (0, σ) else some (1, σ)
abbrev rm_X4_find : Room := { frames := 0, cells := 0, slots := 0, locals := 0 }
def f_X4_find (x1 : Int32) (σ : Mem) : Option (Int32 × Mem) := vI 7 x1 (fun j21 => vI 7 x1 (fun j22 => vW σ 49 j22 ((σ 49 j21) + 1) (fun σ23 => some ((-1000001) - x1, σ23))))
abbrev rm_X4_fire : Room := { frames := 1, cells := 0, slots := 0, locals := 22 }
def f_X4_fire (x1 : Int32) (σ : Mem) : Option (Int32 × Mem) := vC (f_X4_isWithin x1 0 1 σ) (fun r22 σ21 => if r22 = 0 then vC (f_X4_find 0 σ21) (fun r26 σ25 => some (r26, σ25)) else vL (σ21 1 0) (fun x23 => vW σ21 1 0 x1 (fun σ24 => some (x23, σ24))))
abbrev rm_X4_isPlace : Room := { frames := 1, cells := 0, slots := 0, locals := 22 }
def f_X4_isPlace (x0 : Int32) (σ : Mem) : Option (Int32 × Mem) := vC (f_X4_isWithin x0 0 5 σ) (fun r22 σ21 => vB r22 (some (r22, σ21)))
abbrev rm_X4_scene : Room := { frames := 2, cells := 0, slots := 0, locals := 42 }
def f_X4_scene_J17   (σ : Mem) : Option (Int32 × Mem) := vC (f_X4_find 0 σ) (fun r24 σ23 => some (r24, σ23))
def f_X4_scene (x1 : Int32) (x2 : Int32) (σ : Mem) : Option (Int32 × Mem) := vC (f_X4_isPlace x1 σ) (fun r22 σ21 => if r22 = 0 then f_X4_scene_J17 σ21 else vC (f_X4_isWithin x2 0 11 σ21) (fun r26 σ25 => if r26 = 0 then f_X4_scene_J17 σ25 else vI 6 x1 (fun j27 => vL (σ25 (1 + 1) j27) (fun x28 => vI 6 x1 (fun j29 => vW σ25 (1 + 1) j29 x2 (fun σ30 => some (x28, σ30)))))))
abbrev rm_X4_listed : Room := { frames := 2, cells := 0, slots := 0, locals := 42 }
def f_X4_listed (x1 : Int32) (σ : Mem) : Option (Int32 × Mem) := vC (f_X4_isPlace x1 σ) (fun r22 σ21 => if r22 = 0 then vC (f_X4_find 0 σ21) (fun r25 σ24 => some (r25, σ24)) else vI 6 x1 (fun j23 => some (σ21 (1 + 1) j23, σ21)))
abbrev rm_X4_isKind : Room := { frames := 1, cells := 0, slots := 0, locals := 22 }
def f_X4_isKind (x0 : Int32) (σ : Mem) : Option (Int32 × Mem) := vC (f_X4_isWithin x0 0 6 σ) (fun r22 σ21 => vB r22 (some (r22, σ21)))
abbrev rm_X4_curtain : Room := { frames := 2, cells := 0, slots := 0, locals := 43 }
def f_X4_curtain_J18   (σ : Mem) : Option (Int32 × Mem) := vC (f_X4_find 0 σ) (fun r24 σ23 => some (r24, σ23))
def f_X4_curtain (x1 : Int32) (x2 : Int32) (σ : Mem) : Option (Int32 × Mem) := vC (f_X4_isKind x1 σ) (fun r22 σ21 => if r22 = 0 then f_X4_curtain_J18 σ21 else vC (f_X4_isWithin x2 0 4095 σ21) (fun r26 σ25 => if r26 = 0 then f_X4_curtain_J18 σ25 else vC (f_X1_isFull 1 σ25) (fun r28 σ27 => if r28 = 0 then vC (f_X1_hang 1 x1 σ27) (fun r30 σ29 => vW σ29 r30 2 x2 (fun σ31 => some ((σ31 1 5) - 1, σ31))) else vC (f_X4_find 1 σ27) (fun r33 σ32 => some (r33, σ32)))))
abbrev rm_X4_isCurtain : Room := { frames := 1, cells := 0, slots := 0, locals := 22 }
def f_X4_isCurtain (x1 : Int32) (σ : Mem) : Option (Int32 × Mem) := vC (f_X4_isWithin x1 0 ((σ 1 5) - 1) σ) (fun r22 σ21 => vB r22 (some (r22, σ21)))
abbrev rm_X4_of : Room := { frames := 3, cells := 0, slots := 0, locals := 63 }
def f_X4_of_J18   (σ : Mem) : Option (Int32 × Mem) := vC (f_X4_find 0 σ) (fun r24 σ23 => some (r24, σ23))
def f_X4_of (x1 : Int32) (x2 : Int32) (σ : Mem) : Option (Int32 × Mem) := vC (f_X4_isCurtain x1 σ) (fun r22 σ21 => if r22 = 0 then f_X4_of_J18 σ21 else vC (f_X4_isWithin x2 0 10 σ21) (fun r26 σ25 => if r26 = 0 then f_X4_of_J18 σ25 else vI 8 x1 (fun j27 => vC (f_X1_sceneIn 1 0 σ25) (fun r29 σ28 => vC (f_X0_tell (1 + 3 + 1 + j27) x2 r29 (σ28 1 0) σ28) (fun r31 σ30 => some (r31, σ30))))))
abbrev rm_X4_change : Room := { frames := 3, cells := 0, slots := 0, locals := 63 }
def f_X4_change_J30   (σ : Mem) : Option (Int32 × Mem) := vC (f_X4_find 0 σ) (fun r24 σ23 => some (r24, σ23))
def f_X4_change (x1 : Int32) (x2 : Int32) (x3 : Int32) (σ : Mem) : Option (Int32 × Mem) := vC (f_X4_isCurtain x1 σ) (fun r22 σ21 => if r22 = 0 then f_X4_change_J30 σ21 else vC (f_X4_isWithin x2 0 5 σ21) (fun r26 σ25 => if r26 = 0 then f_X4_change_J30 σ25 else vI 6 x2 (fun j27 => vC (f_X4_isWithin x3 0 ((sTab 6).getD j27 0) σ25) (fun r29 σ28 => if r29 = 0 then f_X4_change_J30 σ28 else vI 8 x1 (fun j30 => vC (f_X1_sceneIn 1 0 σ28) (fun r32 σ31 => vC (f_X0_tell (1 + 3 + 1 + j30) x2 r32 (σ31 1 0) σ31) (fun r34 σ33 => vL r34 (fun x35 => vC (f_X0_set (1 + 3 + 1 + j30) x2 x3 σ33) (fun _ σ36 => some (x35, σ36))))))))))
abbrev rm_X4_pull : Room := { frames := 2, cells := 0, slots := 0, locals := 43 }
def f_X4_pull_J18   (σ : Mem) : Option (Int32 × Mem) := vC (f_X4_find 0 σ) (fun r24 σ23 => some (r24, σ23))
def f_X4_pull (x1 : Int32) (x2 : Int32) (σ : Mem) : Option (Int32 × Mem) := vC (f_X4_isCurtain x1 σ) (fun r22 σ21 => if r22 = 0 then f_X4_pull_J18 σ21 else vC (f_X4_isWithin x2 1 40 σ21) (fun r26 σ25 => if r26 = 0 then f_X4_pull_J18 σ25 else vI 8 x1 (fun j27 => if (σ25 (1 + 3 + 1 + j27) 4) = 1 then vC (f_X4_find 4 σ25) (fun r30 σ29 => some (r30, σ29)) else vC (f_X0_getPulled (1 + 3 + 1 + j27) x2 σ25) (fun _ σ28 => some (σ28 (1 + 3 + 1 + j27) 3, σ28)))))
abbrev rm_X4_go : Room := { frames := 6, cells := 0, slots := 0, locals := 129 }
def f_X4_go (x1 : Int32) (σ : Mem) : Option (Int32 × Mem) := vC (f_X4_isWithin x1 1 60 σ) (fun r22 σ21 => if r22 = 0 then vC (f_X4_find 0 σ21) (fun r27 σ26 => some (r27, σ26)) else if (σ21 1 3) ≤ ((99999) - x1) then vC (f_X1_passBeats 1 x1 σ21) (fun _ σ23 => some (σ23 1 1, σ23)) else vC (f_X4_find 4 σ21) (fun r25 σ24 => some (r25, σ24)))
abbrev rm_X4_now : Room := { frames := 2, cells := 0, slots := 0, locals := 42 }
def f_X4_now (x1 : Int32) (σ : Mem) : Option (Int32 × Mem) := if x1 = 0 then some (σ 1 3, σ) else if x1 = 1 then some (σ 1 1, σ) else if x1 = 2 then some (σ 1 2, σ) else if x1 = 3 then vC (f_X1_thoseDown 1 σ) (fun r22 σ21 => some (r22, σ21)) else if x1 = 4 then vC (f_X1_thoseWeary 1 σ) (fun r24 σ23 => some (r24, σ23)) else if x1 = 5 then vC (f_X1_allMoods 1 σ) (fun r26 σ25 => some (r26, σ25)) else if x1 = 6 then vC (f_X1_allLikes 1 σ) (fun r28 σ27 => some (r28, σ27)) else if x1 = 7 then some (σ 1 0, σ) else vC (f_X4_find 0 σ) (fun r30 σ29 => some (r30, σ29))
abbrev rm_X4_passProbe : Room := { frames := 4, cells := 0, slots := 0, locals := 85 }
def f_X4_passProbe_J47 (k4 : Int32 → Int32 → Int32 → Mem → Option (Int32 × Mem)) (y1 : Int32) (y2 : Int32) (y3 : Int32) (σ : Mem) : Option (Int32 × Mem) := vL (y3 + 1) (fun x27 => k4 y1 y2 x27 σ)
def f_X4_passProbe_L4  : Nat → Int32 → Int32 → Int32 → Mem → Option (Int32 × Mem)
  | 0 => fun _ _ _ _ => none
  | n + 1 => fun y1 y2 y3 σ => if y1 ≤ y3 then some (y2, σ) else vC (f_X1_sceneIn 1 y3 σ) (fun r24 σ23 => vC (f_X0_passBeat 37 r24 (σ23 1 0) σ23) (fun r26 σ25 => if r26 = 0 then f_X4_passProbe_J47 (f_X4_passProbe_L4 n) y1 y2 y3 σ25 else if (σ25 1 0) = 0 then vL (y2 + 1) (fun x28 => f_X4_passProbe_J47 (f_X4_passProbe_L4 n) y1 x28 y3 σ25) else f_X4_passProbe_J47 (f_X4_passProbe_L4 n) y1 y2 y3 σ25))
theorem f_X4_passProbe_L4_s  (n : Nat) (y1 : Int32) (y2 : Int32) (y3 : Int32) (σ : Mem) : f_X4_passProbe_L4  (n + 1) y1 y2 y3 σ = if y1 ≤ y3 then some (y2, σ) else vC (f_X1_sceneIn 1 y3 σ) (fun r24 σ23 => vC (f_X0_passBeat 37 r24 (σ23 1 0) σ23) (fun r26 σ25 => if r26 = 0 then f_X4_passProbe_J47 (f_X4_passProbe_L4 n) y1 y2 y3 σ25 else if (σ25 1 0) = 0 then vL (y2 + 1) (fun x28 => f_X4_passProbe_J47 (f_X4_passProbe_L4 n) y1 x28 y3 σ25) else f_X4_passProbe_J47 (f_X4_passProbe_L4 n) y1 y2 y3 σ25)) := rfl
def f_X4_passProbe (x1 : Int32) (σ : Mem) : Option (Int32 × Mem) := vL (0 : Int32) (fun x21 => vL (0 : Int32) (fun x22 => f_X4_passProbe_L4 FU x1 x21 x22 σ))
abbrev rm_X4_ahead : Room := { frames := 5, cells := 0, slots := 0, locals := 108 }
def f_X4_ahead_J51   (σ : Mem) : Option (Int32 × Mem) := vC (f_X4_find 0 σ) (fun r25 σ24 => some (r25, σ24))
def f_X4_ahead_J26  (y1 : Int32) (y2 : Int32) (y3 : Int32) (s0 : Int32) (σ : Mem) : Option (Int32 × Mem) := vL s0 (fun x21 => vC (f_X4_isCurtain y1 σ) (fun r23 σ22 => if r23 = 0 then f_X4_ahead_J51 σ22 else if x21 = 0 then f_X4_ahead_J51 σ22 else vC (f_X4_isWithin y3 0 100 σ22) (fun r27 σ26 => if r27 = 0 then f_X4_ahead_J51 σ26 else vI 8 y1 (fun j28 => vC (f_X0_take 37 (1 + 3 + 1 + j28) σ26) (fun _ σ29 => vC (f_X4_passProbe y3 σ29) (fun r31 σ30 => vC (f_X1_sceneIn 1 y3 σ30) (fun r33 σ32 => vC (f_X0_tell 37 y2 r33 (σ32 1 0) σ32) (fun r35 σ34 => some (r35, σ34)))))))))
def f_X4_ahead_J21  (y1 : Int32) (y2 : Int32) (y3 : Int32) (σ : Mem) : Option (Int32 × Mem) := f_X4_ahead_J26 y1 y2 y3 1 σ
def f_X4_ahead (x1 : Int32) (x2 : Int32) (x3 : Int32) (σ : Mem) : Option (Int32 × Mem) := if x2 = 1 then f_X4_ahead_J21 x1 x2 x3 σ else if x2 = 3 then f_X4_ahead_J21 x1 x2 x3 σ else if x2 = 5 then f_X4_ahead_J21 x1 x2 x3 σ else if x2 = 8 then f_X4_ahead_J21 x1 x2 x3 σ else f_X4_ahead_J26 x1 x2 x3 0 σ
abbrev rm_X4_cut : Room := { frames := 6, cells := 0, slots := 0, locals := 129 }
def f_X4_cut (x1 : Int32) (σ : Mem) : Option (Int32 × Mem) := vC (f_X4_isWithin x1 0 100 σ) (fun r22 σ21 => if r22 = 0 then vC (f_X4_find 0 σ21) (fun r26 σ25 => some (r26, σ25)) else vC (f_X1_take 25 1 σ21) (fun _ σ23 => vC (f_X1_passBeats 25 x1 σ23) (fun _ σ24 => some (σ24 25 1, σ24))))
abbrev rm_X4_beatsUntil : Room := { frames := 4, cells := 0, slots := 0, locals := 85 }
def f_X4_beatsUntil_L19  : Nat → Int32 → Int32 → Int32 → Int32 → Mem → Option (Int32 × Mem)
  | 0 => fun _ _ _ _ _ => none
  | n + 1 => fun y2 y3 y4 y5 σ => if 200 < y5 then vC (f_X4_find 3 σ) (fun r25 σ24 => some (r25, σ24)) else vC (f_X1_sceneIn 1 y5 σ) (fun r27 σ26 => vL r27 (fun x28 => vC (f_X0_tell 37 y2 x28 (σ26 1 0) σ26) (fun r30 σ29 => vC (f_X4_isWithin r30 y3 y4 σ29) (fun r32 σ31 => if r32 = 0 then vC (f_X0_passBeat 37 x28 (σ31 1 0) σ31) (fun r34 σ33 => vL (y5 + 1) (fun x35 => (f_X4_beatsUntil_L19 n) y2 y3 y4 x35 σ33)) else some (y5, σ31)))))
theorem f_X4_beatsUntil_L19_s  (n : Nat) (y2 : Int32) (y3 : Int32) (y4 : Int32) (y5 : Int32) (σ : Mem) : f_X4_beatsUntil_L19  (n + 1) y2 y3 y4 y5 σ = if 200 < y5 then vC (f_X4_find 3 σ) (fun r25 σ24 => some (r25, σ24)) else vC (f_X1_sceneIn 1 y5 σ) (fun r27 σ26 => vL r27 (fun x28 => vC (f_X0_tell 37 y2 x28 (σ26 1 0) σ26) (fun r30 σ29 => vC (f_X4_isWithin r30 y3 y4 σ29) (fun r32 σ31 => if r32 = 0 then vC (f_X0_passBeat 37 x28 (σ31 1 0) σ31) (fun r34 σ33 => vL (y5 + 1) (fun x35 => (f_X4_beatsUntil_L19 n) y2 y3 y4 x35 σ33)) else some (y5, σ31))))) := rfl
def f_X4_beatsUntil (x1 : Int32) (x2 : Int32) (x3 : Int32) (x4 : Int32) (σ : Mem) : Option (Int32 × Mem) := vI 8 x1 (fun j21 => vC (f_X0_take 37 (1 + 3 + 1 + j21) σ) (fun _ σ22 => vL (0 : Int32) (fun x23 => f_X4_beatsUntil_L19 FU x2 x3 x4 x23 σ22)))
abbrev rm_X4_down : Room := { frames := 5, cells := 0, slots := 0, locals := 111 }
def f_X4_down (x1 : Int32) (σ : Mem) : Option (Int32 × Mem) := vC (f_X4_isCurtain x1 σ) (fun r22 σ21 => if r22 = 0 then vC (f_X4_find 0 σ21) (fun r26 σ25 => some (r26, σ25)) else vC (f_X4_beatsUntil x1 3 0 0 σ21) (fun r24 σ23 => some (r24, σ23)))
abbrev rm_X4_up : Room := { frames := 5, cells := 0, slots := 0, locals := 111 }
def f_X4_up (x1 : Int32) (σ : Mem) : Option (Int32 × Mem) := vC (f_X4_isCurtain x1 σ) (fun r22 σ21 => if r22 = 0 then vC (f_X4_find 0 σ21) (fun r26 σ25 => some (r26, σ25)) else vC (f_X4_beatsUntil x1 3 20 20 σ21) (fun r24 σ23 => some (r24, σ23)))
abbrev rm_X4_weary : Room := { frames := 5, cells := 0, slots := 0, locals := 111 }
def f_X4_weary_J18   (σ : Mem) : Option (Int32 × Mem) := vC (f_X4_find 0 σ) (fun r24 σ23 => some (r24, σ23))
def f_X4_weary (x1 : Int32) (x2 : Int32) (σ : Mem) : Option (Int32 × Mem) := vC (f_X4_isCurtain x1 σ) (fun r22 σ21 => if r22 = 0 then f_X4_weary_J18 σ21 else vC (f_X4_isWithin x2 0 99 σ21) (fun r26 σ25 => if r26 = 0 then f_X4_weary_J18 σ25 else vC (f_X4_beatsUntil x1 1 0 x2 σ25) (fun r28 σ27 => some (r28, σ27))))
abbrev rm_X4_saved : Room := { frames := 5, cells := 0, slots := 0, locals := 107 }
def f_X4_saved_L30  : Nat → Int32 → Int32 → Mem → Option (Int32 × Mem)
  | 0 => fun _ _ _ => none
  | n + 1 => fun y1 y2 σ => if 200 < y2 then vC (f_X4_find 3 σ) (fun r26 σ25 => some (r26, σ25)) else if (σ 25 2) < y1 then vC (f_X1_passBeat 25 σ) (fun _ σ27 => vL (y2 + 1) (fun x28 => (f_X4_saved_L30 n) y1 x28 σ27)) else some (y2, σ)
theorem f_X4_saved_L30_s  (n : Nat) (y1 : Int32) (y2 : Int32) (σ : Mem) : f_X4_saved_L30  (n + 1) y1 y2 σ = if 200 < y2 then vC (f_X4_find 3 σ) (fun r26 σ25 => some (r26, σ25)) else if (σ 25 2) < y1 then vC (f_X1_passBeat 25 σ) (fun _ σ27 => vL (y2 + 1) (fun x28 => (f_X4_saved_L30 n) y1 x28 σ27)) else some (y2, σ) := rfl
def f_X4_saved (x1 : Int32) (σ : Mem) : Option (Int32 × Mem) := vC (f_X4_isWithin x1 0 900 σ) (fun r22 σ21 => if r22 = 0 then vC (f_X4_find 0 σ21) (fun r30 σ29 => some (r30, σ29)) else vC (f_X1_take 25 1 σ21) (fun _ σ23 => vL (0 : Int32) (fun x24 => f_X4_saved_L30 FU x1 x24 σ23)))
abbrev rm_X4_sceneFor : Room := { frames := 6, cells := 0, slots := 0, locals := 129 }
def f_X4_sceneFor_J17   (σ : Mem) : Option (Int32 × Mem) := vC (f_X4_find 0 σ) (fun r24 σ23 => some (r24, σ23))
def f_X4_sceneFor_J93 (k32 : Int32 → Int32 → Int32 → Int32 → Int32 → Mem → Option (Int32 × Mem)) (y1 : Int32) (y2 : Int32) (y3 : Int32) (y4 : Int32) (y5 : Int32) (σ : Mem) : Option (Int32 × Mem) := vL (y5 + 1) (fun x34 => k32 y1 y2 y3 y4 x34 σ)
def f_X4_sceneFor_L32  : Nat → Int32 → Int32 → Int32 → Int32 → Int32 → Mem → Option (Int32 × Mem)
  | 0 => fun _ _ _ _ _ _ => none
  | n + 1 => fun y1 y2 y3 y4 y5 σ => if 12 ≤ y5 then some (y3, σ) else vC (f_X1_take 25 1 σ) (fun _ σ30 => vI 6 y1 (fun j31 => vW σ30 (25 + 1) j31 y5 (fun σ32 => vC (f_X1_passBeats 25 y2 σ32) (fun _ σ33 => if y4 ≤ (σ33 25 1) then f_X4_sceneFor_J93 (f_X4_sceneFor_L32 n) y1 y2 y3 y4 y5 σ33 else vL (σ33 25 1) (fun x35 => vL y5 (fun x36 => f_X4_sceneFor_J93 (f_X4_sceneFor_L32 n) y1 y2 x36 x35 y5 σ33))))))
theorem f_X4_sceneFor_L32_s  (n : Nat) (y1 : Int32) (y2 : Int32) (y3 : Int32) (y4 : Int32) (y5 : Int32) (σ : Mem) : f_X4_sceneFor_L32  (n + 1) y1 y2 y3 y4 y5 σ = if 12 ≤ y5 then some (y3, σ) else vC (f_X1_take 25 1 σ) (fun _ σ30 => vI 6 y1 (fun j31 => vW σ30 (25 + 1) j31 y5 (fun σ32 => vC (f_X1_passBeats 25 y2 σ32) (fun _ σ33 => if y4 ≤ (σ33 25 1) then f_X4_sceneFor_J93 (f_X4_sceneFor_L32 n) y1 y2 y3 y4 y5 σ33 else vL (σ33 25 1) (fun x35 => vL y5 (fun x36 => f_X4_sceneFor_J93 (f_X4_sceneFor_L32 n) y1 y2 x36 x35 y5 σ33)))))) := rfl
def f_X4_sceneFor (x1 : Int32) (x2 : Int32) (σ : Mem) : Option (Int32 × Mem) := vC (f_X4_isPlace x1 σ) (fun r22 σ21 => if r22 = 0 then f_X4_sceneFor_J17 σ21 else vC (f_X4_isWithin x2 0 60 σ21) (fun r26 σ25 => if r26 = 0 then f_X4_sceneFor_J17 σ25 else vL (0 : Int32) (fun x27 => vL (100000 : Int32) (fun x28 => vL (0 : Int32) (fun x29 => f_X4_sceneFor_L32 FU x1 x2 x27 x28 x29 σ25)))))
abbrev rm_X4_kindFor : Room := { frames := 5, cells := 0, slots := 0, locals := 108 }
def f_X4_kindFor_J18   (σ : Mem) : Option (Int32 × Mem) := vC (f_X4_find 0 σ) (fun r24 σ23 => some (r24, σ23))
def f_X4_kindFor_J94 (k32 : Int32 → Int32 → Int32 → Int32 → Int32 → Mem → Option (Int32 × Mem)) (y1 : Int32) (y2 : Int32) (y3 : Int32) (y4 : Int32) (y5 : Int32) (σ : Mem) : Option (Int32 × Mem) := vL (y5 + 1) (fun x35 => k32 y1 y2 y3 y4 x35 σ)
def f_X4_kindFor_L32  : Nat → Int32 → Int32 → Int32 → Int32 → Int32 → Mem → Option (Int32 × Mem)
  | 0 => fun _ _ _ _ _ _ => none
  | n + 1 => fun y1 y2 y3 y4 y5 σ => if 7 ≤ y5 then some (y3, σ) else vI 8 y1 (fun j30 => vC (f_X0_take 37 (1 + 3 + 1 + j30) σ) (fun _ σ31 => vW σ31 37 0 y5 (fun σ32 => vC (f_X4_passProbe y2 σ32) (fun r34 σ33 => if (σ33 37 1) ≤ y4 then f_X4_kindFor_J94 (f_X4_kindFor_L32 n) y1 y2 y3 y4 y5 σ33 else vL (σ33 37 1) (fun x36 => vL y5 (fun x37 => f_X4_kindFor_J94 (f_X4_kindFor_L32 n) y1 y2 x37 x36 y5 σ33))))))
theorem f_X4_kindFor_L32_s  (n : Nat) (y1 : Int32) (y2 : Int32) (y3 : Int32) (y4 : Int32) (y5 : Int32) (σ : Mem) : f_X4_kindFor_L32  (n + 1) y1 y2 y3 y4 y5 σ = if 7 ≤ y5 then some (y3, σ) else vI 8 y1 (fun j30 => vC (f_X0_take 37 (1 + 3 + 1 + j30) σ) (fun _ σ31 => vW σ31 37 0 y5 (fun σ32 => vC (f_X4_passProbe y2 σ32) (fun r34 σ33 => if (σ33 37 1) ≤ y4 then f_X4_kindFor_J94 (f_X4_kindFor_L32 n) y1 y2 y3 y4 y5 σ33 else vL (σ33 37 1) (fun x36 => vL y5 (fun x37 => f_X4_kindFor_J94 (f_X4_kindFor_L32 n) y1 y2 x37 x36 y5 σ33)))))) := rfl
def f_X4_kindFor (x1 : Int32) (x2 : Int32) (σ : Mem) : Option (Int32 × Mem) := vC (f_X4_isCurtain x1 σ) (fun r22 σ21 => if r22 = 0 then f_X4_kindFor_J18 σ21 else vC (f_X4_isWithin x2 0 60 σ21) (fun r26 σ25 => if r26 = 0 then f_X4_kindFor_J18 σ25 else vL (0 : Int32) (fun x27 => vL (-1 : Int32) (fun x28 => vL (0 : Int32) (fun x29 => f_X4_kindFor_L32 FU x1 x2 x27 x28 x29 σ25)))))
abbrev rm_X4_moodFor : Room := { frames := 5, cells := 0, slots := 0, locals := 108 }
def f_X4_moodFor_J18   (σ : Mem) : Option (Int32 × Mem) := vC (f_X4_find 0 σ) (fun r24 σ23 => some (r24, σ23))
def f_X4_moodFor_L37  : Nat → Int32 → Nat → Int32 → Mem → Option (Int32 × Mem)
  | 0 => fun _ _ _ _ => none
  | n + 1 => fun y2 b3 y4 σ => if 99 < y4 then vC (f_X4_find 3 σ) (fun r30 σ29 => some (r30, σ29)) else vC (f_X0_take 37 b3 σ) (fun _ σ31 => vW σ31 37 1 y4 (fun σ32 => vC (f_X4_passProbe y2 σ32) (fun r34 σ33 => if (σ33 37 5) = (σ33 b3 5) then some (y4, σ33) else vL (y4 + 1) (fun x35 => (f_X4_moodFor_L37 n) y2 b3 x35 σ33))))
theorem f_X4_moodFor_L37_s  (n : Nat) (y2 : Int32) (b3 : Nat) (y4 : Int32) (σ : Mem) : f_X4_moodFor_L37  (n + 1) y2 b3 y4 σ = if 99 < y4 then vC (f_X4_find 3 σ) (fun r30 σ29 => some (r30, σ29)) else vC (f_X0_take 37 b3 σ) (fun _ σ31 => vW σ31 37 1 y4 (fun σ32 => vC (f_X4_passProbe y2 σ32) (fun r34 σ33 => if (σ33 37 5) = (σ33 b3 5) then some (y4, σ33) else vL (y4 + 1) (fun x35 => (f_X4_moodFor_L37 n) y2 b3 x35 σ33)))) := rfl
def f_X4_moodFor (x1 : Int32) (x2 : Int32) (σ : Mem) : Option (Int32 × Mem) := vC (f_X4_isCurtain x1 σ) (fun r22 σ21 => if r22 = 0 then f_X4_moodFor_J18 σ21 else vC (f_X4_isWithin x2 0 60 σ21) (fun r26 σ25 => if r26 = 0 then f_X4_moodFor_J18 σ25 else vI 8 x1 (fun j27 => vL (0 : Int32) (fun x28 => f_X4_moodFor_L37 FU x2 (1 + 3 + 1 + j27) x28 σ25))))
abbrev rm_X4_handsFor : Room := { frames := 5, cells := 0, slots := 0, locals := 108 }
def f_X4_handsFor_J18   (σ : Mem) : Option (Int32 × Mem) := vC (f_X4_find 0 σ) (fun r24 σ23 => some (r24, σ23))
def f_X4_handsFor_L51  : Nat → Int32 → Nat → Int32 → Mem → Option (Int32 × Mem)
  | 0 => fun _ _ _ _ => none
  | n + 1 => fun y2 b3 y4 σ => if 40 < y4 then vC (f_X4_find 3 σ) (fun r30 σ29 => some (r30, σ29)) else vC (f_X0_take 37 b3 σ) (fun _ σ31 => vC (f_X0_getPulled 37 y4 σ31) (fun _ σ32 => vC (f_X4_passProbe y2 σ32) (fun r34 σ33 => if (σ33 37 3) ≤ 0 then vL (y4 + 1) (fun x35 => (f_X4_handsFor_L51 n) y2 b3 x35 σ33) else some (y4, σ33))))
theorem f_X4_handsFor_L51_s  (n : Nat) (y2 : Int32) (b3 : Nat) (y4 : Int32) (σ : Mem) : f_X4_handsFor_L51  (n + 1) y2 b3 y4 σ = if 40 < y4 then vC (f_X4_find 3 σ) (fun r30 σ29 => some (r30, σ29)) else vC (f_X0_take 37 b3 σ) (fun _ σ31 => vC (f_X0_getPulled 37 y4 σ31) (fun _ σ32 => vC (f_X4_passProbe y2 σ32) (fun r34 σ33 => if (σ33 37 3) ≤ 0 then vL (y4 + 1) (fun x35 => (f_X4_handsFor_L51 n) y2 b3 x35 σ33) else some (y4, σ33)))) := rfl
def f_X4_handsFor (x1 : Int32) (x2 : Int32) (σ : Mem) : Option (Int32 × Mem) := vC (f_X4_isCurtain x1 σ) (fun r22 σ21 => if r22 = 0 then f_X4_handsFor_J18 σ21 else vC (f_X4_isWithin x2 0 60 σ21) (fun r26 σ25 => if r26 = 0 then f_X4_handsFor_J18 σ25 else vI 8 x1 (fun j27 => if (σ25 (1 + 3 + 1 + j27) 4) = 1 then vC (f_X4_find 4 σ25) (fun r37 σ36 => some (r37, σ36)) else vL (1 : Int32) (fun x28 => f_X4_handsFor_L51 FU x2 (1 + 3 + 1 + j27) x28 σ25))))
abbrev rm_X4_tie : Room := { frames := 5, cells := 0, slots := 0, locals := 108 }
def f_X4_tie_J87 (k39 : Int32 → Int32 → Int32 → Int32 → Mem → Option (Int32 × Mem)) (y1 : Int32) (y2 : Int32) (y3 : Int32) (y4 : Int32) (σ : Mem) : Option (Int32 × Mem) := vL (y4 + 1) (fun x30 => k39 y1 y2 y3 x30 σ)
def f_X4_tie_L39  : Nat → Int32 → Int32 → Int32 → Int32 → Mem → Option (Int32 × Mem)
  | 0 => fun _ _ _ _ _ => none
  | n + 1 => fun y1 y2 y3 y4 σ => if y2 = 0 then some (y3, σ) else if (σ 1 5) ≤ y4 then some (y3, σ) else vI 8 y4 (fun j26 => vC (f_X0_take 37 (1 + 3 + 1 + j26) σ) (fun _ σ27 => vC (f_X4_passProbe y1 σ27) (fun r29 σ28 => if r29 ≤ 0 then f_X4_tie_J87 (f_X4_tie_L39 n) y1 y2 y3 y4 σ28 else vL (y3 ||| (1 <<< (y4 &&& 31))) (fun x31 => f_X4_tie_J87 (f_X4_tie_L39 n) y1 y2 x31 y4 σ28))))
theorem f_X4_tie_L39_s  (n : Nat) (y1 : Int32) (y2 : Int32) (y3 : Int32) (y4 : Int32) (σ : Mem) : f_X4_tie_L39  (n + 1) y1 y2 y3 y4 σ = if y2 = 0 then some (y3, σ) else if (σ 1 5) ≤ y4 then some (y3, σ) else vI 8 y4 (fun j26 => vC (f_X0_take 37 (1 + 3 + 1 + j26) σ) (fun _ σ27 => vC (f_X4_passProbe y1 σ27) (fun r29 σ28 => if r29 ≤ 0 then f_X4_tie_J87 (f_X4_tie_L39 n) y1 y2 y3 y4 σ28 else vL (y3 ||| (1 <<< (y4 &&& 31))) (fun x31 => f_X4_tie_J87 (f_X4_tie_L39 n) y1 y2 x31 y4 σ28)))) := rfl
def f_X4_tie_J33  (y1 : Int32) (s0 : Int32) (σ : Mem) : Option (Int32 × Mem) := vL s0 (fun x23 => vL (0 : Int32) (fun x24 => vL (0 : Int32) (fun x25 => f_X4_tie_L39 FU y1 x23 x24 x25 σ)))
def f_X4_tie (x1 : Int32) (σ : Mem) : Option (Int32 × Mem) := vC (f_X4_isWithin x1 0 20 σ) (fun r22 σ21 => if r22 = 0 then vC (f_X4_find 0 σ21) (fun r33 σ32 => some (r33, σ32)) else if (99999) ≤ (σ21 1 1) then f_X4_tie_J33 x1 0 σ21 else f_X4_tie_J33 x1 1 σ21)
abbrev rm_X4_please : Room := { frames := 1, cells := 0, slots := 0, locals := 23 }
def f_X4_please_J42 (k7 : Int32 → Int32 → Int32 → Mem → Option (Int32 × Mem)) (y1 : Int32) (y2 : Int32) (y3 : Int32) (σ : Mem) : Option (Int32 × Mem) := vL (y3 + 1) (fun x27 => k7 y1 y2 x27 σ)
def f_X4_please_L7  : Nat → Int32 → Int32 → Int32 → Mem → Option (Int32 × Mem)
  | 0 => fun _ _ _ _ => none
  | n + 1 => fun y1 y2 y3 σ => if 4095 < y3 then some (y1, σ) else vC (f_J6_bitCount_0f7a4 y3 σ) (fun r25 σ24 => vL r25 (fun x26 => if y2 ≤ x26 then f_X4_please_J42 (f_X4_please_L7 n) y1 y2 y3 σ24 else vC (f_X1_isPleasedBy 1 y3 σ24) (fun r29 σ28 => if r29 = 0 then f_X4_please_J42 (f_X4_please_L7 n) y1 y2 y3 σ28 else vL x26 (fun x30 => vL y3 (fun x31 => f_X4_please_J42 (f_X4_please_L7 n) x31 x30 y3 σ28)))))
theorem f_X4_please_L7_s  (n : Nat) (y1 : Int32) (y2 : Int32) (y3 : Int32) (σ : Mem) : f_X4_please_L7  (n + 1) y1 y2 y3 σ = if 4095 < y3 then some (y1, σ) else vC (f_J6_bitCount_0f7a4 y3 σ) (fun r25 σ24 => vL r25 (fun x26 => if y2 ≤ x26 then f_X4_please_J42 (f_X4_please_L7 n) y1 y2 y3 σ24 else vC (f_X1_isPleasedBy 1 y3 σ24) (fun r29 σ28 => if r29 = 0 then f_X4_please_J42 (f_X4_please_L7 n) y1 y2 y3 σ28 else vL x26 (fun x30 => vL y3 (fun x31 => f_X4_please_J42 (f_X4_please_L7 n) x31 x30 y3 σ28))))) := rfl
def f_X4_please  (σ : Mem) : Option (Int32 × Mem) := vL (0 : Int32) (fun x21 => vL (13 : Int32) (fun x22 => vL (0 : Int32) (fun x23 => f_X4_please_L7 FU x21 x22 x23 σ)))
abbrev rm_X4_isSheet : Room := { frames := 1, cells := 0, slots := 0, locals := 22 }
def f_X4_isSheet (x0 : Int32) (σ : Mem) : Option (Int32 × Mem) := vC (f_X4_isWithin x0 0 3 σ) (fun r22 σ21 => vB r22 (some (r22, σ21)))
abbrev rm_X4_findingForTold : Room := { frames := 2, cells := 0, slots := 0, locals := 43 }
def f_X4_findingForTold (x1 : Int32) (x2 : Int32) (σ : Mem) : Option (Int32 × Mem) := vC (f_X4_isSheet x1 σ) (fun r22 σ21 => if r22 = 0 then some (0, σ21) else vI 4 x1 (fun j23 => vC (f_X2_isMissing (40 + 1 + 2 * j23) σ21) (fun r25 σ24 => if r25 = 0 then vC (f_X4_isCurtain x2 σ24) (fun r27 σ26 => if r27 = 0 then some (0, σ26) else some ((-1), σ26)) else some (5, σ24))))
abbrev rm_X4_isProbeAsTold : Room := { frames := 4, cells := 0, slots := 0, locals := 85 }
def f_X4_isProbeAsTold_J38 (k2 : Nat → Int32 → Mem → Option (Int32 × Mem)) (b1 : Nat) (y2 : Int32) (σ : Mem) : Option (Int32 × Mem) := vC (f_X1_sceneIn 25 y2 σ) (fun r24 σ23 => vC (f_X0_passBeat 37 r24 (σ23 25 0) σ23) (fun r26 σ25 => vL (y2 + 1) (fun x27 => k2 b1 x27 σ25)))
def f_X4_isProbeAsTold_L2  : Nat → Nat → Int32 → Mem → Option (Int32 × Mem)
  | 0 => fun _ _ _ => none
  | n + 1 => fun b1 y2 σ => if (σ b1 1) ≤ y2 then some (1, σ) else vI 40 y2 (fun j22 => if (σ (b1 + 1) j22) = (-1) then f_X4_isProbeAsTold_J38 (f_X4_isProbeAsTold_L2 n) b1 y2 σ else vI 40 y2 (fun j28 => if (σ (b1 + 1) j28) = (σ 37 3) then f_X4_isProbeAsTold_J38 (f_X4_isProbeAsTold_L2 n) b1 y2 σ else some (0, σ)))
theorem f_X4_isProbeAsTold_L2_s  (n : Nat) (b1 : Nat) (y2 : Int32) (σ : Mem) : f_X4_isProbeAsTold_L2  (n + 1) b1 y2 σ = if (σ b1 1) ≤ y2 then some (1, σ) else vI 40 y2 (fun j22 => if (σ (b1 + 1) j22) = (-1) then f_X4_isProbeAsTold_J38 (f_X4_isProbeAsTold_L2 n) b1 y2 σ else vI 40 y2 (fun j28 => if (σ (b1 + 1) j28) = (σ 37 3) then f_X4_isProbeAsTold_J38 (f_X4_isProbeAsTold_L2 n) b1 y2 σ else some (0, σ))) := rfl
def f_X4_isProbeAsTold (a1 : Nat) (σ : Mem) : Option (Int32 × Mem) := vL (0 : Int32) (fun x21 => f_X4_isProbeAsTold_L2 FU a1 x21 σ)
abbrev rm_X4_fits : Room := { frames := 5, cells := 0, slots := 0, locals := 107 }
def f_X4_fits_J102 (k45 : Int32 → Int32 → Int32 → Int32 → Int32 → Mem → Option (Int32 × Mem)) (y1 : Int32) (y2 : Int32) (y4 : Int32) (y5 : Int32) (y6 : Int32) (σ : Mem) : Option (Int32 × Mem) := vL (y6 + 1) (fun x37 => k45 y1 y2 y4 y5 x37 σ)
def f_X4_fits_L45  : Nat → Int32 → Int32 → Int32 → Int32 → Int32 → Mem → Option (Int32 × Mem)
  | 0 => fun _ _ _ _ _ _ => none
  | n + 1 => fun y1 y2 y4 y5 y6 σ => if 12 ≤ y6 then some (y5, σ) else vI 6 y4 (fun j30 => vW σ (25 + 1) j30 y6 (fun σ31 => vI 8 y2 (fun j32 => vC (f_X0_take 37 (1 + 3 + 1 + j32) σ31) (fun _ σ33 => vI 4 y1 (fun j34 => vC (f_X4_isProbeAsTold (40 + 1 + 2 * j34) σ33) (fun r36 σ35 => if r36 = 0 then f_X4_fits_J102 (f_X4_fits_L45 n) y1 y2 y4 y5 y6 σ35 else vL (y5 ||| (1 <<< (y6 &&& 31))) (fun x38 => f_X4_fits_J102 (f_X4_fits_L45 n) y1 y2 y4 x38 y6 σ35)))))))
theorem f_X4_fits_L45_s  (n : Nat) (y1 : Int32) (y2 : Int32) (y4 : Int32) (y5 : Int32) (y6 : Int32) (σ : Mem) : f_X4_fits_L45  (n + 1) y1 y2 y4 y5 y6 σ = if 12 ≤ y6 then some (y5, σ) else vI 6 y4 (fun j30 => vW σ (25 + 1) j30 y6 (fun σ31 => vI 8 y2 (fun j32 => vC (f_X0_take 37 (1 + 3 + 1 + j32) σ31) (fun _ σ33 => vI 4 y1 (fun j34 => vC (f_X4_isProbeAsTold (40 + 1 + 2 * j34) σ33) (fun r36 σ35 => if r36 = 0 then f_X4_fits_J102 (f_X4_fits_L45 n) y1 y2 y4 y5 y6 σ35 else vL (y5 ||| (1 <<< (y6 &&& 31))) (fun x38 => f_X4_fits_J102 (f_X4_fits_L45 n) y1 y2 y4 x38 y6 σ35))))))) := rfl
def f_X4_fits (x1 : Int32) (x2 : Int32) (σ : Mem) : Option (Int32 × Mem) := vC (f_X4_findingForTold x1 x2 σ) (fun r22 σ21 => vL r22 (fun x23 => if x23 = (-1) then vC (f_X1_take 25 1 σ21) (fun _ σ24 => vC (f_X1_placeIn 1 0 σ24) (fun r26 σ25 => vL r26 (fun x27 => vL (0 : Int32) (fun x28 => vL (0 : Int32) (fun x29 => f_X4_fits_L45 FU x1 x2 x27 x28 x29 σ25))))) else vC (f_X4_find x23 σ21) (fun r40 σ39 => some (r40, σ39))))
abbrev rm_X4_kinds : Room := { frames := 5, cells := 0, slots := 0, locals := 107 }
def f_X4_kinds_J89 (k35 : Int32 → Int32 → Int32 → Int32 → Mem → Option (Int32 × Mem)) (y1 : Int32) (y2 : Int32) (y4 : Int32) (y5 : Int32) (σ : Mem) : Option (Int32 × Mem) := vL (y5 + 1) (fun x33 => k35 y1 y2 y4 x33 σ)
def f_X4_kinds_L35  : Nat → Int32 → Int32 → Int32 → Int32 → Mem → Option (Int32 × Mem)
  | 0 => fun _ _ _ _ _ => none
  | n + 1 => fun y1 y2 y4 y5 σ => if 7 ≤ y5 then some (y4, σ) else vI 8 y2 (fun j27 => vC (f_X0_take 37 (1 + 3 + 1 + j27) σ) (fun _ σ28 => vW σ28 37 0 y5 (fun σ29 => vI 4 y1 (fun j30 => vC (f_X4_isProbeAsTold (40 + 1 + 2 * j30) σ29) (fun r32 σ31 => if r32 = 0 then f_X4_kinds_J89 (f_X4_kinds_L35 n) y1 y2 y4 y5 σ31 else vL (y4 ||| (1 <<< (y5 &&& 31))) (fun x34 => f_X4_kinds_J89 (f_X4_kinds_L35 n) y1 y2 x34 y5 σ31))))))
theorem f_X4_kinds_L35_s  (n : Nat) (y1 : Int32) (y2 : Int32) (y4 : Int32) (y5 : Int32) (σ : Mem) : f_X4_kinds_L35  (n + 1) y1 y2 y4 y5 σ = if 7 ≤ y5 then some (y4, σ) else vI 8 y2 (fun j27 => vC (f_X0_take 37 (1 + 3 + 1 + j27) σ) (fun _ σ28 => vW σ28 37 0 y5 (fun σ29 => vI 4 y1 (fun j30 => vC (f_X4_isProbeAsTold (40 + 1 + 2 * j30) σ29) (fun r32 σ31 => if r32 = 0 then f_X4_kinds_J89 (f_X4_kinds_L35 n) y1 y2 y4 y5 σ31 else vL (y4 ||| (1 <<< (y5 &&& 31))) (fun x34 => f_X4_kinds_J89 (f_X4_kinds_L35 n) y1 y2 x34 y5 σ31)))))) := rfl
def f_X4_kinds (x1 : Int32) (x2 : Int32) (σ : Mem) : Option (Int32 × Mem) := vC (f_X4_findingForTold x1 x2 σ) (fun r22 σ21 => vL r22 (fun x23 => if x23 = (-1) then vC (f_X1_take 25 1 σ21) (fun _ σ24 => vL (0 : Int32) (fun x25 => vL (0 : Int32) (fun x26 => f_X4_kinds_L35 FU x1 x2 x25 x26 σ24))) else vC (f_X4_find x23 σ21) (fun r36 σ35 => some (r36, σ35))))
abbrev rm_X4_evening : Room := { frames := 5, cells := 0, slots := 0, locals := 107 }
def f_X4_evening_J113 (k38 : Int32 → Int32 → Mem → Option (Int32 × Mem)) (y1 : Int32) (y2 : Int32) (σ : Mem) : Option (Int32 × Mem) := vC (f_X1_passBeat 1 σ) (fun _ σ36 => vL (y2 + 1) (fun x37 => k38 y1 x37 σ36))
def f_X4_evening_L38  : Nat → Int32 → Int32 → Mem → Option (Int32 × Mem)
  | 0 => fun _ _ _ => none
  | n + 1 => fun y1 y2 σ => if y1 ≤ y2 then some (σ 1 1, σ) else vC (f_X1_draw 1 σ) (fun r25 σ24 => vL (r25 - r25 / 12 * 12) (fun x26 => vC (f_X1_draw 1 σ24) (fun r28 σ27 => vL (r28 - r28 / 8 * 8) (fun x29 => vC (f_X1_placeIn 1 0 σ27) (fun r31 σ30 => vI 6 r31 (fun j32 => vW σ30 (1 + 1) j32 x26 (fun σ33 => vC (f_X4_isCurtain x29 σ33) (fun r35 σ34 => if r35 = 0 then f_X4_evening_J113 (f_X4_evening_L38 n) y1 y2 σ34 else vI 8 x29 (fun j38 => vW σ34 (1 + 3 + 1 + j38) 2 ((σ34 (1 + 3 + 1 + j38) 2) ^^^ (1 <<< (x26 &&& 31))) (fun σ39 => f_X4_evening_J113 (f_X4_evening_L38 n) y1 y2 σ39))))))))))
theorem f_X4_evening_L38_s  (n : Nat) (y1 : Int32) (y2 : Int32) (σ : Mem) : f_X4_evening_L38  (n + 1) y1 y2 σ = if y1 ≤ y2 then some (σ 1 1, σ) else vC (f_X1_draw 1 σ) (fun r25 σ24 => vL (r25 - r25 / 12 * 12) (fun x26 => vC (f_X1_draw 1 σ24) (fun r28 σ27 => vL (r28 - r28 / 8 * 8) (fun x29 => vC (f_X1_placeIn 1 0 σ27) (fun r31 σ30 => vI 6 r31 (fun j32 => vW σ30 (1 + 1) j32 x26 (fun σ33 => vC (f_X4_isCurtain x29 σ33) (fun r35 σ34 => if r35 = 0 then f_X4_evening_J113 (f_X4_evening_L38 n) y1 y2 σ34 else vI 8 x29 (fun j38 => vW σ34 (1 + 3 + 1 + j38) 2 ((σ34 (1 + 3 + 1 + j38) 2) ^^^ (1 <<< (x26 &&& 31))) (fun σ39 => f_X4_evening_J113 (f_X4_evening_L38 n) y1 y2 σ39)))))))))) := rfl
def f_X4_evening (x1 : Int32) (σ : Mem) : Option (Int32 × Mem) := vC (f_X4_isWithin x1 1 20 σ) (fun r22 σ21 => if r22 = 0 then vC (f_X4_find 0 σ21) (fun r43 σ42 => some (r43, σ42)) else if (σ21 1 3) ≤ ((99999) - x1) then vL (0 : Int32) (fun x23 => f_X4_evening_L38 FU x1 x23 σ21) else vC (f_X4_find 4 σ21) (fun r41 σ40 => some (r41, σ40)))
abbrev rm_X4_commonDivisorWithScenes : Room := { frames := 0, cells := 0, slots := 0, locals := 0 }
def f_X4_commonDivisorWithScenes_J23 (k3 : Int32 → Int32 → Mem → Option (Int32 × Mem)) (y0 : Int32) (y1 : Int32) (σ : Mem) : Option (Int32 × Mem) := vL (y1 + (-1)) (fun x22 => k3 y0 x22 σ)
def f_X4_commonDivisorWithScenes_L3  : Nat → Int32 → Int32 → Mem → Option (Int32 × Mem)
  | 0 => fun _ _ _ => none
  | n + 1 => fun y0 y1 σ => if y1 ≤ 1 then some (1, σ) else vN y1 (if (12 - 12 / y1 * y1) = 0 then vN y1 (if (y0 - y0 / y1 * y1) = 0 then some (y1, σ) else f_X4_commonDivisorWithScenes_J23 (f_X4_commonDivisorWithScenes_L3 n) y0 y1 σ) else f_X4_commonDivisorWithScenes_J23 (f_X4_commonDivisorWithScenes_L3 n) y0 y1 σ)
theorem f_X4_commonDivisorWithScenes_L3_s  (n : Nat) (y0 : Int32) (y1 : Int32) (σ : Mem) : f_X4_commonDivisorWithScenes_L3  (n + 1) y0 y1 σ = if y1 ≤ 1 then some (1, σ) else vN y1 (if (12 - 12 / y1 * y1) = 0 then vN y1 (if (y0 - y0 / y1 * y1) = 0 then some (y1, σ) else f_X4_commonDivisorWithScenes_J23 (f_X4_commonDivisorWithScenes_L3 n) y0 y1 σ) else f_X4_commonDivisorWithScenes_J23 (f_X4_commonDivisorWithScenes_L3 n) y0 y1 σ) := rfl
def f_X4_commonDivisorWithScenes (x0 : Int32) (σ : Mem) : Option (Int32 × Mem) := vL (12 : Int32) (fun x21 => f_X4_commonDivisorWithScenes_L3 FU x0 x21 σ)
abbrev rm_X4_odds : Room := { frames := 2, cells := 0, slots := 0, locals := 43 }
def f_X4_odds_J27   (σ : Mem) : Option (Int64 × Mem) := vC (f_X4_find 0 σ) (fun r24 σ23 => some (r24.toInt64, σ23))
def f_X4_odds_L76  : Nat → Int32 → Int32 → Int64 → Int32 → Mem → Option (Int64 × Mem)
  | 0 => fun _ _ _ _ _ => none
  | n + 1 => fun y2 y5 z6 y8 σ => if y2 ≤ y8 then some (z6, σ) else vL (z6 * y5.toInt64) (fun z38 => vL (y8 + 1) (fun x39 => (f_X4_odds_L76 n) y2 y5 z38 x39 σ))
theorem f_X4_odds_L76_s  (n : Nat) (y2 : Int32) (y5 : Int32) (z6 : Int64) (y8 : Int32) (σ : Mem) : f_X4_odds_L76  (n + 1) y2 y5 z6 y8 σ = if y2 ≤ y8 then some (z6, σ) else vL (z6 * y5.toInt64) (fun z38 => vL (y8 + 1) (fun x39 => (f_X4_odds_L76 n) y2 y5 z38 x39 σ)) := rfl
def f_X4_odds_J62  (y2 : Int32) (y4 : Int32) (s0 : Int32) (σ : Mem) : Option (Int64 × Mem) := vC (f_X4_commonDivisorWithScenes y4 σ) (fun r34 σ33 => vN r34 (vL (s0 / r34) (fun x35 => vL (1 : Int64) (fun z36 => vL (0 : Int32) (fun x37 => f_X4_odds_L76 FU y2 x35 z36 x37 σ33)))))
def f_X4_odds (x1 : Int32) (x2 : Int32) (x3 : Int32) (σ : Mem) : Option (Int64 × Mem) := vC (f_X4_isCurtain x1 σ) (fun r22 σ21 => if r22 = 0 then f_X4_odds_J27 σ21 else vC (f_X4_isWithin x2 0 17 σ21) (fun r26 σ25 => if r26 = 0 then f_X4_odds_J27 σ25 else vC (f_X4_isWithin x3 0 1 σ25) (fun r28 σ27 => if r28 = 0 then f_X4_odds_J27 σ27 else vI 8 x1 (fun j29 => vC (f_J6_bitCount_0f7a4 (σ27 (1 + 3 + 1 + j29) 2) σ27) (fun r31 σ30 => vL r31 (fun x32 => if x3 = 0 then f_X4_odds_J62 x2 x32 x32 σ30 else f_X4_odds_J62 x2 x32 12 σ30))))))
abbrev rm_X4_seed : Room := { frames := 0, cells := 0, slots := 0, locals := 0 }
def f_X4_seed (x1 : Int32) (σ : Mem) : Option (Int32 × Mem) := vL (σ 1 4) (fun x21 => vW σ 1 4 x1 (fun σ22 => some (x21, σ22)))
abbrev rm_X4_feed : Room := { frames := 1, cells := 0, slots := 0, locals := 22 }
def f_X4_feed_L39  : Nat → Int32 → Int32 → Mem → Option (Int32 × Mem)
  | 0 => fun _ _ _ => none
  | n + 1 => fun y1 y3 σ => if y3 < 0 then some (σ 38 1, σ) else vC (f_X3_add ((y1 >>> ((8 * y3) &&& 31)).toInt8.toInt32) σ) (fun _ σ24 => vL (y3 + (-1)) (fun x25 => (f_X4_feed_L39 n) y1 x25 σ24))
theorem f_X4_feed_L39_s  (n : Nat) (y1 : Int32) (y3 : Int32) (σ : Mem) : f_X4_feed_L39  (n + 1) y1 y3 σ = if y3 < 0 then some (σ 38 1, σ) else vC (f_X3_add ((y1 >>> ((8 * y3) &&& 31)).toInt8.toInt32) σ) (fun _ σ24 => vL (y3 + (-1)) (fun x25 => (f_X4_feed_L39 n) y1 x25 σ24)) := rfl
def f_X4_feed (x1 : Int32) (x2 : Int32) (σ : Mem) : Option (Int32 × Mem) := vC (f_X4_isWithin x2 1 4 σ) (fun r22 σ21 => if r22 = 0 then vC (f_X4_find 0 σ21) (fun r29 σ28 => some (r29, σ28)) else if (σ21 38 1) ≤ (120 - x2) then vL (x2 - 1) (fun x23 => f_X4_feed_L39 FU x1 x23 σ21) else vC (f_X4_find 1 σ21) (fun r27 σ26 => some (r27, σ26)))
abbrev rm_X4_wipe : Room := { frames := 0, cells := 0, slots := 0, locals := 0 }
def f_X4_wipe  (σ : Mem) : Option (Int32 × Mem) := vL (σ 38 1) (fun x21 => vW σ 38 1 0 (fun σ22 => some (x21, σ22)))
abbrev rm_X4_text : Room := { frames := 9, cells := 0, slots := 0, locals := 203 }
def f_X4_text_J38  (y1 : Int32) (σ : Mem) : Option (Int32 × Mem) := vW σ 38 1 0 (fun σ25 => some (y1, σ25))
def f_X4_text  (σ : Mem) : Option (Int32 × Mem) := vC (f_X1_take 25 1 σ) (fun _ σ21 => vC (f_X3_readInto 25 σ21) (fun r23 σ22 => vL r23 (fun x24 => if x24 < 0 then f_X4_text_J38 x24 σ22 else vC (f_X1_take 1 25 σ22) (fun _ σ26 => f_X4_text_J38 x24 σ26))))
abbrev rm_X4_isSpot : Room := { frames := 1, cells := 0, slots := 0, locals := 22 }
def f_X4_isSpot (x0 : Int32) (σ : Mem) : Option (Int32 × Mem) := vC (f_X4_isWithin x0 0 9 σ) (fun r22 σ21 => vB r22 (some (r22, σ21)))
abbrev rm_X4_hold : Room := { frames := 2, cells := 0, slots := 0, locals := 43 }
def f_X4_hold_J20   (σ : Mem) : Option (Int32 × Mem) := vC (f_X4_find 0 σ) (fun r24 σ23 => some (r24, σ23))
def f_X4_hold_J26  (y1 : Int32) (y2 : Int32) (σ : Mem) : Option (Int32 × Mem) := vI 10 y1 (fun j25 => vW σ (1 + 2) j25 y2 (fun σ26 => some (1, σ26)))
def f_X4_hold (x1 : Int32) (x2 : Int32) (σ : Mem) : Option (Int32 × Mem) := vC (f_X4_isSpot x1 σ) (fun r22 σ21 => if r22 = 0 then f_X4_hold_J20 σ21 else if x2 = (-1) then f_X4_hold_J26 x1 x2 σ21 else vC (f_X4_isCurtain x2 σ21) (fun r28 σ27 => if r28 = 0 then f_X4_hold_J20 σ27 else f_X4_hold_J26 x1 x2 σ27))
abbrev rm_X4_as : Room := { frames := 2, cells := 0, slots := 0, locals := 43 }
def f_X4_as_J14   (σ : Mem) : Option (Int32 × Mem) := vC (f_X4_find 0 σ) (fun r24 σ23 => some (r24, σ23))
def f_X4_as (x1 : Int32) (x2 : Int32) (σ : Mem) : Option (Int32 × Mem) := vC (f_X4_isSpot x1 σ) (fun r22 σ21 => if r22 = 0 then f_X4_as_J14 σ21 else vC (f_X4_isKind x2 σ21) (fun r26 σ25 => if r26 = 0 then f_X4_as_J14 σ25 else vI 10 x1 (fun j27 => vL (σ25 (1 + 2) j27) (fun x28 => vC (f_X4_isCurtain x28 σ25) (fun r30 σ29 => if r30 = 0 then vC (f_X4_find 5 σ29) (fun r37 σ36 => some (r37, σ36)) else vI 8 x28 (fun j31 => vC (f_X0_countsAs (1 + 3 + 1 + j31) x2 σ29) (fun r33 σ32 => if r33 = 0 then vC (f_X4_find 2 σ32) (fun r35 σ34 => some (r35, σ34)) else some (x28, σ32))))))))
abbrev rm_X4_sheet : Room := { frames := 2, cells := 0, slots := 0, locals := 42 }
def f_X4_sheet_J29   (σ : Mem) : Option (Int32 × Mem) := vC (f_X4_find 0 σ) (fun r24 σ23 => some (r24, σ23))
def f_X4_sheet_J74  (y1 : Int32) (c0 : Nat) (s1 : Int32) (s2 : Int32) (σ : Mem) : Option (Int32 × Mem) := vC (f_X2_lay c0 s1 s2 σ) (fun _ σ26 => vI 4 y1 (fun j27 => some (σ26 (40 + 1 + 2 * j27) 1, σ26)))
def f_X4_sheet_J35  (y1 : Int32) (y2 : Int32) (y3 : Int32) (σ : Mem) : Option (Int32 × Mem) := if 0 ≤ y3 then if y3 ≤ 40 then vI 4 y1 (fun j25 => if y2 = 0 then f_X4_sheet_J74 y1 (40 + 1 + 2 * j25) y2 0 σ else f_X4_sheet_J74 y1 (40 + 1 + 2 * j25) y2 y3 σ) else vC (f_X4_find 0 σ) (fun r29 σ28 => some (r29, σ28)) else vC (f_X4_find 6 σ) (fun r31 σ30 => some (r31, σ30))
def f_X4_sheet (x1 : Int32) (x2 : Int32) (x3 : Int32) (σ : Mem) : Option (Int32 × Mem) := vC (f_X4_isSheet x1 σ) (fun r22 σ21 => if r22 = 0 then f_X4_sheet_J29 σ21 else if x2 = 0 then f_X4_sheet_J35 x1 x2 x3 σ21 else if x2 = 8 then f_X4_sheet_J35 x1 x2 x3 σ21 else if x2 = 16 then f_X4_sheet_J35 x1 x2 x3 σ21 else if x2 = 32 then f_X4_sheet_J35 x1 x2 x3 σ21 else f_X4_sheet_J29 σ21)
abbrev rm_X4_write : Room := { frames := 2, cells := 0, slots := 0, locals := 42 }
def f_X4_write (x1 : Int32) (x2 : Int32) (x3 : Int32) (σ : Mem) : Option (Int32 × Mem) := vC (f_X4_isSheet x1 σ) (fun r22 σ21 => if r22 = 0 then vC (f_X4_find 0 σ21) (fun r36 σ35 => some (r36, σ35)) else vI 4 x1 (fun j23 => vC (f_X2_isMissing (40 + 1 + 2 * j23) σ21) (fun r25 σ24 => if r25 = 0 then vI 4 x1 (fun j26 => vC (f_X4_isWithin x2 0 ((σ24 (40 + 1 + 2 * j26) 1) - 1) σ24) (fun r28 σ27 => if r28 = 0 then vC (f_X4_find 0 σ27) (fun r32 σ31 => some (r32, σ31)) else vI 4 x1 (fun j29 => vC (f_X2_put (40 + 1 + 2 * j29) x2 x3 σ27) (fun _ σ30 => some (1, σ30))))) else vC (f_X4_find 5 σ24) (fun r34 σ33 => some (r34, σ33)))))
abbrev rm_X4_copy : Room := { frames := 2, cells := 0, slots := 0, locals := 42 }
def f_X4_copy_J14   (σ : Mem) : Option (Int32 × Mem) := vC (f_X4_find 0 σ) (fun r24 σ23 => some (r24, σ23))
def f_X4_copy_J52   (σ : Mem) : Option (Int32 × Mem) := vC (f_X4_find 5 σ) (fun r32 σ31 => some (r32, σ31))
def f_X4_copy_J100   (σ : Mem) : Option (Int32 × Mem) := vC (f_X4_find 0 σ) (fun r38 σ37 => some (r38, σ37))
def f_X4_copy (x1 : Int32) (x2 : Int32) (x3 : Int32) (x4 : Int32) (x5 : Int32) (σ : Mem) : Option (Int32 × Mem) := vC (f_X4_isSheet x1 σ) (fun r22 σ21 => if r22 = 0 then f_X4_copy_J14 σ21 else vC (f_X4_isSheet x3 σ21) (fun r26 σ25 => if r26 = 0 then f_X4_copy_J14 σ25 else vI 4 x1 (fun j27 => vI 4 x3 (fun j28 => vC (f_X2_isMissing (40 + 1 + 2 * j27) σ25) (fun r30 σ29 => if r30 = 0 then vC (f_X2_isMissing (40 + 1 + 2 * j28) σ29) (fun r34 σ33 => if r34 = 0 then if (σ33 (40 + 1 + 2 * j27) 0) = (σ33 (40 + 1 + 2 * j28) 0) then vC (f_X2_has (40 + 1 + 2 * j27) x2 x5 σ33) (fun r36 σ35 => if r36 = 0 then f_X4_copy_J100 σ35 else vC (f_X2_has (40 + 1 + 2 * j28) x4 x5 σ35) (fun r40 σ39 => if r40 = 0 then f_X4_copy_J100 σ39 else vY σ39 ((40 + 1 + 2 * j27) + 1) ((40 + 1 + 2 * j28) + 1) 40 40 x2 x4 x5 (fun σ41 => some (x5, σ41)))) else vC (f_X4_find 2 σ33) (fun r43 σ42 => some (r43, σ42)) else f_X4_copy_J52 σ33) else f_X4_copy_J52 σ29)))))
abbrev rm_X4_load : Room := { frames := 2, cells := 0, slots := 0, locals := 43 }
def f_X4_load_L35  : Nat → Nat → Int32 → Mem → Option (Int32 × Mem)
  | 0 => fun _ _ _ => none
  | n + 1 => fun b2 y3 σ => if (σ b2 1) ≤ y3 then some (σ b2 1, σ) else vC (f_X4_isCurtain y3 σ) (fun r28 σ27 => if r28 = 0 then some (y3, σ27) else vI 40 y3 (fun j29 => vC (f_X4_isWithin (σ27 (b2 + 1) j29) 0 4095 σ27) (fun r31 σ30 => if r31 = 0 then some (y3, σ30) else vI 8 y3 (fun j32 => vI 40 y3 (fun j33 => vW σ30 (1 + 3 + 1 + j32) 2 (σ30 (b2 + 1) j33) (fun σ34 => vL (y3 + 1) (fun x35 => (f_X4_load_L35 n) b2 x35 σ34)))))))
theorem f_X4_load_L35_s  (n : Nat) (b2 : Nat) (y3 : Int32) (σ : Mem) : f_X4_load_L35  (n + 1) b2 y3 σ = if (σ b2 1) ≤ y3 then some (σ b2 1, σ) else vC (f_X4_isCurtain y3 σ) (fun r28 σ27 => if r28 = 0 then some (y3, σ27) else vI 40 y3 (fun j29 => vC (f_X4_isWithin (σ27 (b2 + 1) j29) 0 4095 σ27) (fun r31 σ30 => if r31 = 0 then some (y3, σ30) else vI 8 y3 (fun j32 => vI 40 y3 (fun j33 => vW σ30 (1 + 3 + 1 + j32) 2 (σ30 (b2 + 1) j33) (fun σ34 => vL (y3 + 1) (fun x35 => (f_X4_load_L35 n) b2 x35 σ34))))))) := rfl
def f_X4_load (x1 : Int32) (σ : Mem) : Option (Int32 × Mem) := vC (f_X4_isSheet x1 σ) (fun r22 σ21 => if r22 = 0 then vC (f_X4_find 0 σ21) (fun r39 σ38 => some (r39, σ38)) else vI 4 x1 (fun j23 => vC (f_X2_isMissing (40 + 1 + 2 * j23) σ21) (fun r25 σ24 => if r25 = 0 then vL (0 : Int32) (fun x26 => f_X4_load_L35 FU (40 + 1 + 2 * j23) x26 σ24) else vC (f_X4_find 5 σ24) (fun r37 σ36 => some (r37, σ36)))))
abbrev rm_X4_judge : Room := { frames := 2, cells := 0, slots := 0, locals := 43 }
def f_X4_judge_J72  (y3 : Int32) (σ : Mem) : Option (Int32 × Mem) := some (1 + y3, σ)
def f_X4_judge_L35  : Nat → Nat → Int32 → Mem → Option (Int32 × Mem)
  | 0 => fun _ _ _ => none
  | n + 1 => fun b2 y3 σ => if (σ b2 1) ≤ y3 then some (0, σ) else vC (f_X4_isCurtain y3 σ) (fun r28 σ27 => if r28 = 0 then f_X4_judge_J72 y3 σ27 else vI 40 y3 (fun j29 => vI 8 y3 (fun j30 => if (σ27 (b2 + 1) j29) = (σ27 (1 + 3 + 1 + j30) 3) then vL (y3 + 1) (fun x31 => (f_X4_judge_L35 n) b2 x31 σ27) else f_X4_judge_J72 y3 σ27)))
theorem f_X4_judge_L35_s  (n : Nat) (b2 : Nat) (y3 : Int32) (σ : Mem) : f_X4_judge_L35  (n + 1) b2 y3 σ = if (σ b2 1) ≤ y3 then some (0, σ) else vC (f_X4_isCurtain y3 σ) (fun r28 σ27 => if r28 = 0 then f_X4_judge_J72 y3 σ27 else vI 40 y3 (fun j29 => vI 8 y3 (fun j30 => if (σ27 (b2 + 1) j29) = (σ27 (1 + 3 + 1 + j30) 3) then vL (y3 + 1) (fun x31 => (f_X4_judge_L35 n) b2 x31 σ27) else f_X4_judge_J72 y3 σ27))) := rfl
def f_X4_judge (x1 : Int32) (σ : Mem) : Option (Int32 × Mem) := vC (f_X4_isSheet x1 σ) (fun r22 σ21 => if r22 = 0 then vC (f_X4_find 0 σ21) (fun r35 σ34 => some (r35, σ34)) else vI 4 x1 (fun j23 => vC (f_X2_isMissing (40 + 1 + 2 * j23) σ21) (fun r25 σ24 => if r25 = 0 then vL (0 : Int32) (fun x26 => f_X4_judge_L35 FU (40 + 1 + 2 * j23) x26 σ24) else vC (f_X4_find 5 σ24) (fun r33 σ32 => some (r33, σ32)))))
abbrev rm_X4_image : Room := { frames := 2, cells := 0, slots := 0, locals := 43 }
def f_X4_image  (σ : Mem) : Option (Int32 × Mem) := vC (f_X1_take 13 1 σ) (fun _ σ21 => vW σ21 0 2 1 (fun σ22 => some (1, σ22)))
abbrev rm_X4_undo : Room := { frames := 2, cells := 0, slots := 0, locals := 43 }
def f_X4_undo  (σ : Mem) : Option (Int32 × Mem) := if (σ 0 2) = 0 then vC (f_X4_find 3 σ) (fun r23 σ22 => some (r23, σ22)) else vC (f_X1_take 1 13 σ) (fun _ σ21 => some (σ21 1 3, σ21))
abbrev rm_X4_tear : Room := { frames := 0, cells := 0, slots := 0, locals := 0 }
def f_X4_tear_J12  (s0 : Int32) (σ : Mem) : Option (Int32 × Mem) := vL s0 (fun x21 => vW σ 0 2 0 (fun σ22 => some (x21, σ22)))
def f_X4_tear  (σ : Mem) : Option (Int32 × Mem) := if (σ 0 2) = 0 then f_X4_tear_J12 0 σ else f_X4_tear_J12 1 σ
abbrev rm_X4_count : Room := { frames := 1, cells := 0, slots := 0, locals := 25 }
def f_X4_count (x1 : Int32) (σ : Mem) : Option (Int32 × Mem) := if x1 = 0 then some (σ 1 3, σ) else if x1 = 1 then some (σ 1 5, σ) else if x1 = 2 then some (σ 1 1, σ) else if x1 = 3 then some (σ 1 2, σ) else if x1 = 4 then vC (f_X1_thoseDown 1 σ) (fun r22 σ21 => vC (f_J6_bitCount_0f7a4 r22 σ21) (fun r24 σ23 => some (r24, σ23))) else if x1 = 5 then some (σ 38 1, σ) else if x1 = 6 then some (σ 1 4, σ) else if x1 = 7 then vC (f_X1_heldSpots 1 σ) (fun r26 σ25 => some (r26, σ25)) else vC (f_X4_find 0 σ) (fun r28 σ27 => some (r28, σ27))
abbrev rm_X4_status : Room := { frames := 1, cells := 0, slots := 0, locals := 22 }
def f_X4_status_L31  : Nat → Int32 → Int32 → Mem → Option (Int32 × Mem)
  | 0 => fun _ _ _ => none
  | n + 1 => fun y2 y3 σ => if 7 ≤ y3 then some (y2, σ) else vI 7 y3 (fun j25 => vL (y2 + (σ 49 j25)) (fun x26 => vL (y3 + 1) (fun x27 => (f_X4_status_L31 n) x26 x27 σ)))
theorem f_X4_status_L31_s  (n : Nat) (y2 : Int32) (y3 : Int32) (σ : Mem) : f_X4_status_L31  (n + 1) y2 y3 σ = if 7 ≤ y3 then some (y2, σ) else vI 7 y3 (fun j25 => vL (y2 + (σ 49 j25)) (fun x26 => vL (y3 + 1) (fun x27 => (f_X4_status_L31 n) x26 x27 σ))) := rfl
def f_X4_status (x1 : Int32) (σ : Mem) : Option (Int32 × Mem) := vC (f_X4_isWithin x1 (-1) 6 σ) (fun r22 σ21 => if r22 = 0 then vC (f_X4_find 0 σ21) (fun r30 σ29 => some (r30, σ29)) else if x1 < 0 then vL (0 : Int32) (fun x23 => vL (0 : Int32) (fun x24 => f_X4_status_L31 FU x23 x24 σ21)) else vI 7 x1 (fun j28 => some (σ21 49 j28, σ21)))
