-- X6_inRange inRange P
def fX6_inRange (x0 : Int32) (x1 : Int32) (x2 : Int32) : Int32 := if x0 < x1 then (0 : Int32) else if x2 < x0 then (0 : Int32) else (1 : Int32)
-- X0_hasLimb hasLimb P
def fX0_hasLimb (σ : St) (t0 : Nat) (x1 : Int32) : Int32 := (fX6_inRange x1 (0 : Int32) ((σ.1 t0 7) - (1 : Int32)))
-- X0_grow grow S
def fX0_grow_b52 (t0 : Nat) (σ : St) (x4 : Int32) : Option (Int32 × St) := some (x4, σ)
def fX0_grow_b42 (t0 : Nat) (σ : St) (x4 : Int32) : Option (Int32 × St) := fX0_grow_b52 t0 (wI σ t0 7 ((σ.1 t0 7) + (1 : Int32))) x4
def fX0_grow_b34 (t0 : Nat) (σ : St) (x3 : Int32) (x4 : Int32) : Option (Int32 × St) := grd x4 8 (fX0_grow_b42 t0 (wI σ (t0 + 3) (ix x4) x3) x4)
def fX0_grow_b26 (t0 : Nat) (σ : St) (x2 : Int32) (x3 : Int32) (x4 : Int32) : Option (Int32 × St) := grd x4 8 (fX0_grow_b34 t0 (wI σ (t0 + 2) (ix x4) x2) x3 x4)
def fX0_grow (t0 : Nat) (σ : St) (x1 : Int32) (x2 : Int32) (x3 : Int32) : Option (Int32 × St) := if (σ.1 t0 7) < (8 : Int32) then grd (σ.1 t0 7) 8 (fX0_grow_b26 t0 (wI σ (t0 + 1) (ix (σ.1 t0 7)) x1) x2 x3 (σ.1 t0 7)) else some ((-4 : Int32), σ)
-- X0_start start R
def fX0_start (σ : St) (t0 : Nat) (x1 : Int32) : Option Int32 := grd x1 8 (some ((σ.1 (t0 + 1) (ix x1)) + (1 : Int32)))
-- J6_bitCount_0f7a4 bitCount P
def fJ6_bitCount_0f7a4_b41 (x0 : Int32) : Int32 := ((x0 + (ush x0 (16 : Int32))) &&& (63 : Int32))
def fJ6_bitCount_0f7a4_b24 (x0 : Int32) : Int32 := fJ6_bitCount_0f7a4_b41 (((x0 + (ush x0 (4 : Int32))) &&& (252645135 : Int32)) + (ush ((x0 + (ush x0 (4 : Int32))) &&& (252645135 : Int32)) (8 : Int32)))
def fJ6_bitCount_0f7a4 (x0 : Int32) : Int32 := fJ6_bitCount_0f7a4_b24 (((x0 - ((ush x0 (1 : Int32)) &&& (1431655765 : Int32))) &&& (858993459 : Int32)) + ((ush (x0 - ((ush x0 (1 : Int32)) &&& (1431655765 : Int32))) (2 : Int32)) &&& (858993459 : Int32)))
-- X4_rodBit rodBit P
def fX4_rodBit (x0 : Int32) : Int32 := ((1 : Int32) <<< ((x0 + (1 : Int32)) &&& 31))
-- X0_handsFor handsFor R
def fX0_handsFor_b64 (σ : St) (t0 : Nat) (k22 : Int32 → Int32 → Int32 → Option Int32) (x2 : Int32) (x3 : Int32) (x4 : Int32) : Option Int32 := k22 x2 x3 (x4 + (-1 : Int32))
def fX0_handsFor_L22 (σ : St) (t0 : Nat) : Nat → Int32 → Int32 → Int32 → Option Int32
  | 0 => fun _ _ _ => none
  | n + 1 => fun x2 x3 x4 => if x4 < 0 then some x2 else grd x4 8 (if (x3 &&& ((fX4_rodBit x4) ||| (fX4_rodBit (σ.1 (t0 + 1) (ix x4))))) = ((fX4_rodBit x4) ||| (fX4_rodBit (σ.1 (t0 + 1) (ix x4)))) then fX0_handsFor_b64 σ t0 (fX0_handsFor_L22 σ t0 n) (x2 + (-1 : Int32)) (x3 &&& (((fX4_rodBit x4) ||| (fX4_rodBit (σ.1 (t0 + 1) (ix x4)))) ^^^ (-1 : Int32))) x4 else fX0_handsFor_b64 σ t0 (fX0_handsFor_L22 σ t0 n) x2 x3 x4)
theorem fX0_handsFor_L22_s (σ : St) (t0 : Nat) (n : Nat) (x2 : Int32) (x3 : Int32) (x4 : Int32) : fX0_handsFor_L22 σ t0 (n + 1) x2 x3 x4 = if x4 < 0 then some x2 else grd x4 8 (if (x3 &&& ((fX4_rodBit x4) ||| (fX4_rodBit (σ.1 (t0 + 1) (ix x4))))) = ((fX4_rodBit x4) ||| (fX4_rodBit (σ.1 (t0 + 1) (ix x4)))) then fX0_handsFor_b64 σ t0 (fX0_handsFor_L22 σ t0 n) (x2 + (-1 : Int32)) (x3 &&& (((fX4_rodBit x4) ||| (fX4_rodBit (σ.1 (t0 + 1) (ix x4)))) ^^^ (-1 : Int32))) x4 else fX0_handsFor_b64 σ t0 (fX0_handsFor_L22 σ t0 n) x2 x3 x4) := rfl
def fX0_handsFor (σ : St) (t0 : Nat) (x1 : Int32) : Option Int32 := fX0_handsFor_L22 σ t0 FU (fJ6_bitCount_0f7a4 x1) (x1 &&& ((fX4_rodBit (-1 : Int32)) ^^^ (-1 : Int32))) ((σ.1 t0 7) - (1 : Int32))
-- J9_min_7cf53 min P
def fJ9_min_7cf53 (x0 : Int32) (x1 : Int32) : Int32 := if x1 < x0 then x1 else x0
-- X2_stand stand S
def fX2_stand_b56 (t0 : Nat) (t1 : Nat) (σ : St) : Option St := some (σ)
def fX2_stand_b39 (t0 : Nat) (t1 : Nat) (σ : St) : Option St := cpyG (0 : Int32) (0 : Int32) (σ.1 t1 7) 8 8 (fX2_stand_b56 t0 t1 (wC σ (t1 + 3) (t0 + 1) (ix (0 : Int32)) (ix (0 : Int32)) (ix (σ.1 t1 7))))
def fX2_stand_b27 (t0 : Nat) (t1 : Nat) (σ : St) (x2 : Int32) : Option St := fX2_stand_b39 t0 t1 (wI σ t0 4 (fJ9_min_7cf53 (σ.1 t1 3) x2))
def fX2_stand_b20 (t0 : Nat) (t1 : Nat) (σ : St) (x2 : Int32) : Option St := fX2_stand_b27 t0 t1 (wI σ (t0 + 4) (ix (0 : Int32)) (0 : Int32)) x2
def fX2_stand_b10 (t0 : Nat) (t1 : Nat) (σ : St) (x2 : Int32) : Option St := fX2_stand_b20 t0 t1 (wI σ (t0 + 3) (ix (0 : Int32)) (σ.1 t1 2)) x2
def fX2_stand (t0 : Nat) (t1 : Nat) (σ : St) (x2 : Int32) : Option St := fX2_stand_b10 t0 t1 (wI σ (t0 + 2) (ix (0 : Int32)) (σ.1 t1 1)) x2
-- J9_max_7cf53 max P
def fJ9_max_7cf53 (x0 : Int32) (x1 : Int32) : Int32 := if x0 < x1 then x1 else x0
-- X2_follow follow S
def fX2_follow_b55 (t0 : Nat) (t1 : Nat) (σ : St) : Option St := some (σ)
def fX2_follow_b34 (t0 : Nat) (t1 : Nat) (σ : St) (x2 : Int32) : Option St := fX2_follow_b55 t0 t1 (wI σ t0 4 (fJ9_max_7cf53 (1 : Int32) (fJ9_min_7cf53 ((σ.1 t0 4) + (σ.1 t1 7)) x2)))
def fX2_follow_b21 (t0 : Nat) (t1 : Nat) (σ : St) (x2 : Int32) : Option St := fX2_follow_b34 t0 t1 (wI σ (t0 + 3) (ix (0 : Int32)) ((σ.1 (t0 + 3) (ix (0 : Int32))) + (σ.1 t1 6))) x2
def fX2_follow (t0 : Nat) (t1 : Nat) (σ : St) (x2 : Int32) : Option St := if (σ.1 t1 3) = (-1 : Int32) then fX2_follow_b21 t0 t1 (wI σ (t0 + 2) (ix (0 : Int32)) ((σ.1 (t0 + 2) (ix (0 : Int32))) + (σ.1 t1 5))) x2 else grd (σ.1 t1 3) 8 (grd (σ.1 t1 3) 8 (some (wI σ (t0 + 1) (ix (σ.1 t1 3)) ((σ.1 (t0 + 1) (ix (σ.1 t1 3))) + (σ.1 t1 4)))))
-- J9_floorMod_7cf53 floorMod R
def fJ9_floorMod_7cf53 (x0 : Int32) (x1 : Int32) : Option Int32 := dvI x1 (if 0 ≤ (x0 ^^^ x1) then some (x0 - x0 / x1 * x1) else if (x0 - x0 / x1 * x1) = 0 then some (x0 - x0 / x1 * x1) else some ((x0 - x0 / x1 * x1) + x1))
-- X2_layPoints layPoints S
def fX2_layPoints_b104 (t0 : Nat) (t1 : Nat) (k2 : St → Int32 → Option St) (σ : St) (x2 : Int32) : Option St := k2 (σ) (x2 + (1 : Int32))
def fX2_layPoints_b77 (t0 : Nat) (t1 : Nat) (k2 : St → Int32 → Option St) (σ : St) (x2 : Int32) (x3 : Int32) (x4 : Int32) (x5 : Int32) : Option St := grd x3 9 (grd x2 8 (grd x5 8 (grd x4 9 (fX2_layPoints_b104 t0 t1 k2 (wI σ (t0 + 3) (ix x4) ((σ.1 (t0 + 3) (ix x3)) + ((σ.1 (t1 + 2) (ix x2)) * (stY (ix x5))))) x2))))
def fX2_layPoints_b50 (t0 : Nat) (t1 : Nat) (k2 : St → Int32 → Option St) (σ : St) (x2 : Int32) (x3 : Int32) (x4 : Int32) (x5 : Int32) : Option St := grd x3 9 (grd x2 8 (grd x5 8 (grd x4 9 (fX2_layPoints_b77 t0 t1 k2 (wI σ (t0 + 2) (ix x4) ((σ.1 (t0 + 2) (ix x3)) + ((σ.1 (t1 + 2) (ix x2)) * (stX (ix x5))))) x2 x3 x4 x5))))
def fX2_layPoints_L2 (t0 : Nat) (t1 : Nat) : Nat → St → Int32 → Option St
  | 0 => fun _ _ => none
  | n + 1 => fun σ x2 => if (σ.1 t1 7) ≤ x2 then some (σ) else bd (fX0_start (σ) t1 x2) (fun r1 => grd r1 9 (grd x2 8 (bd (fJ9_floorMod_7cf53 ((σ.1 (t0 + 4) (ix r1)) + (σ.1 (t0 + 1) (ix x2))) (8 : Int32)) (fun r3 => grd (x2 + (1 : Int32)) 9 (fX2_layPoints_b50 t0 t1 (fX2_layPoints_L2 t0 t1 n) (wI σ (t0 + 4) (ix (x2 + (1 : Int32))) r3) x2 r1 (x2 + (1 : Int32)) r3)))))
theorem fX2_layPoints_L2_s (t0 : Nat) (t1 : Nat) (n : Nat) (σ : St) (x2 : Int32) : fX2_layPoints_L2 t0 t1 (n + 1) σ x2 = if (σ.1 t1 7) ≤ x2 then some (σ) else bd (fX0_start (σ) t1 x2) (fun r1 => grd r1 9 (grd x2 8 (bd (fJ9_floorMod_7cf53 ((σ.1 (t0 + 4) (ix r1)) + (σ.1 (t0 + 1) (ix x2))) (8 : Int32)) (fun r3 => grd (x2 + (1 : Int32)) 9 (fX2_layPoints_b50 t0 t1 (fX2_layPoints_L2 t0 t1 n) (wI σ (t0 + 4) (ix (x2 + (1 : Int32))) r3) x2 r1 (x2 + (1 : Int32)) r3))))) := rfl
def fX2_layPoints (t0 : Nat) (t1 : Nat) (σ : St) : Option St := fX2_layPoints_L2 t0 t1 FU (σ) (0 : Int32)
-- X2_layBox layBox S
def fX2_layBox_b115 (t0 : Nat) (k42 : St → Int32 → Int32 → Option St) (σ : St) (x1 : Int32) (x2 : Int32) : Option St := k42 (σ) x1 (x2 + (1 : Int32))
def fX2_layBox_b98 (t0 : Nat) (k42 : St → Int32 → Int32 → Option St) (σ : St) (x1 : Int32) (x2 : Int32) : Option St := grd x2 9 (fX2_layBox_b115 t0 k42 (wI σ t0 8 (fJ9_max_7cf53 (σ.1 t0 8) (σ.1 (t0 + 3) (ix x2)))) x1 x2)
def fX2_layBox_b81 (t0 : Nat) (k42 : St → Int32 → Int32 → Option St) (σ : St) (x1 : Int32) (x2 : Int32) : Option St := grd x2 9 (fX2_layBox_b98 t0 k42 (wI σ t0 7 (fJ9_min_7cf53 (σ.1 t0 7) (σ.1 (t0 + 3) (ix x2)))) x1 x2)
def fX2_layBox_b64 (t0 : Nat) (k42 : St → Int32 → Int32 → Option St) (σ : St) (x1 : Int32) (x2 : Int32) : Option St := grd x2 9 (fX2_layBox_b81 t0 k42 (wI σ t0 6 (fJ9_max_7cf53 (σ.1 t0 6) (σ.1 (t0 + 2) (ix x2)))) x1 x2)
def fX2_layBox_L42 (t0 : Nat) : Nat → St → Int32 → Int32 → Option St
  | 0 => fun _ _ _ => none
  | n + 1 => fun σ x1 x2 => if x1 < x2 then some (σ) else grd x2 9 (fX2_layBox_b64 t0 (fX2_layBox_L42 t0 n) (wI σ t0 5 (fJ9_min_7cf53 (σ.1 t0 5) (σ.1 (t0 + 2) (ix x2)))) x1 x2)
theorem fX2_layBox_L42_s (t0 : Nat) (n : Nat) (σ : St) (x1 : Int32) (x2 : Int32) : fX2_layBox_L42 t0 (n + 1) σ x1 x2 = if x1 < x2 then some (σ) else grd x2 9 (fX2_layBox_b64 t0 (fX2_layBox_L42 t0 n) (wI σ t0 5 (fJ9_min_7cf53 (σ.1 t0 5) (σ.1 (t0 + 2) (ix x2)))) x1 x2) := rfl
def fX2_layBox_b40 (t0 : Nat) (σ : St) (x1 : Int32) : Option St := fX2_layBox_L42 t0 FU (σ) x1 (1 : Int32)
def fX2_layBox_b30 (t0 : Nat) (σ : St) (x1 : Int32) : Option St := fX2_layBox_b40 t0 (wI σ t0 8 (σ.1 (t0 + 3) (ix (0 : Int32)))) x1
def fX2_layBox_b20 (t0 : Nat) (σ : St) (x1 : Int32) : Option St := fX2_layBox_b30 t0 (wI σ t0 7 (σ.1 (t0 + 3) (ix (0 : Int32)))) x1
def fX2_layBox_b10 (t0 : Nat) (σ : St) (x1 : Int32) : Option St := fX2_layBox_b20 t0 (wI σ t0 6 (σ.1 (t0 + 2) (ix (0 : Int32)))) x1
def fX2_layBox (t0 : Nat) (σ : St) (x1 : Int32) : Option St := fX2_layBox_b10 t0 (wI σ t0 5 (σ.1 (t0 + 2) (ix (0 : Int32)))) x1
-- X2_take take S
def fX2_take_b72 (t0 : Nat) (t1 : Nat) (k21 : St → Int32 → Int32 → Int32 → Int32 → Option St) (σ : St) (x3 : Int32) (x4 : Int32) (x6 : Int32) (x7 : Int32) : Option St := k21 (σ) x3 x4 x6 (x7 + (1 : Int32))
def fX2_take_b78 (t0 : Nat) (t1 : Nat) (σ : St) : Option St := bd (fX2_layPoints t0 t1 (σ)) (fun σ1 => bd (fX2_layBox t0 (σ1) (σ1.1 t1 7)) (fun σ3 => some (σ3)))
def fX2_take_L21 (t0 : Nat) (t1 : Nat) : Nat → St → Int32 → Int32 → Int32 → Int32 → Option St
  | 0 => fun _ _ _ _ _ => none
  | n + 1 => fun σ x3 x4 x6 x7 => if x6 ≤ x7 then fX2_take_b78 t0 t1 (σ) else grd x7 60 (app1 (σ.2.2 3 (ix x7)) (fun oo1 => Option.elim oo1 (fX2_take_b78 t0 t1 (σ)) (fun u2 => if (σ.1 u2 1) ≤ x3 then if (σ.1 u2 2) = (σ.1 t1 0) then bd (fX2_follow t0 u2 (σ) x4) (fun σ3 => fX2_take_b72 t0 t1 (fX2_take_L21 t0 t1 n) (σ3) x3 x4 x6 x7) else fX2_take_b72 t0 t1 (fX2_take_L21 t0 t1 n) (σ) x3 x4 x6 x7 else fX2_take_b78 t0 t1 (σ))))
theorem fX2_take_L21_s (t0 : Nat) (t1 : Nat) (n : Nat) (σ : St) (x3 : Int32) (x4 : Int32) (x6 : Int32) (x7 : Int32) : fX2_take_L21 t0 t1 (n + 1) σ x3 x4 x6 x7 = if x6 ≤ x7 then fX2_take_b78 t0 t1 (σ) else grd x7 60 (app1 (σ.2.2 3 (ix x7)) (fun oo1 => Option.elim oo1 (fX2_take_b78 t0 t1 (σ)) (fun u2 => if (σ.1 u2 1) ≤ x3 then if (σ.1 u2 2) = (σ.1 t1 0) then bd (fX2_follow t0 u2 (σ) x4) (fun σ3 => fX2_take_b72 t0 t1 (fX2_take_L21 t0 t1 n) (σ3) x3 x4 x6 x7) else fX2_take_b72 t0 t1 (fX2_take_L21 t0 t1 n) (σ) x3 x4 x6 x7 else fX2_take_b78 t0 t1 (σ)))) := rfl
def fX2_take (t0 : Nat) (t1 : Nat) (σ : St) (x3 : Int32) (x4 : Int32) : Option St := bd (fX2_stand t0 t1 (σ) x4) (fun σ1 => fX2_take_L21 t0 t1 FU (σ1) x3 x4 (60 : Int32) (0 : Int32))
-- X2_height height P
def fX2_height (σ : St) (t0 : Nat) : Int32 := ((σ.1 t0 8) - (σ.1 t0 7))
-- X2_measure measure P
def fX2_measure (σ : St) (t0 : Nat) (x1 : Int32) : Int32 := if x1 = (0 : Int32) then (σ.1 t0 5) else if x1 = (1 : Int32) then (σ.1 t0 6) else if x1 = (2 : Int32) then (σ.1 t0 7) else if x1 = (3 : Int32) then (σ.1 t0 8) else if x1 = (4 : Int32) then ((σ.1 t0 6) - (σ.1 t0 5)) else (fX2_height (σ) t0)
-- X2_isWithin isWithin P
def fX2_isWithin (σ : St) (t0 : Nat) (x1 : Int32) (x2 : Int32) (x3 : Int32) : Int32 := if (x1 * (σ.1 t0 4)) < ((fJ9_max_7cf53 (-(σ.1 t0 5)) (σ.1 t0 6)) * x3) then (0 : Int32) else if (x2 * (σ.1 t0 4)) < ((fJ9_max_7cf53 (-(σ.1 t0 7)) (σ.1 t0 8)) * x3) then (0 : Int32) else (1 : Int32)
-- X3_allButFirst allButFirst P
def fX3_allButFirst (σ : St) : Int32 := ((((1 : Int32) <<< ((σ.1 4 1) &&& 31)) - (1 : Int32)) >>> ((1 : Int32) &&& 31))
-- X3_sceneBit sceneBit P
def fX3_sceneBit (x0 : Int32) : Int32 := (((1 : Int32) <<< (x0 &&& 31)) >>> ((1 : Int32) &&& 31))
-- X3_isIn isIn P
def fX3_isIn (x0 : Int32) (x1 : Int32) : Int32 := if (x0 &&& (fX3_sceneBit x1)) = 0 then (0 : Int32) else (1 : Int32)
-- X3_least least R
def fX3_least (σ : St) (x1 : Int32) (x2 : Int32) : Option Int32 := grd ((x1 * (8 : Int32)) + x2) 1024 (some (σ.1 6 (ix ((x1 * (8 : Int32)) + x2))))
-- X3_costVia costVia R
def fX3_costVia (σ : St) (x1 : Int32) (x2 : Int32) (x3 : Int32) : Option Int32 := grd x2 8 (grd x3 8 (bd (fX3_least (σ) (x1 &&& ((fX3_sceneBit x3) ^^^ (-1 : Int32))) x3) (fun r1 => some ((fJ6_bitCount_0f7a4 ((σ.1 5 (ix x2)) ^^^ (σ.1 5 (ix x3)))) + r1))))
-- X3_firstBestNext firstBestNext R
def fX3_firstBestNext_b56 (σ : St) (k9 : Int32 → Int32 → Int32 → Int32 → Int32 → Option Int32) (x1 : Int32) (x2 : Int32) (x3 : Int32) (x4 : Int32) (x5 : Int32) : Option Int32 := k9 x1 x2 x3 x4 (x5 + (1 : Int32))
def fX3_firstBestNext_b40 (σ : St) (k9 : Int32 → Int32 → Int32 → Int32 → Int32 → Option Int32) (x1 : Int32) (x2 : Int32) (x3 : Int32) (x4 : Int32) (x5 : Int32) (xs0 : Int32) : Option Int32 := if x4 ≤ xs0 then fX3_firstBestNext_b56 σ k9 x1 x2 x3 x4 x5 else fX3_firstBestNext_b56 σ k9 x1 x2 x5 xs0 x5
def fX3_firstBestNext_L9 (σ : St) : Nat → Int32 → Int32 → Int32 → Int32 → Int32 → Option Int32
  | 0 => fun _ _ _ _ _ => none
  | n + 1 => fun x1 x2 x3 x4 x5 => if (σ.1 4 1) ≤ x5 then some x3 else if (fX3_isIn x1 x5) = 0 then fX3_firstBestNext_b40 σ (fX3_firstBestNext_L9 σ n) x1 x2 x3 x4 x5 (2147483647 : Int32) else bd (fX3_costVia (σ) x1 x2 x5) (fun r2 => fX3_firstBestNext_b40 σ (fX3_firstBestNext_L9 σ n) x1 x2 x3 x4 x5 r2)
theorem fX3_firstBestNext_L9_s (σ : St) (n : Nat) (x1 : Int32) (x2 : Int32) (x3 : Int32) (x4 : Int32) (x5 : Int32) : fX3_firstBestNext_L9 σ (n + 1) x1 x2 x3 x4 x5 = if (σ.1 4 1) ≤ x5 then some x3 else if (fX3_isIn x1 x5) = 0 then fX3_firstBestNext_b40 σ (fX3_firstBestNext_L9 σ n) x1 x2 x3 x4 x5 (2147483647 : Int32) else bd (fX3_costVia (σ) x1 x2 x5) (fun r2 => fX3_firstBestNext_b40 σ (fX3_firstBestNext_L9 σ n) x1 x2 x3 x4 x5 r2) := rfl
def fX3_firstBestNext (σ : St) (x1 : Int32) (x2 : Int32) : Option Int32 := fX3_firstBestNext_L9 σ FU x1 x2 x2 (2147483647 : Int32) (1 : Int32)
-- X3_fillLeast fillLeast S
def fX3_fillLeast_b53 (k7 : St → Int32 → Int32 → Option St) (k14 : St → Int32 → Int32 → Int32 → Option St) (σ : St) (x1 : Int32) (x2 : Int32) (x3 : Int32) : Option St := k14 (σ) x1 x2 (x3 + (1 : Int32))
def fX3_fillLeast_L14 (k7 : St → Int32 → Int32 → Option St) : Nat → St → Int32 → Int32 → Int32 → Option St
  | 0 => fun _ _ _ _ => none
  | n + 1 => fun σ x1 x2 x3 => if (σ.1 4 1) ≤ x3 then k7 (σ) x1 (x2 + (1 : Int32)) else if (fX3_isIn x2 x3) = 0 then bd (fX3_firstBestNext (σ) x2 x3) (fun r2 => bd (fX3_costVia (σ) x2 x3 r2) (fun r4 => grd ((x2 * (8 : Int32)) + x3) 1024 (fX3_fillLeast_b53 k7 (fX3_fillLeast_L14 k7 n) (wI σ 6 (ix ((x2 * (8 : Int32)) + x3)) r4) x1 x2 x3))) else fX3_fillLeast_b53 k7 (fX3_fillLeast_L14 k7 n) (σ) x1 x2 x3
theorem fX3_fillLeast_L14_s (k7 : St → Int32 → Int32 → Option St) (n : Nat) (σ : St) (x1 : Int32) (x2 : Int32) (x3 : Int32) : fX3_fillLeast_L14 k7 (n + 1) σ x1 x2 x3 = if (σ.1 4 1) ≤ x3 then k7 (σ) x1 (x2 + (1 : Int32)) else if (fX3_isIn x2 x3) = 0 then bd (fX3_firstBestNext (σ) x2 x3) (fun r2 => bd (fX3_costVia (σ) x2 x3 r2) (fun r4 => grd ((x2 * (8 : Int32)) + x3) 1024 (fX3_fillLeast_b53 k7 (fX3_fillLeast_L14 k7 n) (wI σ 6 (ix ((x2 * (8 : Int32)) + x3)) r4) x1 x2 x3))) else fX3_fillLeast_b53 k7 (fX3_fillLeast_L14 k7 n) (σ) x1 x2 x3 := rfl
def fX3_fillLeast_L7  : Nat → St → Int32 → Int32 → Option St
  | 0 => fun _ _ _ => none
  | n + 1 => fun σ x1 x2 => if x1 < x2 then some (σ) else fX3_fillLeast_L14 (fX3_fillLeast_L7 n) FU (σ) x1 x2 (0 : Int32)
theorem fX3_fillLeast_L7_s  (n : Nat) (σ : St) (x1 : Int32) (x2 : Int32) : fX3_fillLeast_L7 (n + 1) σ x1 x2 = if x1 < x2 then some (σ) else fX3_fillLeast_L14 (fX3_fillLeast_L7 n) FU (σ) x1 x2 (0 : Int32) := rfl
def fX3_fillLeast (σ : St) : Option St := fX3_fillLeast_L7 FU (σ) (fX3_allButFirst (σ)) (1 : Int32)
-- X3_append append S
def fX3_append_b34 (σ : St) (x2 : Int32) : Option (Int32 × St) := bd (fX3_fillLeast (σ)) (fun σ1 => some (x2, σ1))
def fX3_append_b24 (σ : St) (x2 : Int32) : Option (Int32 × St) := fX3_append_b34 (wI σ 4 1 ((σ.1 4 1) + (1 : Int32))) x2
def fX3_append (σ : St) (x1 : Int32) : Option (Int32 × St) := if (σ.1 4 1) < (8 : Int32) then grd (σ.1 4 1) 8 (fX3_append_b24 (wI σ 5 (ix (σ.1 4 1)) x1) (σ.1 4 1)) else some ((-4 : Int32), σ)
-- X3_clear clear S
def fX3_clear (σ : St) : Option St := some (wI σ 4 1 (0 : Int32))
-- X3_leastCost leastCost R
def fX3_leastCost (σ : St) : Option Int32 := bd (fX3_least (σ) (fX3_allButFirst (σ)) (0 : Int32)) (fun r1 => some r1)
-- X3_sceneAt sceneAt R
def fX3_sceneAt_L10 (σ : St) : Nat → Int32 → Int32 → Int32 → Int32 → Option Int32
  | 0 => fun _ _ _ _ => none
  | n + 1 => fun x1 x2 x3 x4 => if x1 ≤ x4 then some x2 else bd (fX3_firstBestNext (σ) x3 x2) (fun r1 => fX3_sceneAt_L10 σ n x1 r1 (x3 &&& ((fX3_sceneBit r1) ^^^ (-1 : Int32))) (x4 + (1 : Int32)))
theorem fX3_sceneAt_L10_s (σ : St) (n : Nat) (x1 : Int32) (x2 : Int32) (x3 : Int32) (x4 : Int32) : fX3_sceneAt_L10 σ (n + 1) x1 x2 x3 x4 = if x1 ≤ x4 then some x2 else bd (fX3_firstBestNext (σ) x3 x2) (fun r1 => fX3_sceneAt_L10 σ n x1 r1 (x3 &&& ((fX3_sceneBit r1) ^^^ (-1 : Int32))) (x4 + (1 : Int32))) := rfl
def fX3_sceneAt (σ : St) (x1 : Int32) : Option Int32 := fX3_sceneAt_L10 σ FU x1 (0 : Int32) (fX3_allButFirst (σ)) (0 : Int32)
-- X4_isAfter isAfter P
def fX4_isAfter (σ : St) (o0 : Option Nat) (x1 : Int32) : Int32 := Option.elim o0 ((0 : Int32)) (fun u1 => if (σ.1 u1 1) ≤ x1 then (0 : Int32) else (1 : Int32))
-- X4_newMove newMove S
def fX4_newMove_b70 (b : Nat) (k33 : St → Int32 → Nat → Int32 → Option (Option Nat × St)) (σ : St) (x1 : Int32) (t4 : Nat) (x5 : Int32) : Option (Option Nat × St) := k33 (σ) x1 t4 (x5 + (-1 : Int32))
def fX4_newMove_b95 (b : Nat) (σ : St) (t4 : Nat) : Option (Option Nat × St) := some ((some t4), σ)
def fX4_newMove_b85 (b : Nat) (σ : St) (t4 : Nat) : Option (Option Nat × St) := fX4_newMove_b95 b (wI σ 2 1 ((σ.1 2 1) + (1 : Int32))) t4
def fX4_newMove_b76 (b : Nat) (σ : St) (t4 : Nat) (x5 : Int32) : Option (Option Nat × St) := grd x5 60 (fX4_newMove_b85 b (wR σ 3 (ix x5) (some t4)) t4)
def fX4_newMove_L33 (b : Nat) : Nat → St → Int32 → Nat → Int32 → Option (Option Nat × St)
  | 0 => fun _ _ _ _ => none
  | n + 1 => fun σ x1 t4 x5 => if x5 ≤ 0 then fX4_newMove_b76 b (σ) t4 x5 else grd (x5 - (1 : Int32)) 60 (app1 (σ.2.2 3 (ix (x5 - (1 : Int32)))) (fun oo1 => if (fX4_isAfter (σ) oo1 x1) = 0 then fX4_newMove_b76 b (σ) t4 x5 else grd (x5 - (1 : Int32)) 60 (app1 (σ.2.2 3 (ix (x5 - (1 : Int32)))) (fun oo3 => grd x5 60 (fX4_newMove_b70 b (fX4_newMove_L33 b n) (wR σ 3 (ix x5) oo3) x1 t4 x5)))))
theorem fX4_newMove_L33_s (b : Nat) (n : Nat) (σ : St) (x1 : Int32) (t4 : Nat) (x5 : Int32) : fX4_newMove_L33 b (n + 1) σ x1 t4 x5 = if x5 ≤ 0 then fX4_newMove_b76 b (σ) t4 x5 else grd (x5 - (1 : Int32)) 60 (app1 (σ.2.2 3 (ix (x5 - (1 : Int32)))) (fun oo1 => if (fX4_isAfter (σ) oo1 x1) = 0 then fX4_newMove_b76 b (σ) t4 x5 else grd (x5 - (1 : Int32)) 60 (app1 (σ.2.2 3 (ix (x5 - (1 : Int32)))) (fun oo3 => grd x5 60 (fX4_newMove_b70 b (fX4_newMove_L33 b n) (wR σ 3 (ix x5) oo3) x1 t4 x5))))) := rfl
def fX4_newMove_b25 (b : Nat) (σ : St) (x1 : Int32) (ts0 : Nat) : Option (Option Nat × St) := fX4_newMove_L33 b FU (σ) x1 ts0 (σ.1 2 1)
def fX4_newMove (b : Nat) (σ : St) (x1 : Int32) (x2 : Int32) (x3 : Int32) : Option (Option Nat × St) := if (σ.1 2 1) < (60 : Int32) then fX4_newMove_b25 b (wrow σ b (mvR (σ.1 2 1) x1 x2 x3)) x1 b else some (none, σ)
-- X4_keepFirst keepFirst S
def fX4_keepFirst_b52 (k4 : St → Int32 → Int32 → Int32 → Option St) (σ : St) (x1 : Int32) (x2 : Int32) (x3 : Int32) : Option St := k4 (σ) x1 x2 (x3 + (1 : Int32))
def fX4_keepFirst_b49 (k4 : St → Int32 → Int32 → Int32 → Option St) (σ : St) (x1 : Int32) (x2 : Int32) (x3 : Int32) : Option St := fX4_keepFirst_b52 k4 (σ) x1 (x2 + (1 : Int32)) x3
def fX4_keepFirst_b27 (k4 : St → Int32 → Int32 → Int32 → Option St) (σ : St) (x1 : Int32) (x2 : Int32) (x3 : Int32) (o4 : Option Nat) : Option St := Option.elim o4 (fX4_keepFirst_b52 k4 (σ) x1 x2 x3) (fun u1 => if x1 ≤ (σ.1 u1 0) then fX4_keepFirst_b52 k4 (σ) x1 x2 x3 else grd x2 60 (fX4_keepFirst_b49 k4 (wR σ 3 (ix x2) (some u1)) x1 x2 x3))
def fX4_keepFirst_L4  : Nat → St → Int32 → Int32 → Int32 → Option St
  | 0 => fun _ _ _ _ => none
  | n + 1 => fun σ x1 x2 x3 => if (σ.1 2 1) ≤ x3 then some (wI σ 2 1 x2) else grd x3 60 (app1 (σ.2.2 3 (ix x3)) (fun oo1 => grd x3 60 (fX4_keepFirst_b27 (fX4_keepFirst_L4 n) (wR σ 3 (ix x3) none) x1 x2 x3 oo1)))
theorem fX4_keepFirst_L4_s  (n : Nat) (σ : St) (x1 : Int32) (x2 : Int32) (x3 : Int32) : fX4_keepFirst_L4 (n + 1) σ x1 x2 x3 = if (σ.1 2 1) ≤ x3 then some (wI σ 2 1 x2) else grd x3 60 (app1 (σ.2.2 3 (ix x3)) (fun oo1 => grd x3 60 (fX4_keepFirst_b27 (fX4_keepFirst_L4 n) (wR σ 3 (ix x3) none) x1 x2 x3 oo1))) := rfl
def fX4_keepFirst (σ : St) (x1 : Int32) : Option St := fX4_keepFirst_L4 FU (σ) x1 (0 : Int32) (0 : Int32)
-- X4_hasMoveIn hasMoveIn R
def fX4_hasMoveIn_b39 (σ : St) (k11 : Int32 → Int32 → Int32 → Option Int32) (x1 : Int32) (x3 : Int32) (x4 : Int32) : Option Int32 := k11 x1 x3 (x4 + (1 : Int32))
def fX4_hasMoveIn_L11 (σ : St) : Nat → Int32 → Int32 → Int32 → Option Int32
  | 0 => fun _ _ _ => none
  | n + 1 => fun x1 x3 x4 => if x3 ≤ x4 then some (0 : Int32) else grd x4 60 (app1 (σ.2.2 3 (ix x4)) (fun oo1 => Option.elim oo1 (fX4_hasMoveIn_b39 σ (fX4_hasMoveIn_L11 σ n) x1 x3 x4) (fun u2 => if (σ.1 u2 1) = x1 then some (1 : Int32) else fX4_hasMoveIn_b39 σ (fX4_hasMoveIn_L11 σ n) x1 x3 x4)))
theorem fX4_hasMoveIn_L11_s (σ : St) (n : Nat) (x1 : Int32) (x3 : Int32) (x4 : Int32) : fX4_hasMoveIn_L11 σ (n + 1) x1 x3 x4 = if x3 ≤ x4 then some (0 : Int32) else grd x4 60 (app1 (σ.2.2 3 (ix x4)) (fun oo1 => Option.elim oo1 (fX4_hasMoveIn_b39 σ (fX4_hasMoveIn_L11 σ n) x1 x3 x4) (fun u2 => if (σ.1 u2 1) = x1 then some (1 : Int32) else fX4_hasMoveIn_b39 σ (fX4_hasMoveIn_L11 σ n) x1 x3 x4))) := rfl
def fX4_hasMoveIn (σ : St) (x1 : Int32) : Option Int32 := fX4_hasMoveIn_L11 σ FU x1 (60 : Int32) (0 : Int32)
-- X4_rodsMoved rodsMoved R
def fX4_rodsMoved_b64 (σ : St) (k16 : Int32 → Int32 → Int32 → Int32 → Int32 → Option Int32) (x1 : Int32) (x2 : Int32) (x3 : Int32) (x5 : Int32) (x6 : Int32) : Option Int32 := k16 x1 x2 x3 x5 (x6 + (1 : Int32))
def fX4_rodsMoved_L16 (σ : St) : Nat → Int32 → Int32 → Int32 → Int32 → Int32 → Option Int32
  | 0 => fun _ _ _ _ _ => none
  | n + 1 => fun x1 x2 x3 x5 x6 => if x5 ≤ x6 then some x3 else grd x6 60 (app1 (σ.2.2 3 (ix x6)) (fun oo1 => Option.elim oo1 (fX4_rodsMoved_b64 σ (fX4_rodsMoved_L16 σ n) x1 x2 x3 x5 x6) (fun u2 => if (σ.1 u2 1) = x2 then if (σ.1 u2 2) = x1 then fX4_rodsMoved_b64 σ (fX4_rodsMoved_L16 σ n) x1 x2 (x3 ||| (fX4_rodBit (σ.1 u2 3))) x5 x6 else fX4_rodsMoved_b64 σ (fX4_rodsMoved_L16 σ n) x1 x2 x3 x5 x6 else fX4_rodsMoved_b64 σ (fX4_rodsMoved_L16 σ n) x1 x2 x3 x5 x6)))
theorem fX4_rodsMoved_L16_s (σ : St) (n : Nat) (x1 : Int32) (x2 : Int32) (x3 : Int32) (x5 : Int32) (x6 : Int32) : fX4_rodsMoved_L16 σ (n + 1) x1 x2 x3 x5 x6 = if x5 ≤ x6 then some x3 else grd x6 60 (app1 (σ.2.2 3 (ix x6)) (fun oo1 => Option.elim oo1 (fX4_rodsMoved_b64 σ (fX4_rodsMoved_L16 σ n) x1 x2 x3 x5 x6) (fun u2 => if (σ.1 u2 1) = x2 then if (σ.1 u2 2) = x1 then fX4_rodsMoved_b64 σ (fX4_rodsMoved_L16 σ n) x1 x2 (x3 ||| (fX4_rodBit (σ.1 u2 3))) x5 x6 else fX4_rodsMoved_b64 σ (fX4_rodsMoved_L16 σ n) x1 x2 x3 x5 x6 else fX4_rodsMoved_b64 σ (fX4_rodsMoved_L16 σ n) x1 x2 x3 x5 x6))) := rfl
def fX4_rodsMoved (σ : St) (x1 : Int32) (x2 : Int32) : Option Int32 := fX4_rodsMoved_L16 σ FU x1 x2 (0 : Int32) (60 : Int32) (0 : Int32)
-- X5_lay lay S
def fX5_lay_b45 (t0 : Nat) (t1 : Nat) (σ : St) (x3 : Int32) (x4 : Int32) : Option St := grd x3 9 (some (wL σ t0 3 (((σ.1 (t1 + 3) (ix x3))).toInt64 * (x4).toInt64)))
def fX5_lay_b30 (t0 : Nat) (t1 : Nat) (σ : St) (x3 : Int32) (x4 : Int32) : Option St := grd x3 9 (fX5_lay_b45 t0 t1 (wL σ t0 2 (((σ.1 (t1 + 2) (ix x3))).toInt64 * (x4).toInt64)) x3 x4)
def fX5_lay_b15 (t0 : Nat) (t1 : Nat) (σ : St) (x2 : Int32) (x3 : Int32) (x4 : Int32) : Option St := grd x2 9 (fX5_lay_b30 t0 t1 (wL σ t0 1 (((σ.1 (t1 + 3) (ix x2))).toInt64 * (x4).toInt64)) x3 x4)
def fX5_lay (t0 : Nat) (t1 : Nat) (σ : St) (x2 : Int32) (x3 : Int32) (x4 : Int32) : Option St := grd x2 9 (fX5_lay_b15 t0 t1 (wL σ t0 0 (((σ.1 (t1 + 2) (ix x2))).toInt64 * (x4).toInt64)) x2 x3 x4)
-- J9_max_f86c9 max P
def fJ9_max_f86c9 (x0 : Int64) (x2 : Int64) : Int64 := if x0 < x2 then x2 else x0
-- J9_min_f86c9 min P
def fJ9_min_f86c9 (x0 : Int64) (x2 : Int64) : Int64 := if x2 < x0 then x2 else x0
-- X5_rangesMeet rangesMeet P
def fX5_rangesMeet (x0 : Int64) (x2 : Int64) (x4 : Int64) (x6 : Int64) : Int32 := if (fJ9_max_f86c9 x0 x2) < (fJ9_min_f86c9 x4 x6) then (0 : Int32) else if (fJ9_max_f86c9 x4 x6) < (fJ9_min_f86c9 x0 x2) then (0 : Int32) else (1 : Int32)
-- J13_compare_74951 compare P
def fJ13_compare_74951 (x0 : Int64) (x2 : Int64) : Int32 := if x2 ≤ x0 then if x0 = x2 then (0 : Int32) else (1 : Int32) else (-1 : Int32)
-- X5_side side P
def fX5_side_b35 (σ : St) (t0 : Nat) (x5 : Int64) : Int32 := (fJ13_compare_74951 x5 (0 : Int64))
def fX5_side (σ : St) (t0 : Nat) (x1 : Int64) (x3 : Int64) : Int32 := fX5_side_b35 σ t0 ((((σ.2.1 t0 2) - (σ.2.1 t0 0)) * (x3 - (σ.2.1 t0 1))) - (((σ.2.1 t0 3) - (σ.2.1 t0 1)) * (x1 - (σ.2.1 t0 0))))
-- X5_lineMeets lineMeets P
def fX5_lineMeets (σ : St) (t0 : Nat) (t1 : Nat) : Int32 := if 0 < ((fX5_side (σ) t0 (σ.2.1 t1 0) (σ.2.1 t1 1)) * (fX5_side (σ) t0 (σ.2.1 t1 2) (σ.2.1 t1 3))) then (0 : Int32) else (1 : Int32)
-- X5_meets meets P
def fX5_meets (σ : St) (t0 : Nat) (t1 : Nat) : Int32 := if (fX5_rangesMeet (σ.2.1 t0 0) (σ.2.1 t0 2) (σ.2.1 t1 0) (σ.2.1 t1 2)) = 0 then (0 : Int32) else if (fX5_rangesMeet (σ.2.1 t0 1) (σ.2.1 t0 3) (σ.2.1 t1 1) (σ.2.1 t1 3)) = 0 then (0 : Int32) else if (fX5_lineMeets (σ) t0 t1) = 0 then (0 : Int32) else if (fX5_lineMeets (σ) t1 t0) = 0 then (0 : Int32) else (1 : Int32)
-- X6_setDistance setDistance S
def fX6_setDistance_b25 (σ : St) (x2 : Int32) : Option (Int32 × St) := some (x2, σ)
def fX6_setDistance (σ : St) (x1 : Int32) : Option (Int32 × St) := if (fX6_inRange x1 (10 : Int32) (200 : Int32)) = 0 then some ((-3 : Int32), σ) else fX6_setDistance_b25 (wI σ 0 0 x1) (σ.1 0 0)
-- X6_addFigure addFigure S
def fX6_addFigure_b84 (b : Nat) (σ : St) (x4 : Int32) : Option (Int32 × St) := some (x4, σ)
def fX6_addFigure_b74 (b : Nat) (σ : St) (x4 : Int32) : Option (Int32 × St) := fX6_addFigure_b84 b (wI σ 0 1 ((σ.1 0 1) + (1 : Int32))) x4
def fX6_addFigure_b73 (b : Nat) (σ : St) (x4 : Int32) (xs1 : Int32) (ts2 : Nat) : Option (Int32 × St) := grd xs1 6 (fX6_addFigure_b74 b (wR σ 1 (ix xs1) (some ts2)) x4)
def fX6_addFigure (b : Nat) (σ : St) (x1 : Int32) (x2 : Int32) (x3 : Int32) : Option (Int32 × St) := if (fX6_inRange x1 (-100 : Int32) (100 : Int32)) = 0 then some ((-3 : Int32), σ) else if (fX6_inRange x2 (-100 : Int32) (100 : Int32)) = 0 then some ((-3 : Int32), σ) else if (fX6_inRange x3 (1 : Int32) (σ.1 0 0)) = 0 then some ((-3 : Int32), σ) else if (σ.1 0 1) < (6 : Int32) then fX6_addFigure_b73 b (wrow (wrow (wrow (wrow σ (b + 1) (fun _ => 0)) (b + 2) (fun _ => 0)) (b + 3) (fun _ => 0)) b (mvR (σ.1 0 1) x1 x2 x3)) (σ.1 0 1) (σ.1 0 1) b else some ((-4 : Int32), σ)
-- X6_figureAt figureAt R
def fX6_figureAt (σ : St) (x1 : Int32) : Option (Option Nat) := if (fX6_inRange x1 (0 : Int32) ((σ.1 0 1) - (1 : Int32))) = 0 then some none else grd x1 6 (app1 (σ.2.2 1 (ix x1)) (fun oo2 => some oo2))
-- X6_addLimb addLimb S
def fX6_addLimb_b31 (σ : St) (x2 : Int32) (x3 : Int32) (x4 : Int32) (t5 : Nat) : Option (Int32 × St) := if (fX6_inRange x3 (1 : Int32) (20 : Int32)) = 0 then some ((-3 : Int32), σ) else if (fX6_inRange x4 (0 : Int32) (7 : Int32)) = 0 then some ((-3 : Int32), σ) else bd2 (fX0_grow t5 (σ) x2 x3 x4) (fun r3 σ4 => some (r3, σ4))
def fX6_addLimb (σ : St) (x1 : Int32) (x2 : Int32) (x3 : Int32) (x4 : Int32) : Option (Int32 × St) := bd (fX6_figureAt (σ) x1) (fun r1 => Option.elim r1 (some ((-1 : Int32), σ)) (fun u4 => if x2 = (-1 : Int32) then fX6_addLimb_b31 (σ) x2 x3 x4 u4 else if (fX0_hasLimb (σ) u4 x2) = 0 then some ((-2 : Int32), σ) else fX6_addLimb_b31 (σ) x2 x3 x4 u4))
-- X6_limbsOfAll limbsOfAll R
def fX6_limbsOfAll_b40 (σ : St) (k13 : Int32 → Int32 → Int32 → Option Int32) (x3 : Int32) (x4 : Int32) (xs0 : Int32) (xs1 : Int32) : Option Int32 := k13 (xs0 + xs1) x3 (x4 + (1 : Int32))
def fX6_limbsOfAll_L13 (σ : St) : Nat → Int32 → Int32 → Int32 → Option Int32
  | 0 => fun _ _ _ => none
  | n + 1 => fun x1 x3 x4 => if x3 ≤ x4 then some x1 else grd x4 6 (app1 (σ.2.2 1 (ix x4)) (fun oo1 => Option.elim oo1 (fX6_limbsOfAll_b40 σ (fX6_limbsOfAll_L13 σ n) x3 x4 x1 (0 : Int32)) (fun u2 => fX6_limbsOfAll_b40 σ (fX6_limbsOfAll_L13 σ n) x3 x4 x1 (σ.1 u2 7))))
theorem fX6_limbsOfAll_L13_s (σ : St) (n : Nat) (x1 : Int32) (x3 : Int32) (x4 : Int32) : fX6_limbsOfAll_L13 σ (n + 1) x1 x3 x4 = if x3 ≤ x4 then some x1 else grd x4 6 (app1 (σ.2.2 1 (ix x4)) (fun oo1 => Option.elim oo1 (fX6_limbsOfAll_b40 σ (fX6_limbsOfAll_L13 σ n) x3 x4 x1 (0 : Int32)) (fun u2 => fX6_limbsOfAll_b40 σ (fX6_limbsOfAll_L13 σ n) x3 x4 x1 (σ.1 u2 7)))) := rfl
def fX6_limbsOfAll (σ : St) : Option Int32 := fX6_limbsOfAll_L13 σ FU (0 : Int32) (6 : Int32) (0 : Int32)
-- X6_count count R
def fX6_count (σ : St) (x1 : Int32) : Option Int32 := if x1 = (0 : Int32) then some (σ.1 0 1) else if x1 = (1 : Int32) then some (σ.1 2 1) else if x1 = (2 : Int32) then some (σ.1 4 1) else if x1 = (3 : Int32) then bd (fX6_limbsOfAll (σ)) (fun r1 => some r1) else some (-3 : Int32)
-- X6_isBeat isBeat P
def fX6_isBeat (x0 : Int32) : Int32 := (fX6_inRange x0 (0 : Int32) (99 : Int32))
-- X6_addTurn addTurn S
def fX6_addTurn_b80 (b : Nat) (σ : St) (t6 : Nat) : Option (Int32 × St) := some ((σ.1 t6 0), σ)
def fX6_addTurn (b : Nat) (σ : St) (x1 : Int32) (x2 : Int32) (x3 : Int32) (x4 : Int32) : Option (Int32 × St) := bd (fX6_figureAt (σ) x2) (fun r1 => Option.elim r1 (some ((-1 : Int32), σ)) (fun u4 => if (fX0_hasLimb (σ) u4 x3) = 0 then some ((-2 : Int32), σ) else if (fX6_isBeat x1) = 0 then some ((-3 : Int32), σ) else if (fX6_inRange x4 (-7 : Int32) (7 : Int32)) = 0 then some ((-3 : Int32), σ) else if x4 = 0 then some ((-3 : Int32), σ) else bd2 (fX4_newMove b (σ) x1 x2 x3) (fun r8 σ9 => Option.elim r8 (some ((-4 : Int32), σ9)) (fun u12 => fX6_addTurn_b80 b (wI σ9 u12 4 x4) u12))))
-- X6_addShift addShift S
def fX6_addShift_b95 (b : Nat) (σ : St) (t6 : Nat) : Option (Int32 × St) := some ((σ.1 t6 0), σ)
def fX6_addShift_b88 (b : Nat) (σ : St) (x5 : Int32) (t6 : Nat) : Option (Int32 × St) := fX6_addShift_b95 b (wI σ t6 7 x5) t6
def fX6_addShift_b81 (b : Nat) (σ : St) (x4 : Int32) (x5 : Int32) (t6 : Nat) : Option (Int32 × St) := fX6_addShift_b88 b (wI σ t6 6 x4) x5 t6
def fX6_addShift (b : Nat) (σ : St) (x1 : Int32) (x2 : Int32) (x3 : Int32) (x4 : Int32) (x5 : Int32) : Option (Int32 × St) := bd (fX6_figureAt (σ) x2) (fun r1 => Option.elim r1 (some ((-1 : Int32), σ)) (fun u4 => if (fX6_isBeat x1) = 0 then some ((-3 : Int32), σ) else if (fX6_inRange x3 (-50 : Int32) (50 : Int32)) = 0 then some ((-3 : Int32), σ) else if (fX6_inRange x4 (-50 : Int32) (50 : Int32)) = 0 then some ((-3 : Int32), σ) else if (fX6_inRange x5 (-100 : Int32) (100 : Int32)) = 0 then some ((-3 : Int32), σ) else bd2 (fX4_newMove b (σ) x1 x2 (-1 : Int32)) (fun r9 σ10 => Option.elim r9 (some ((-4 : Int32), σ10)) (fun u13 => fX6_addShift_b81 b (wI σ10 u13 5 x3) x4 x5 u13))))
-- X6_removeMoves removeMoves S
def fX6_removeMoves (σ : St) (x1 : Int32) : Option (Int32 × St) := if (fX6_inRange x1 (0 : Int32) (σ.1 2 1)) = 0 then some ((-3 : Int32), σ) else bd (fX4_keepFirst (σ) ((σ.1 2 1) - x1)) (fun σ2 => some ((σ2.1 2 1), σ2))
-- X6_position position S
def fX6_position_b42 (σ : St) : Option (Int64 × St) := some ((-9223372036854775808 : Int64), σ)
def fX6_position (σ : St) (x1 : Int32) (x2 : Int32) (x3 : Int32) (x4 : Int32) : Option (Int64 × St) := bd (fX6_figureAt (σ) x1) (fun r1 => Option.elim r1 (fX6_position_b42 (σ)) (fun u4 => if (fX6_inRange x2 (0 : Int32) (σ.1 u4 7)) = 0 then fX6_position_b42 (σ) else if (fX6_isBeat x3) = 0 then fX6_position_b42 (σ) else if (fX6_inRange x4 (0 : Int32) (3 : Int32)) = 0 then fX6_position_b42 (σ) else bd (fX2_take 7 u4 (σ) x3 (σ.1 0 0)) (fun σ8 => if x4 = (0 : Int32) then grd x2 9 (some ((((σ8.1 9 (ix x2))).toInt64), σ8)) else if x4 = (1 : Int32) then grd x2 9 (some ((((σ8.1 10 (ix x2))).toInt64), σ8)) else if x4 = (2 : Int32) then grd x2 9 (some ((((σ8.1 11 (ix x2))).toInt64), σ8)) else some ((((σ8.1 7 4)).toInt64), σ8))))
-- J9_abs_067f4 abs P
def fJ9_abs_067f4 (x0 : Int64) : Int64 := if (0 : Int64) ≤ x0 then x0 else (-x0)
-- X6_commonDivisor commonDivisor R
def fX6_commonDivisor_b44 (x4 : Int64) : Option Int64 := some (fJ9_max_f86c9 (1 : Int64) x4)
def fX6_commonDivisor_L9  : Nat → Int64 → Int64 → Int32 → Option Int64
  | 0 => fun _ _ _ => none
  | n + 1 => fun x4 x6 x8 => if (100 : Int32) ≤ x8 then fX6_commonDivisor_b44 x4 else if x6 = (0 : Int64) then fX6_commonDivisor_b44 x4 else dvL x6 (fX6_commonDivisor_L9 n x6 (x4 - x4 / x6 * x6) (x8 + (1 : Int32)))
theorem fX6_commonDivisor_L9_s  (n : Nat) (x4 : Int64) (x6 : Int64) (x8 : Int32) : fX6_commonDivisor_L9 (n + 1) x4 x6 x8 = if (100 : Int32) ≤ x8 then fX6_commonDivisor_b44 x4 else if x6 = (0 : Int64) then fX6_commonDivisor_b44 x4 else dvL x6 (fX6_commonDivisor_L9 n x6 (x4 - x4 / x6 * x6) (x8 + (1 : Int32))) := rfl
def fX6_commonDivisor (x0 : Int64) (x2 : Int64) : Option Int64 := fX6_commonDivisor_L9 FU x0 x2 (0 : Int32)
-- X6_partOfFraction partOfFraction R
def fX6_partOfFraction_b20 (x5 : Int64) (xs0 : Int64) : Option Int64 := dvL x5 (some (xs0 / x5))
def fX6_partOfFraction (x0 : Int64) (x2 : Int64) (x4 : Int32) : Option Int64 := bd (fX6_commonDivisor (fJ9_abs_067f4 x0) x2) (fun r1 => if x4 = 0 then fX6_partOfFraction_b20 r1 x0 else fX6_partOfFraction_b20 r1 x2)
-- X6_box box S
def fX6_box_b38 (σ : St) : Option (Int64 × St) := some ((-9223372036854775808 : Int64), σ)
def fX6_box (σ : St) (x1 : Int32) (x2 : Int32) (x3 : Int32) (x4 : Int32) : Option (Int64 × St) := bd (fX6_figureAt (σ) x1) (fun r1 => Option.elim r1 (fX6_box_b38 (σ)) (fun u4 => if (fX6_isBeat x2) = 0 then fX6_box_b38 (σ) else if (fX6_inRange x3 (0 : Int32) (5 : Int32)) = 0 then fX6_box_b38 (σ) else if (fX6_inRange x4 (0 : Int32) (1 : Int32)) = 0 then fX6_box_b38 (σ) else bd (fX2_take 7 u4 (σ) x2 (σ.1 0 0)) (fun σ8 => bd (fX6_partOfFraction (((fX2_measure (σ8) 7 x3)).toInt64 * ((σ8.1 0 0)).toInt64) (((σ8.1 7 4)).toInt64) x4) (fun r10 => some (r10, σ8)))))
-- X6_takePoses takePoses S
def fX6_takePoses (t1 : Nat) (t2 : Nat) (σ : St) (x3 : Int32) : Option St := bd (fX2_take 7 t1 (σ) x3 (σ.1 0 0)) (fun σ1 => bd (fX2_take 12 t2 (σ1) x3 (σ1.1 0 0)) (fun σ3 => some (σ3)))
-- X6_overlap overlap S
def fX6_overlap_b41 (σ : St) : Option (Int64 × St) := some ((-9223372036854775808 : Int64), σ)
def fX6_overlap_b203 (σ : St) (x4 : Int32) (x7 : Int64) (x9 : Int64) (xs0 : Int64) : Option (Int64 × St) := bd (fX6_partOfFraction ((xs0 * ((σ.1 0 0)).toInt64) * ((σ.1 0 0)).toInt64) (((x7 * x9) * x7) * x9) x4) (fun r1 => some (r1, σ))
def fX6_overlap_b194 (σ : St) (x4 : Int32) (x7 : Int64) (x9 : Int64) : Option (Int64 × St) := fX6_overlap_b203 (σ) x4 x7 x9 (0 : Int64)
def fX6_overlap_b180 (σ : St) (x4 : Int32) (x7 : Int64) (x9 : Int64) (x11 : Int64) (x13 : Int64) : Option (Int64 × St) := if x11 ≤ (0 : Int64) then fX6_overlap_b194 (σ) x4 x7 x9 else if (0 : Int64) < x13 then fX6_overlap_b203 (σ) x4 x7 x9 (x11 * x13) else fX6_overlap_b194 (σ) x4 x7 x9
def fX6_overlap_b127 (σ : St) (x4 : Int32) (x7 : Int64) (x9 : Int64) (x11 : Int64) : Option (Int64 × St) := fX6_overlap_b180 (σ) x4 x7 x9 x11 ((fJ9_min_f86c9 (((σ.1 7 8)).toInt64 * x9) (((σ.1 12 8)).toInt64 * x7)) - (fJ9_max_f86c9 (((σ.1 7 7)).toInt64 * x9) (((σ.1 12 7)).toInt64 * x7)))
def fX6_overlap (σ : St) (x1 : Int32) (x2 : Int32) (x3 : Int32) (x4 : Int32) : Option (Int64 × St) := bd (fX6_figureAt (σ) x1) (fun r1 => bd (fX6_figureAt (σ) x2) (fun r4 => Option.elim r1 (fX6_overlap_b41 (σ)) (fun u7 => Option.elim r4 (fX6_overlap_b41 (σ)) (fun u8 => if (fX6_isBeat x3) = 0 then fX6_overlap_b41 (σ) else if (fX6_inRange x4 (0 : Int32) (1 : Int32)) = 0 then fX6_overlap_b41 (σ) else bd (fX6_takePoses u7 u8 (σ) x3) (fun σ11 => fX6_overlap_b127 (σ11) x4 (((σ11.1 7 4)).toInt64) (((σ11.1 12 4)).toInt64) ((fJ9_min_f86c9 (((σ11.1 7 6)).toInt64 * ((σ11.1 12 4)).toInt64) (((σ11.1 12 6)).toInt64 * ((σ11.1 7 4)).toInt64)) - (fJ9_max_f86c9 (((σ11.1 7 5)).toInt64 * ((σ11.1 12 4)).toInt64) (((σ11.1 12 5)).toInt64 * ((σ11.1 7 4)).toInt64))))))))
-- X6_crossingLimbs crossingLimbs S
def fX6_crossingLimbs_b107 (t1 : Nat) (t2 : Nat) (k13 : St → Int32 → Int32 → Option (Int32 × St)) (k53 : St → Int32 → Int32 → Int32 → Option (Int32 × St)) (σ : St) (x4 : Int32) (x5 : Int32) (x6 : Int32) : Option (Int32 × St) := k53 (σ) x4 x5 (x6 + (1 : Int32))
def fX6_crossingLimbs_L53 (t1 : Nat) (t2 : Nat) (k13 : St → Int32 → Int32 → Option (Int32 × St)) : Nat → St → Int32 → Int32 → Int32 → Option (Int32 × St)
  | 0 => fun _ _ _ _ => none
  | n + 1 => fun σ x4 x5 x6 => if (σ.1 t2 7) ≤ x6 then k13 (σ) x4 (x5 + (1 : Int32)) else bd (fX0_start (σ) t2 x6) (fun r1 => bd (fX5_lay 18 12 (σ) r1 (x6 + (1 : Int32)) (σ.1 7 4)) (fun σ3 => if (fX5_meets (σ3) 17 18) = 0 then fX6_crossingLimbs_b107 t1 t2 k13 (fX6_crossingLimbs_L53 t1 t2 k13 n) (σ3) x4 x5 x6 else fX6_crossingLimbs_b107 t1 t2 k13 (fX6_crossingLimbs_L53 t1 t2 k13 n) (σ3) (x4 + (1 : Int32)) x5 x6))
theorem fX6_crossingLimbs_L53_s (t1 : Nat) (t2 : Nat) (k13 : St → Int32 → Int32 → Option (Int32 × St)) (n : Nat) (σ : St) (x4 : Int32) (x5 : Int32) (x6 : Int32) : fX6_crossingLimbs_L53 t1 t2 k13 (n + 1) σ x4 x5 x6 = if (σ.1 t2 7) ≤ x6 then k13 (σ) x4 (x5 + (1 : Int32)) else bd (fX0_start (σ) t2 x6) (fun r1 => bd (fX5_lay 18 12 (σ) r1 (x6 + (1 : Int32)) (σ.1 7 4)) (fun σ3 => if (fX5_meets (σ3) 17 18) = 0 then fX6_crossingLimbs_b107 t1 t2 k13 (fX6_crossingLimbs_L53 t1 t2 k13 n) (σ3) x4 x5 x6 else fX6_crossingLimbs_b107 t1 t2 k13 (fX6_crossingLimbs_L53 t1 t2 k13 n) (σ3) (x4 + (1 : Int32)) x5 x6)) := rfl
def fX6_crossingLimbs_L13 (t1 : Nat) (t2 : Nat) : Nat → St → Int32 → Int32 → Option (Int32 × St)
  | 0 => fun _ _ _ => none
  | n + 1 => fun σ x4 x5 => if (σ.1 t1 7) ≤ x5 then some (x4, σ) else bd (fX0_start (σ) t1 x5) (fun r1 => bd (fX5_lay 17 7 (σ) r1 (x5 + (1 : Int32)) (σ.1 12 4)) (fun σ3 => fX6_crossingLimbs_L53 t1 t2 (fX6_crossingLimbs_L13 t1 t2 n) FU (σ3) x4 x5 (0 : Int32)))
theorem fX6_crossingLimbs_L13_s (t1 : Nat) (t2 : Nat) (n : Nat) (σ : St) (x4 : Int32) (x5 : Int32) : fX6_crossingLimbs_L13 t1 t2 (n + 1) σ x4 x5 = if (σ.1 t1 7) ≤ x5 then some (x4, σ) else bd (fX0_start (σ) t1 x5) (fun r1 => bd (fX5_lay 17 7 (σ) r1 (x5 + (1 : Int32)) (σ.1 12 4)) (fun σ3 => fX6_crossingLimbs_L53 t1 t2 (fX6_crossingLimbs_L13 t1 t2 n) FU (σ3) x4 x5 (0 : Int32))) := rfl
def fX6_crossingLimbs (t1 : Nat) (t2 : Nat) (σ : St) (x3 : Int32) : Option (Int32 × St) := bd (fX6_takePoses t1 t2 (σ) x3) (fun σ1 => fX6_crossingLimbs_L13 t1 t2 FU (σ1) (0 : Int32) (0 : Int32))
-- X6_crossings crossings S
def fX6_crossings (σ : St) (x1 : Int32) (x2 : Int32) (x3 : Int32) : Option (Int32 × St) := bd (fX6_figureAt (σ) x1) (fun r1 => bd (fX6_figureAt (σ) x2) (fun r4 => Option.elim r1 (some ((-1 : Int32), σ)) (fun u7 => Option.elim r4 (some ((-1 : Int32), σ)) (fun u8 => if x1 = x2 then some ((-3 : Int32), σ) else if (fX6_isBeat x3) = 0 then some ((-3 : Int32), σ) else bd2 (fX6_crossingLimbs u7 u8 (σ) x3) (fun r10 σ11 => some (r10, σ11))))))
-- X6_nextCrossing nextCrossing S
def fX6_nextCrossing_b97 (k44 : St → Int32 → Nat → Nat → Int32 → Option (Int32 × St)) (σ : St) (x3 : Int32) (t4 : Nat) (t5 : Nat) (x6 : Int32) : Option (Int32 × St) := k44 (σ) x3 t4 t5 (x6 + (1 : Int32))
def fX6_nextCrossing_b74 (k44 : St → Int32 → Nat → Nat → Int32 → Option (Int32 × St)) (σ : St) (x3 : Int32) (t4 : Nat) (t5 : Nat) (x6 : Int32) (xs0 : Int32) : Option (Int32 × St) := if xs0 = 0 then fX6_nextCrossing_b97 k44 (σ) x3 t4 t5 x6 else bd2 (fX6_crossingLimbs t4 t5 (σ) x6) (fun r1 σ2 => if r1 ≤ 0 then fX6_nextCrossing_b97 k44 (σ2) x3 t4 t5 x6 else some (x6, σ2))
def fX6_nextCrossing_b69 (k44 : St → Int32 → Nat → Nat → Int32 → Option (Int32 × St)) (σ : St) (x3 : Int32) (t4 : Nat) (t5 : Nat) (x6 : Int32) : Option (Int32 × St) := fX6_nextCrossing_b74 k44 (σ) x3 t4 t5 x6 (1 : Int32)
def fX6_nextCrossing_L44  : Nat → St → Int32 → Nat → Nat → Int32 → Option (Int32 × St)
  | 0 => fun _ _ _ _ _ => none
  | n + 1 => fun σ x3 t4 t5 x6 => if (99 : Int32) < x6 then some ((-5 : Int32), σ) else if x6 = x3 then fX6_nextCrossing_b69 (fX6_nextCrossing_L44 n) (σ) x3 t4 t5 x6 else bd (fX4_hasMoveIn (σ) x6) (fun r1 => if r1 = 0 then fX6_nextCrossing_b74 (fX6_nextCrossing_L44 n) (σ) x3 t4 t5 x6 (0 : Int32) else fX6_nextCrossing_b69 (fX6_nextCrossing_L44 n) (σ) x3 t4 t5 x6)
theorem fX6_nextCrossing_L44_s  (n : Nat) (σ : St) (x3 : Int32) (t4 : Nat) (t5 : Nat) (x6 : Int32) : fX6_nextCrossing_L44 (n + 1) σ x3 t4 t5 x6 = if (99 : Int32) < x6 then some ((-5 : Int32), σ) else if x6 = x3 then fX6_nextCrossing_b69 (fX6_nextCrossing_L44 n) (σ) x3 t4 t5 x6 else bd (fX4_hasMoveIn (σ) x6) (fun r1 => if r1 = 0 then fX6_nextCrossing_b74 (fX6_nextCrossing_L44 n) (σ) x3 t4 t5 x6 (0 : Int32) else fX6_nextCrossing_b69 (fX6_nextCrossing_L44 n) (σ) x3 t4 t5 x6) := rfl
def fX6_nextCrossing (σ : St) (x1 : Int32) (x2 : Int32) (x3 : Int32) : Option (Int32 × St) := bd (fX6_figureAt (σ) x1) (fun r1 => bd (fX6_figureAt (σ) x2) (fun r4 => Option.elim r1 (some ((-1 : Int32), σ)) (fun u7 => Option.elim r4 (some ((-1 : Int32), σ)) (fun u8 => if x1 = x2 then some ((-3 : Int32), σ) else if (fX6_isBeat x3) = 0 then some ((-3 : Int32), σ) else fX6_nextCrossing_L44 FU (σ) x3 u7 u8 x3))))
-- X6_within within S
def fX6_within_b110 (k49 : St → Int32 → Int32 → Int32 → Int32 → Int32 → Int32 → Option (Int32 × St)) (σ : St) (x1 : Int32) (x2 : Int32) (x3 : Int32) (x4 : Int32) (x6 : Int32) (x7 : Int32) : Option (Int32 × St) := k49 (σ) x1 x2 x3 x4 x6 (x7 + (1 : Int32))
def fX6_within_L49  : Nat → St → Int32 → Int32 → Int32 → Int32 → Int32 → Int32 → Option (Int32 × St)
  | 0 => fun _ _ _ _ _ _ _ => none
  | n + 1 => fun σ x1 x2 x3 x4 x6 x7 => if x6 ≤ x7 then some (x4, σ) else grd x7 6 (app1 (σ.2.2 1 (ix x7)) (fun oo1 => Option.elim oo1 (fX6_within_b110 (fX6_within_L49 n) (σ) x1 x2 x3 x4 x6 x7) (fun u2 => bd (fX2_take 7 u2 (σ) x3 (σ.1 0 0)) (fun σ3 => if (fX2_isWithin (σ3) 7 x1 x2 (σ3.1 0 0)) = 0 then fX6_within_b110 (fX6_within_L49 n) (σ3) x1 x2 x3 x4 x6 x7 else fX6_within_b110 (fX6_within_L49 n) (σ3) x1 x2 x3 (x4 ||| ((1 : Int32) <<< ((σ3.1 u2 0) &&& 31))) x6 x7))))
theorem fX6_within_L49_s  (n : Nat) (σ : St) (x1 : Int32) (x2 : Int32) (x3 : Int32) (x4 : Int32) (x6 : Int32) (x7 : Int32) : fX6_within_L49 (n + 1) σ x1 x2 x3 x4 x6 x7 = if x6 ≤ x7 then some (x4, σ) else grd x7 6 (app1 (σ.2.2 1 (ix x7)) (fun oo1 => Option.elim oo1 (fX6_within_b110 (fX6_within_L49 n) (σ) x1 x2 x3 x4 x6 x7) (fun u2 => bd (fX2_take 7 u2 (σ) x3 (σ.1 0 0)) (fun σ3 => if (fX2_isWithin (σ3) 7 x1 x2 (σ3.1 0 0)) = 0 then fX6_within_b110 (fX6_within_L49 n) (σ3) x1 x2 x3 x4 x6 x7 else fX6_within_b110 (fX6_within_L49 n) (σ3) x1 x2 x3 (x4 ||| ((1 : Int32) <<< ((σ3.1 u2 0) &&& 31))) x6 x7)))) := rfl
def fX6_within (σ : St) (x1 : Int32) (x2 : Int32) (x3 : Int32) : Option (Int32 × St) := if (fX6_inRange x1 (0 : Int32) (20000 : Int32)) = 0 then some ((-3 : Int32), σ) else if (fX6_inRange x2 (0 : Int32) (20000 : Int32)) = 0 then some ((-3 : Int32), σ) else if (fX6_isBeat x3) = 0 then some ((-3 : Int32), σ) else fX6_within_L49 FU (σ) x1 x2 x3 (0 : Int32) (6 : Int32) (0 : Int32)
-- X6_isHigher isHigher S
def fX6_isHigher (t1 : Nat) (t2 : Nat) (σ : St) (x3 : Int32) : Option (Int32 × St) := bd (fX6_takePoses t1 t2 (σ) x3) (fun σ1 => if ((fX2_height (σ1) 7) * (σ1.1 12 4)) ≤ ((fX2_height (σ1) 12) * (σ1.1 7 4)) then some ((0 : Int32), σ1) else some ((1 : Int32), σ1))
-- X6_highest highest S
def fX6_highest_b60 (k24 : St → Int32 → Option Nat → Int32 → Int32 → Option (Int32 × St)) (σ : St) (x1 : Int32) (o2 : Option Nat) (x4 : Int32) (x5 : Int32) : Option (Int32 × St) := k24 (σ) x1 o2 x4 (x5 + (1 : Int32))
def fX6_highest_b57 (k24 : St → Int32 → Option Nat → Int32 → Int32 → Option (Int32 × St)) (σ : St) (x1 : Int32) (x4 : Int32) (x5 : Int32) (t6 : Nat) : Option (Int32 × St) := fX6_highest_b60 k24 (σ) x1 (some t6) x4 x5
def fX6_highest_L24  : Nat → St → Int32 → Option Nat → Int32 → Int32 → Option (Int32 × St)
  | 0 => fun _ _ _ _ _ => none
  | n + 1 => fun σ x1 o2 x4 x5 => if x4 ≤ x5 then Option.elim o2 (some ((-5 : Int32), σ)) (fun u1 => some ((σ.1 u1 0), σ)) else grd x5 6 (app1 (σ.2.2 1 (ix x5)) (fun oo2 => Option.elim oo2 (fX6_highest_b60 (fX6_highest_L24 n) (σ) x1 o2 x4 x5) (fun u3 => Option.elim o2 (fX6_highest_b57 (fX6_highest_L24 n) (σ) x1 x4 x5 u3) (fun u4 => bd2 (fX6_isHigher u3 u4 (σ) x1) (fun r5 σ7 => if r5 = 0 then fX6_highest_b60 (fX6_highest_L24 n) (σ7) x1 (some u4) x4 x5 else fX6_highest_b57 (fX6_highest_L24 n) (σ7) x1 x4 x5 u3)))))
theorem fX6_highest_L24_s  (n : Nat) (σ : St) (x1 : Int32) (o2 : Option Nat) (x4 : Int32) (x5 : Int32) : fX6_highest_L24 (n + 1) σ x1 o2 x4 x5 = if x4 ≤ x5 then Option.elim o2 (some ((-5 : Int32), σ)) (fun u1 => some ((σ.1 u1 0), σ)) else grd x5 6 (app1 (σ.2.2 1 (ix x5)) (fun oo2 => Option.elim oo2 (fX6_highest_b60 (fX6_highest_L24 n) (σ) x1 o2 x4 x5) (fun u3 => Option.elim o2 (fX6_highest_b57 (fX6_highest_L24 n) (σ) x1 x4 x5 u3) (fun u4 => bd2 (fX6_isHigher u3 u4 (σ) x1) (fun r5 σ7 => if r5 = 0 then fX6_highest_b60 (fX6_highest_L24 n) (σ7) x1 (some u4) x4 x5 else fX6_highest_b57 (fX6_highest_L24 n) (σ7) x1 x4 x5 u3))))) := rfl
def fX6_highest (σ : St) (x1 : Int32) : Option (Int32 × St) := if (fX6_isBeat x1) = 0 then some ((-3 : Int32), σ) else fX6_highest_L24 FU (σ) x1 none (6 : Int32) (0 : Int32)
-- X6_planeFor planeFor S
def fX6_planeFor (σ : St) (x1 : Int32) (x2 : Int32) (x3 : Int32) : Option (Int32 × St) := bd (fX6_figureAt (σ) x1) (fun r1 => Option.elim r1 (some ((-1 : Int32), σ)) (fun u4 => if (fX6_isBeat x2) = 0 then some ((-3 : Int32), σ) else if (fX6_inRange x3 (0 : Int32) (100000 : Int32)) = 0 then some ((-3 : Int32), σ) else if x3 = 0 then some ((σ.1 0 0), σ) else bd (fX2_take 7 u4 (σ) x2 (σ.1 0 0)) (fun σ7 => dvI x3 (if (fJ9_min_7cf53 (((fX2_height (σ7) 7) * (σ7.1 0 0)) / x3) (σ7.1 0 0)) < (1 : Int32) then some ((-5 : Int32), σ7) else some ((fJ9_min_7cf53 (((fX2_height (σ7) 7) * (σ7.1 0 0)) / x3) (σ7.1 0 0)), σ7)))))
-- X6_handsOfAll handsOfAll R
def fX6_handsOfAll_b55 (σ : St) (k14 : Int32 → Int32 → Int32 → Int32 → Option Int32) (x1 : Int32) (x4 : Int32) (x5 : Int32) (xs0 : Int32) (xs1 : Int32) : Option Int32 := k14 x1 (xs0 + xs1) x4 (x5 + (1 : Int32))
def fX6_handsOfAll_L14 (σ : St) : Nat → Int32 → Int32 → Int32 → Int32 → Option Int32
  | 0 => fun _ _ _ _ => none
  | n + 1 => fun x1 x2 x4 x5 => if x4 ≤ x5 then some x2 else grd x5 6 (app1 (σ.2.2 1 (ix x5)) (fun oo1 => Option.elim oo1 (fX6_handsOfAll_b55 σ (fX6_handsOfAll_L14 σ n) x1 x4 x5 x2 (0 : Int32)) (fun u2 => bd (fX4_rodsMoved (σ) (σ.1 u2 0) x1) (fun r3 => bd (fX0_handsFor (σ) u2 r3) (fun r5 => fX6_handsOfAll_b55 σ (fX6_handsOfAll_L14 σ n) x1 x4 x5 x2 r5)))))
theorem fX6_handsOfAll_L14_s (σ : St) (n : Nat) (x1 : Int32) (x2 : Int32) (x4 : Int32) (x5 : Int32) : fX6_handsOfAll_L14 σ (n + 1) x1 x2 x4 x5 = if x4 ≤ x5 then some x2 else grd x5 6 (app1 (σ.2.2 1 (ix x5)) (fun oo1 => Option.elim oo1 (fX6_handsOfAll_b55 σ (fX6_handsOfAll_L14 σ n) x1 x4 x5 x2 (0 : Int32)) (fun u2 => bd (fX4_rodsMoved (σ) (σ.1 u2 0) x1) (fun r3 => bd (fX0_handsFor (σ) u2 r3) (fun r5 => fX6_handsOfAll_b55 σ (fX6_handsOfAll_L14 σ n) x1 x4 x5 x2 r5))))) := rfl
def fX6_handsOfAll (σ : St) (x1 : Int32) : Option Int32 := fX6_handsOfAll_L14 σ FU x1 (0 : Int32) (6 : Int32) (0 : Int32)
-- X6_hands hands R
def fX6_hands (σ : St) (x1 : Int32) : Option Int32 := if (fX6_isBeat x1) = 0 then some (-3 : Int32) else bd (fX6_handsOfAll (σ) x1) (fun r2 => some r2)
-- X6_busiestBeat busiestBeat R
def fX6_busiestBeat_b46 (σ : St) (k7 : Int32 → Int32 → Int32 → Option Int32) (x1 : Int32) (x2 : Int32) (x3 : Int32) : Option Int32 := k7 x1 x2 (x3 + (1 : Int32))
def fX6_busiestBeat_b33 (σ : St) (k7 : Int32 → Int32 → Int32 → Option Int32) (x1 : Int32) (x2 : Int32) (x3 : Int32) (xs0 : Int32) : Option Int32 := if xs0 ≤ x2 then fX6_busiestBeat_b46 σ k7 x1 x2 x3 else fX6_busiestBeat_b46 σ k7 x3 xs0 x3
def fX6_busiestBeat_L7 (σ : St) : Nat → Int32 → Int32 → Int32 → Option Int32
  | 0 => fun _ _ _ => none
  | n + 1 => fun x1 x2 x3 => if (99 : Int32) < x3 then some x1 else bd (fX4_hasMoveIn (σ) x3) (fun r1 => if r1 = 0 then fX6_busiestBeat_b33 σ (fX6_busiestBeat_L7 σ n) x1 x2 x3 (0 : Int32) else bd (fX6_handsOfAll (σ) x3) (fun r4 => fX6_busiestBeat_b33 σ (fX6_busiestBeat_L7 σ n) x1 x2 x3 r4))
theorem fX6_busiestBeat_L7_s (σ : St) (n : Nat) (x1 : Int32) (x2 : Int32) (x3 : Int32) : fX6_busiestBeat_L7 σ (n + 1) x1 x2 x3 = if (99 : Int32) < x3 then some x1 else bd (fX4_hasMoveIn (σ) x3) (fun r1 => if r1 = 0 then fX6_busiestBeat_b33 σ (fX6_busiestBeat_L7 σ n) x1 x2 x3 (0 : Int32) else bd (fX6_handsOfAll (σ) x3) (fun r4 => fX6_busiestBeat_b33 σ (fX6_busiestBeat_L7 σ n) x1 x2 x3 r4)) := rfl
def fX6_busiestBeat (σ : St) : Option Int32 := fX6_busiestBeat_L7 σ FU (-5 : Int32) (0 : Int32) (0 : Int32)
-- X6_activeRods activeRods R
def fX6_activeRods (σ : St) (x1 : Int32) (x2 : Int32) : Option Int32 := bd (fX6_figureAt (σ) x1) (fun r1 => Option.elim r1 (some (-1 : Int32)) (fun u4 => if (fX6_isBeat x2) = 0 then some (-3 : Int32) else bd (fX4_rodsMoved (σ) x1 x2) (fun r6 => some (fJ6_bitCount_0f7a4 r6))))
-- X6_addScene addScene S
def fX6_addScene (σ : St) (x1 : Int32) : Option (Int32 × St) := if (fX6_inRange x1 (0 : Int32) (63 : Int32)) = 0 then some ((-3 : Int32), σ) else bd2 (fX3_append (σ) x1) (fun r2 σ3 => some (r2, σ3))
-- X6_clearScenes clearScenes S
def fX6_clearScenes (σ : St) : Option (Int32 × St) := bd (fX3_clear (σ)) (fun σ1 => some ((σ.1 4 1), σ1))
-- X6_bestScene bestScene R
def fX6_bestScene (σ : St) (x1 : Int32) : Option Int32 := if 0 ≤ x1 then if (σ.1 4 1) ≤ x1 then some (-5 : Int32) else bd (fX3_sceneAt (σ) x1) (fun r1 => some r1) else some (-3 : Int32)
-- X6_bestCost bestCost R
def fX6_bestCost (σ : St) : Option Int32 := bd (fX3_leastCost (σ)) (fun r1 => some r1)
-- X7_in in P
def fX7_in (x0 : Int32) (x1 : Int32) (x2 : Int32) : Int32 := if x0 < x1 then (0 : Int32) else if x2 < x0 then (0 : Int32) else (1 : Int32)
-- X7_lost lost P
def fX7_lost  : Int64 := (-9223372036854775808 : Int64)
-- X7_least least P
def fX7_least (x0 : Int64) (x2 : Int64) : Int64 := if x2 ≤ x0 then x2 else x0
-- X7_most most P
def fX7_most (x0 : Int64) (x2 : Int64) : Int64 := if x0 ≤ x2 then x2 else x0
-- X7_noFigure noFigure P
def fX7_noFigure (σ : St) (x1 : Int32) : Int32 := if (fX7_in x1 (0 : Int32) ((σ.1 0 1) - (1 : Int32))) = 0 then (1 : Int32) else (0 : Int32)
-- X7_noLimb noLimb R
def fX7_noLimb (σ : St) (x1 : Int32) (x2 : Int32) : Option Int32 := grd x1 6 (if (fX7_in x2 (0 : Int32) ((σ.1 4 (ix x1)) - (1 : Int32))) = 0 then some (1 : Int32) else some (0 : Int32))
-- X7_isBeat isBeat P
def fX7_isBeat (x0 : Int32) : Int32 := (fX7_in x0 (0 : Int32) (99 : Int32))
-- X7_setDistance setDistance S
def fX7_setDistance_b25 (σ : St) (x2 : Int32) : Option (Int32 × St) := some (x2, σ)
def fX7_setDistance (σ : St) (x1 : Int32) : Option (Int32 × St) := if (fX7_in x1 (10 : Int32) (200 : Int32)) = 0 then some ((-3 : Int32), σ) else fX7_setDistance_b25 (wI σ 0 0 x1) (σ.1 0 0)
-- X7_addFigure addFigure S
def fX7_addFigure_b99 (σ : St) : Option (Int32 × St) := some (((σ.1 0 1) - (1 : Int32)), σ)
def fX7_addFigure_b89 (σ : St) : Option (Int32 × St) := fX7_addFigure_b99 (wI σ 0 1 ((σ.1 0 1) + (1 : Int32)))
def fX7_addFigure_b79 (σ : St) : Option (Int32 × St) := grd (σ.1 0 1) 6 (fX7_addFigure_b89 (wI σ 4 (ix (σ.1 0 1)) (0 : Int32)))
def fX7_addFigure_b69 (σ : St) (x3 : Int32) : Option (Int32 × St) := grd (σ.1 0 1) 6 (fX7_addFigure_b79 (wI σ 3 (ix (σ.1 0 1)) x3))
def fX7_addFigure_b59 (σ : St) (x2 : Int32) (x3 : Int32) : Option (Int32 × St) := grd (σ.1 0 1) 6 (fX7_addFigure_b69 (wI σ 2 (ix (σ.1 0 1)) x2) x3)
def fX7_addFigure (σ : St) (x1 : Int32) (x2 : Int32) (x3 : Int32) : Option (Int32 × St) := if (fX7_in x1 (-100 : Int32) (100 : Int32)) = 0 then some ((-3 : Int32), σ) else if (fX7_in x2 (-100 : Int32) (100 : Int32)) = 0 then some ((-3 : Int32), σ) else if (fX7_in x3 (1 : Int32) (σ.1 0 0)) = 0 then some ((-3 : Int32), σ) else if (σ.1 0 1) = (6 : Int32) then some ((-4 : Int32), σ) else grd (σ.1 0 1) 6 (fX7_addFigure_b59 (wI σ 1 (ix (σ.1 0 1)) x1) x2 x3)
-- X7_addLimb addLimb S
def fX7_addLimb_b113 (σ : St) (x1 : Int32) : Option (Int32 × St) := grd x1 6 (some (((σ.1 4 (ix x1)) - (1 : Int32)), σ))
def fX7_addLimb_b103 (σ : St) (x1 : Int32) : Option (Int32 × St) := grd x1 6 (grd x1 6 (fX7_addLimb_b113 (wI σ 4 (ix x1) ((σ.1 4 (ix x1)) + (1 : Int32))) x1))
def fX7_addLimb_b94 (σ : St) (x1 : Int32) (x4 : Int32) (x5 : Int32) : Option (Int32 × St) := grd x5 48 (fX7_addLimb_b103 (wI σ 7 (ix x5) x4) x1)
def fX7_addLimb_b86 (σ : St) (x1 : Int32) (x3 : Int32) (x4 : Int32) (x5 : Int32) : Option (Int32 × St) := grd x5 48 (fX7_addLimb_b94 (wI σ 6 (ix x5) x3) x1 x4 x5)
def fX7_addLimb_b27 (σ : St) (x1 : Int32) (x2 : Int32) (x3 : Int32) (x4 : Int32) : Option (Int32 × St) := if (fX7_in x3 (1 : Int32) (20 : Int32)) = 0 then some ((-3 : Int32), σ) else if (fX7_in x4 (0 : Int32) (7 : Int32)) = 0 then some ((-3 : Int32), σ) else grd x1 6 (if (σ.1 4 (ix x1)) = (8 : Int32) then some ((-4 : Int32), σ) else grd x1 6 (grd (((8 : Int32) * x1) + (σ.1 4 (ix x1))) 48 (fX7_addLimb_b86 (wI σ 5 (ix (((8 : Int32) * x1) + (σ.1 4 (ix x1)))) x2) x1 x3 x4 (((8 : Int32) * x1) + (σ.1 4 (ix x1))))))
def fX7_addLimb (σ : St) (x1 : Int32) (x2 : Int32) (x3 : Int32) (x4 : Int32) : Option (Int32 × St) := if (fX7_noFigure (σ) x1) = 0 then if x2 = (-1 : Int32) then fX7_addLimb_b27 (σ) x1 x2 x3 x4 else bd (fX7_noLimb (σ) x1 x2) (fun r2 => if r2 = 0 then fX7_addLimb_b27 (σ) x1 x2 x3 x4 else some ((-2 : Int32), σ)) else some ((-1 : Int32), σ)
-- X7_count count R
def fX7_count_L4 (σ : St) : Nat → Int32 → Int32 → Int32 → Option Int32
  | 0 => fun _ _ _ => none
  | n + 1 => fun x1 x2 x3 => if (σ.1 0 1) ≤ x3 then if x1 = 0 then some (σ.1 0 1) else if x1 = (1 : Int32) then some (σ.1 0 9) else if x1 = (2 : Int32) then some (σ.1 0 23) else if x1 = (3 : Int32) then some x2 else some (-3 : Int32) else grd x3 6 (fX7_count_L4 σ n x1 (x2 + (σ.1 4 (ix x3))) (x3 + (1 : Int32)))
theorem fX7_count_L4_s (σ : St) (n : Nat) (x1 : Int32) (x2 : Int32) (x3 : Int32) : fX7_count_L4 σ (n + 1) x1 x2 x3 = if (σ.1 0 1) ≤ x3 then if x1 = 0 then some (σ.1 0 1) else if x1 = (1 : Int32) then some (σ.1 0 9) else if x1 = (2 : Int32) then some (σ.1 0 23) else if x1 = (3 : Int32) then some x2 else some (-3 : Int32) else grd x3 6 (fX7_count_L4 σ n x1 (x2 + (σ.1 4 (ix x3))) (x3 + (1 : Int32))) := rfl
def fX7_count (σ : St) (x1 : Int32) : Option Int32 := fX7_count_L4 σ FU x1 (0 : Int32) (0 : Int32)
-- X7_addMove addMove S
def fX7_addMove_b85 (σ : St) : Option (Int32 × St) := some (((σ.1 0 9) - (1 : Int32)), σ)
def fX7_addMove_b75 (σ : St) : Option (Int32 × St) := fX7_addMove_b85 (wI σ 0 9 ((σ.1 0 9) + (1 : Int32)))
def fX7_addMove_b64 (σ : St) (x6 : Int32) : Option (Int32 × St) := grd (σ.1 0 9) 60 (fX7_addMove_b75 (wI σ 13 (ix (σ.1 0 9)) x6))
def fX7_addMove_b53 (σ : St) (x5 : Int32) (x6 : Int32) : Option (Int32 × St) := grd (σ.1 0 9) 60 (fX7_addMove_b64 (wI σ 12 (ix (σ.1 0 9)) x5) x6)
def fX7_addMove_b42 (σ : St) (x4 : Int32) (x5 : Int32) (x6 : Int32) : Option (Int32 × St) := grd (σ.1 0 9) 60 (fX7_addMove_b53 (wI σ 11 (ix (σ.1 0 9)) x4) x5 x6)
def fX7_addMove_b32 (σ : St) (x3 : Int32) (x4 : Int32) (x5 : Int32) (x6 : Int32) : Option (Int32 × St) := grd (σ.1 0 9) 60 (fX7_addMove_b42 (wI σ 10 (ix (σ.1 0 9)) x3) x4 x5 x6)
def fX7_addMove_b22 (σ : St) (x2 : Int32) (x3 : Int32) (x4 : Int32) (x5 : Int32) (x6 : Int32) : Option (Int32 × St) := grd (σ.1 0 9) 60 (fX7_addMove_b32 (wI σ 9 (ix (σ.1 0 9)) x2) x3 x4 x5 x6)
def fX7_addMove (σ : St) (x1 : Int32) (x2 : Int32) (x3 : Int32) (x4 : Int32) (x5 : Int32) (x6 : Int32) : Option (Int32 × St) := if (σ.1 0 9) = (60 : Int32) then some ((-4 : Int32), σ) else grd (σ.1 0 9) 60 (fX7_addMove_b22 (wI σ 8 (ix (σ.1 0 9)) x1) x2 x3 x4 x5 x6)
-- X7_addTurn addTurn S
def fX7_addTurn (σ : St) (x1 : Int32) (x2 : Int32) (x3 : Int32) (x4 : Int32) : Option (Int32 × St) := if (fX7_noFigure (σ) x2) = 0 then bd (fX7_noLimb (σ) x2 x3) (fun r2 => if r2 = 0 then if (fX7_isBeat x1) = 0 then some ((-3 : Int32), σ) else if (fX7_in x4 (-7 : Int32) (7 : Int32)) = 0 then some ((-3 : Int32), σ) else if x4 = 0 then some ((-3 : Int32), σ) else bd2 (fX7_addMove (σ) x1 x2 x3 x4 (0 : Int32) (0 : Int32)) (fun r7 σ8 => some (r7, σ8)) else some ((-2 : Int32), σ)) else some ((-1 : Int32), σ)
-- X7_addShift addShift S
def fX7_addShift (σ : St) (x1 : Int32) (x2 : Int32) (x3 : Int32) (x4 : Int32) (x5 : Int32) : Option (Int32 × St) := if (fX7_noFigure (σ) x2) = 0 then if (fX7_isBeat x1) = 0 then some ((-3 : Int32), σ) else if (fX7_in x3 (-50 : Int32) (50 : Int32)) = 0 then some ((-3 : Int32), σ) else if (fX7_in x4 (-50 : Int32) (50 : Int32)) = 0 then some ((-3 : Int32), σ) else if (fX7_in x5 (-100 : Int32) (100 : Int32)) = 0 then some ((-3 : Int32), σ) else bd2 (fX7_addMove (σ) x1 x2 (-1 : Int32) x3 x4 x5) (fun r6 σ7 => some (r6, σ7)) else some ((-1 : Int32), σ)
-- X7_removeMoves removeMoves S
def fX7_removeMoves_b25 (σ : St) : Option (Int32 × St) := some ((σ.1 0 9), σ)
def fX7_removeMoves (σ : St) (x1 : Int32) : Option (Int32 × St) := if (fX7_in x1 (0 : Int32) (σ.1 0 9)) = 0 then some ((-3 : Int32), σ) else fX7_removeMoves_b25 (wI σ 0 9 ((σ.1 0 9) - x1))
-- X7_inStage inStage P
def fX7_inStage (σ : St) (x1 : Int32) : Int32 := if (1 : Int32) ≤ x1 then if x1 ≤ (σ.1 0 0) then x1 else (σ.1 0 0) else (1 : Int32)
-- X7_doMove doMove S
def fX7_doMove_b92 (σ : St) (x1 : Int32) (x2 : Int32) : Option St := grd x2 6 (grd x1 60 (grd x2 6 (some (wI σ 14 (ix x2) (fX7_inStage (σ) ((σ.1 14 (ix x2)) + (σ.1 13 (ix x1))))))))
def fX7_doMove_b73 (σ : St) (x1 : Int32) (x2 : Int32) : Option St := grd ((9 : Int32) * x2) 54 (grd x1 60 (grd ((9 : Int32) * x2) 54 (fX7_doMove_b92 (wL σ 17 (ix ((9 : Int32) * x2)) ((σ.2.1 17 (ix ((9 : Int32) * x2))) + ((σ.1 12 (ix x1))).toInt64)) x1 x2)))
def fX7_doMove (σ : St) (x1 : Int32) : Option St := grd x1 60 (grd x1 60 (if (σ.1 10 (ix x1)) < 0 then grd ((9 : Int32) * (σ.1 9 (ix x1))) 54 (grd x1 60 (grd ((9 : Int32) * (σ.1 9 (ix x1))) 54 (fX7_doMove_b73 (wL σ 16 (ix ((9 : Int32) * (σ.1 9 (ix x1)))) ((σ.2.1 16 (ix ((9 : Int32) * (σ.1 9 (ix x1))))) + ((σ.1 11 (ix x1))).toInt64)) x1 (σ.1 9 (ix x1))))) else grd x1 60 (grd (((8 : Int32) * (σ.1 9 (ix x1))) + (σ.1 10 (ix x1))) 48 (grd x1 60 (grd (((8 : Int32) * (σ.1 9 (ix x1))) + (σ.1 10 (ix x1))) 48 (some (wI σ 15 (ix (((8 : Int32) * (σ.1 9 (ix x1))) + (σ.1 10 (ix x1)))) ((((σ.1 15 (ix (((8 : Int32) * (σ.1 9 (ix x1))) + (σ.1 10 (ix x1))))) + (σ.1 11 (ix x1))) + (8 : Int32)) - (((σ.1 15 (ix (((8 : Int32) * (σ.1 9 (ix x1))) + (σ.1 10 (ix x1))))) + (σ.1 11 (ix x1))) + (8 : Int32)) / (8 : Int32) * (8 : Int32)))))))))
-- X7_stepX stepX P
def fX7_stepX (x0 : Int32) : Int32 := if x0 = (2 : Int32) then (0 : Int32) else if x0 = (6 : Int32) then (0 : Int32) else if x0 < (2 : Int32) then (1 : Int32) else if x0 = (7 : Int32) then (1 : Int32) else (-1 : Int32)
-- X7_stepY stepY P
def fX7_stepY (x0 : Int32) : Int32 := if (x0 - x0 / (4 : Int32) * (4 : Int32)) = 0 then (0 : Int32) else if (4 : Int32) ≤ x0 then (-1 : Int32) else (1 : Int32)
-- X7_layPoints layPoints S
def fX7_layPoints_b144 (k12 : St → Int32 → Int32 → Option St) (σ : St) (x1 : Int32) (x2 : Int32) : Option St := k12 (σ) x1 (x2 + (1 : Int32))
def fX7_layPoints_b111 (k12 : St → Int32 → Int32 → Option St) (σ : St) (x1 : Int32) (x2 : Int32) (x3 : Int32) (x4 : Int32) (x5 : Int32) : Option St := grd x4 54 (grd x3 48 (grd x5 54 (grd x5 54 (fX7_layPoints_b144 k12 (wL σ 17 (ix x5) ((σ.2.1 17 (ix x4)) + (((σ.1 6 (ix x3)) * (fX7_stepY (σ.1 18 (ix x5))))).toInt64)) x1 x2))))
def fX7_layPoints_b78 (k12 : St → Int32 → Int32 → Option St) (σ : St) (x1 : Int32) (x2 : Int32) (x3 : Int32) (x4 : Int32) (x5 : Int32) : Option St := grd x4 54 (grd x3 48 (grd x5 54 (grd x5 54 (fX7_layPoints_b111 k12 (wL σ 16 (ix x5) ((σ.2.1 16 (ix x4)) + (((σ.1 6 (ix x3)) * (fX7_stepX (σ.1 18 (ix x5))))).toInt64)) x1 x2 x3 x4 x5))))
def fX7_layPoints_L12  : Nat → St → Int32 → Int32 → Option St
  | 0 => fun _ _ _ => none
  | n + 1 => fun σ x1 x2 => grd x1 6 (if (σ.1 4 (ix x1)) ≤ x2 then some (σ) else grd (((8 : Int32) * x1) + x2) 48 (grd ((((9 : Int32) * x1) + (σ.1 5 (ix (((8 : Int32) * x1) + x2)))) + (1 : Int32)) 54 (grd (((8 : Int32) * x1) + x2) 48 (grd ((((9 : Int32) * x1) + x2) + (1 : Int32)) 54 (fX7_layPoints_b78 (fX7_layPoints_L12 n) (wI σ 18 (ix ((((9 : Int32) * x1) + x2) + (1 : Int32))) (((σ.1 18 (ix ((((9 : Int32) * x1) + (σ.1 5 (ix (((8 : Int32) * x1) + x2)))) + (1 : Int32)))) + (σ.1 15 (ix (((8 : Int32) * x1) + x2)))) - ((σ.1 18 (ix ((((9 : Int32) * x1) + (σ.1 5 (ix (((8 : Int32) * x1) + x2)))) + (1 : Int32)))) + (σ.1 15 (ix (((8 : Int32) * x1) + x2)))) / (8 : Int32) * (8 : Int32))) x1 x2 (((8 : Int32) * x1) + x2) ((((9 : Int32) * x1) + (σ.1 5 (ix (((8 : Int32) * x1) + x2)))) + (1 : Int32)) ((((9 : Int32) * x1) + x2) + (1 : Int32)))))))
theorem fX7_layPoints_L12_s  (n : Nat) (σ : St) (x1 : Int32) (x2 : Int32) : fX7_layPoints_L12 (n + 1) σ x1 x2 = grd x1 6 (if (σ.1 4 (ix x1)) ≤ x2 then some (σ) else grd (((8 : Int32) * x1) + x2) 48 (grd ((((9 : Int32) * x1) + (σ.1 5 (ix (((8 : Int32) * x1) + x2)))) + (1 : Int32)) 54 (grd (((8 : Int32) * x1) + x2) 48 (grd ((((9 : Int32) * x1) + x2) + (1 : Int32)) 54 (fX7_layPoints_b78 (fX7_layPoints_L12 n) (wI σ 18 (ix ((((9 : Int32) * x1) + x2) + (1 : Int32))) (((σ.1 18 (ix ((((9 : Int32) * x1) + (σ.1 5 (ix (((8 : Int32) * x1) + x2)))) + (1 : Int32)))) + (σ.1 15 (ix (((8 : Int32) * x1) + x2)))) - ((σ.1 18 (ix ((((9 : Int32) * x1) + (σ.1 5 (ix (((8 : Int32) * x1) + x2)))) + (1 : Int32)))) + (σ.1 15 (ix (((8 : Int32) * x1) + x2)))) / (8 : Int32) * (8 : Int32))) x1 x2 (((8 : Int32) * x1) + x2) ((((9 : Int32) * x1) + (σ.1 5 (ix (((8 : Int32) * x1) + x2)))) + (1 : Int32)) ((((9 : Int32) * x1) + x2) + (1 : Int32))))))) := rfl
def fX7_layPoints_b10 (σ : St) (x1 : Int32) : Option St := fX7_layPoints_L12 FU (σ) x1 (0 : Int32)
def fX7_layPoints (σ : St) (x1 : Int32) : Option St := grd ((9 : Int32) * x1) 54 (fX7_layPoints_b10 (wI σ 18 (ix ((9 : Int32) * x1)) (0 : Int32)) x1)
-- X7_goTo goTo S
def fX7_goTo_b58 (k2 : St → Int32 → Int32 → Option St) (σ : St) (x1 : Int32) (x2 : Int32) : Option St := k2 (σ) x1 (x2 + (1 : Int32))
def fX7_goTo_b42 (k2 : St → Int32 → Int32 → Option St) (σ : St) (x1 : Int32) (x2 : Int32) : Option St := grd x2 6 (grd x2 6 (fX7_goTo_b58 k2 (wI σ 14 (ix x2) (fX7_inStage (σ) (σ.1 3 (ix x2)))) x1 x2))
def fX7_goTo_b26 (k2 : St → Int32 → Int32 → Option St) (σ : St) (x1 : Int32) (x2 : Int32) : Option St := grd x2 6 (grd ((9 : Int32) * x2) 54 (fX7_goTo_b42 k2 (wL σ 17 (ix ((9 : Int32) * x2)) (((σ.1 2 (ix x2))).toInt64)) x1 x2))
def fX7_goTo_b84 (k66 : St → Int32 → Int32 → Option St) (σ : St) (x1 : Int32) (x2 : Int32) : Option St := k66 (σ) x1 (x2 + (1 : Int32))
def fX7_goTo_b122 (k92 : St → Int32 → Int32 → Option St) (k99 : St → Int32 → Int32 → Int32 → Option St) (σ : St) (x1 : Int32) (x2 : Int32) (x3 : Int32) : Option St := k99 (σ) x1 x2 (x3 + (1 : Int32))
def fX7_goTo_L99 (k92 : St → Int32 → Int32 → Option St) : Nat → St → Int32 → Int32 → Int32 → Option St
  | 0 => fun _ _ _ _ => none
  | n + 1 => fun σ x1 x2 x3 => if (σ.1 0 9) ≤ x3 then k92 (σ) x1 (x2 + (1 : Int32)) else grd x3 60 (if (σ.1 8 (ix x3)) = x2 then bd (fX7_doMove (σ) x3) (fun σ1 => fX7_goTo_b122 k92 (fX7_goTo_L99 k92 n) (σ1) x1 x2 x3) else fX7_goTo_b122 k92 (fX7_goTo_L99 k92 n) (σ) x1 x2 x3)
theorem fX7_goTo_L99_s (k92 : St → Int32 → Int32 → Option St) (n : Nat) (σ : St) (x1 : Int32) (x2 : Int32) (x3 : Int32) : fX7_goTo_L99 k92 (n + 1) σ x1 x2 x3 = if (σ.1 0 9) ≤ x3 then k92 (σ) x1 (x2 + (1 : Int32)) else grd x3 60 (if (σ.1 8 (ix x3)) = x2 then bd (fX7_doMove (σ) x3) (fun σ1 => fX7_goTo_b122 k92 (fX7_goTo_L99 k92 n) (σ1) x1 x2 x3) else fX7_goTo_b122 k92 (fX7_goTo_L99 k92 n) (σ) x1 x2 x3) := rfl
def fX7_goTo_L136  : Nat → St → Int32 → Option St
  | 0 => fun _ _ => none
  | n + 1 => fun σ x2 => if (σ.1 0 1) ≤ x2 then some (σ) else bd (fX7_layPoints (σ) x2) (fun σ1 => fX7_goTo_L136 n (σ1) (x2 + (1 : Int32)))
theorem fX7_goTo_L136_s  (n : Nat) (σ : St) (x2 : Int32) : fX7_goTo_L136 (n + 1) σ x2 = if (σ.1 0 1) ≤ x2 then some (σ) else bd (fX7_layPoints (σ) x2) (fun σ1 => fX7_goTo_L136 n (σ1) (x2 + (1 : Int32))) := rfl
def fX7_goTo_L92  : Nat → St → Int32 → Int32 → Option St
  | 0 => fun _ _ _ => none
  | n + 1 => fun σ x1 x2 => if x1 < x2 then fX7_goTo_L136 FU (σ) (0 : Int32) else fX7_goTo_L99 (fX7_goTo_L92 n) FU (σ) x1 x2 (0 : Int32)
theorem fX7_goTo_L92_s  (n : Nat) (σ : St) (x1 : Int32) (x2 : Int32) : fX7_goTo_L92 (n + 1) σ x1 x2 = if x1 < x2 then fX7_goTo_L136 FU (σ) (0 : Int32) else fX7_goTo_L99 (fX7_goTo_L92 n) FU (σ) x1 x2 (0 : Int32) := rfl
def fX7_goTo_L66  : Nat → St → Int32 → Int32 → Option St
  | 0 => fun _ _ _ => none
  | n + 1 => fun σ x1 x2 => if (48 : Int32) ≤ x2 then fX7_goTo_L92 FU (σ) x1 (0 : Int32) else grd x2 48 (grd x2 48 (fX7_goTo_b84 (fX7_goTo_L66 n) (wI σ 15 (ix x2) (σ.1 7 (ix x2))) x1 x2))
theorem fX7_goTo_L66_s  (n : Nat) (σ : St) (x1 : Int32) (x2 : Int32) : fX7_goTo_L66 (n + 1) σ x1 x2 = if (48 : Int32) ≤ x2 then fX7_goTo_L92 FU (σ) x1 (0 : Int32) else grd x2 48 (grd x2 48 (fX7_goTo_b84 (fX7_goTo_L66 n) (wI σ 15 (ix x2) (σ.1 7 (ix x2))) x1 x2)) := rfl
def fX7_goTo_L2  : Nat → St → Int32 → Int32 → Option St
  | 0 => fun _ _ _ => none
  | n + 1 => fun σ x1 x2 => if (σ.1 0 1) ≤ x2 then fX7_goTo_L66 FU (σ) x1 (0 : Int32) else grd x2 6 (grd ((9 : Int32) * x2) 54 (fX7_goTo_b26 (fX7_goTo_L2 n) (wL σ 16 (ix ((9 : Int32) * x2)) (((σ.1 1 (ix x2))).toInt64)) x1 x2))
theorem fX7_goTo_L2_s  (n : Nat) (σ : St) (x1 : Int32) (x2 : Int32) : fX7_goTo_L2 (n + 1) σ x1 x2 = if (σ.1 0 1) ≤ x2 then fX7_goTo_L66 FU (σ) x1 (0 : Int32) else grd x2 6 (grd ((9 : Int32) * x2) 54 (fX7_goTo_b26 (fX7_goTo_L2 n) (wL σ 16 (ix ((9 : Int32) * x2)) (((σ.1 1 (ix x2))).toInt64)) x1 x2)) := rfl
def fX7_goTo (σ : St) (x1 : Int32) : Option St := fX7_goTo_L2 FU (σ) x1 (0 : Int32)
-- X7_position position S
def fX7_position_b39 (σ : St) : Option (Int64 × St) := some (fX7_lost, σ)
def fX7_position (σ : St) (x1 : Int32) (x2 : Int32) (x3 : Int32) (x4 : Int32) : Option (Int64 × St) := if (fX7_noFigure (σ) x1) = 0 then grd x1 6 (if (fX7_in x2 (0 : Int32) (σ.1 4 (ix x1))) = 0 then fX7_position_b39 (σ) else if (fX7_isBeat x3) = 0 then fX7_position_b39 (σ) else if (fX7_in x4 (0 : Int32) (3 : Int32)) = 0 then fX7_position_b39 (σ) else bd (fX7_goTo (σ) x3) (fun σ5 => if x4 = 0 then grd (((9 : Int32) * x1) + x2) 54 (some ((σ5.2.1 16 (ix (((9 : Int32) * x1) + x2))), σ5)) else if x4 = (1 : Int32) then grd (((9 : Int32) * x1) + x2) 54 (some ((σ5.2.1 17 (ix (((9 : Int32) * x1) + x2))), σ5)) else if x4 = (2 : Int32) then grd (((9 : Int32) * x1) + x2) 54 (some ((((σ5.1 18 (ix (((9 : Int32) * x1) + x2)))).toInt64), σ5)) else grd x1 6 (some ((((σ5.1 14 (ix x1))).toInt64), σ5)))) else fX7_position_b39 (σ)
-- X7_common common R
def fX7_common_L17  : Nat → Int64 → Int64 → Option Int64
  | 0 => fun _ _ => none
  | n + 1 => fun x4 x6 => if x6 = (0 : Int64) then some x4 else dvL x6 (fX7_common_L17 n x6 (x4 - x4 / x6 * x6))
theorem fX7_common_L17_s  (n : Nat) (x4 : Int64) (x6 : Int64) : fX7_common_L17 (n + 1) x4 x6 = if x6 = (0 : Int64) then some x4 else dvL x6 (fX7_common_L17 n x6 (x4 - x4 / x6 * x6)) := rfl
def fX7_common_b12 (x2 : Int64) (xs0 : Int64) : Option Int64 := fX7_common_L17 FU xs0 x2
def fX7_common (x0 : Int64) (x2 : Int64) : Option Int64 := if (0 : Int64) ≤ x0 then fX7_common_b12 x2 x0 else fX7_common_b12 x2 (-x0)
-- X7_partOf partOf R
def fX7_partOf_b10 (x0 : Int64) (x2 : Int64) (xs0 : Int64) : Option Int64 := bd (fX7_common x0 x2) (fun r1 => dvL r1 (some (xs0 / r1)))
def fX7_partOf (x0 : Int64) (x2 : Int64) (x4 : Int32) : Option Int64 := if x4 = 0 then fX7_partOf_b10 x0 x2 x0 else fX7_partOf_b10 x0 x2 x2
-- X7_reach reach R
def fX7_reach_b79 (σ : St) (k33 : Int32 → Int32 → Int32 → Int64 → Int32 → Option Int64) (x1 : Int32) (x2 : Int32) (x3 : Int32) (x6 : Int32) (xs0 : Int64) (xs1 : Int64) (xs2 : Int64) : Option Int64 := k33 x1 x2 x3 (fX7_most xs0 (xs1 * xs2)) (x6 + (1 : Int32))
def fX7_reach_L33 (σ : St) : Nat → Int32 → Int32 → Int32 → Int64 → Int32 → Option Int64
  | 0 => fun _ _ _ _ _ => none
  | n + 1 => fun x1 x2 x3 x4 x6 => grd x1 6 (if (σ.1 4 (ix x1)) < x6 then some x4 else if x2 = 0 then grd (((9 : Int32) * x1) + x6) 54 (fX7_reach_b79 σ (fX7_reach_L33 σ n) x1 x2 x3 x6 x4 ((x3).toInt64) (σ.2.1 17 (ix (((9 : Int32) * x1) + x6)))) else grd (((9 : Int32) * x1) + x6) 54 (fX7_reach_b79 σ (fX7_reach_L33 σ n) x1 x2 x3 x6 x4 ((x3).toInt64) (σ.2.1 16 (ix (((9 : Int32) * x1) + x6)))))
theorem fX7_reach_L33_s (σ : St) (n : Nat) (x1 : Int32) (x2 : Int32) (x3 : Int32) (x4 : Int64) (x6 : Int32) : fX7_reach_L33 σ (n + 1) x1 x2 x3 x4 x6 = grd x1 6 (if (σ.1 4 (ix x1)) < x6 then some x4 else if x2 = 0 then grd (((9 : Int32) * x1) + x6) 54 (fX7_reach_b79 σ (fX7_reach_L33 σ n) x1 x2 x3 x6 x4 ((x3).toInt64) (σ.2.1 17 (ix (((9 : Int32) * x1) + x6)))) else grd (((9 : Int32) * x1) + x6) 54 (fX7_reach_b79 σ (fX7_reach_L33 σ n) x1 x2 x3 x6 x4 ((x3).toInt64) (σ.2.1 16 (ix (((9 : Int32) * x1) + x6))))) := rfl
def fX7_reach_b27 (σ : St) (x1 : Int32) (x2 : Int32) (x3 : Int32) (xs0 : Int64) (xs1 : Int64) : Option Int64 := fX7_reach_L33 σ FU x1 x2 x3 (xs0 * xs1) (1 : Int32)
def fX7_reach (σ : St) (x1 : Int32) (x2 : Int32) (x3 : Int32) : Option Int64 := if x2 = 0 then grd ((9 : Int32) * x1) 54 (fX7_reach_b27 σ x1 x2 x3 ((x3).toInt64) (σ.2.1 17 (ix ((9 : Int32) * x1)))) else grd ((9 : Int32) * x1) 54 (fX7_reach_b27 σ x1 x2 x3 ((x3).toInt64) (σ.2.1 16 (ix ((9 : Int32) * x1))))
-- X7_measure measure R
def fX7_measure (σ : St) (x1 : Int32) (x2 : Int32) : Option Int64 := if x2 = (0 : Int32) then bd (fX7_reach (σ) x1 (1 : Int32) (-1 : Int32)) (fun r15 => some (-r15)) else if x2 = (1 : Int32) then bd (fX7_reach (σ) x1 (1 : Int32) (1 : Int32)) (fun r13 => some r13) else if x2 = (2 : Int32) then bd (fX7_reach (σ) x1 (0 : Int32) (-1 : Int32)) (fun r11 => some (-r11)) else if x2 = (3 : Int32) then bd (fX7_reach (σ) x1 (0 : Int32) (1 : Int32)) (fun r9 => some r9) else if x2 = (4 : Int32) then bd (fX7_reach (σ) x1 (1 : Int32) (1 : Int32)) (fun r5 => bd (fX7_reach (σ) x1 (1 : Int32) (-1 : Int32)) (fun r7 => some (r5 + r7))) else bd (fX7_reach (σ) x1 (0 : Int32) (1 : Int32)) (fun r1 => bd (fX7_reach (σ) x1 (0 : Int32) (-1 : Int32)) (fun r3 => some (r1 + r3)))
-- X7_box box S
def fX7_box_b34 (σ : St) : Option (Int64 × St) := some (fX7_lost, σ)
def fX7_box (σ : St) (x1 : Int32) (x2 : Int32) (x3 : Int32) (x4 : Int32) : Option (Int64 × St) := if (fX7_noFigure (σ) x1) = 0 then if (fX7_isBeat x2) = 0 then fX7_box_b34 (σ) else if (fX7_in x3 (0 : Int32) (5 : Int32)) = 0 then fX7_box_b34 (σ) else if (fX7_in x4 (0 : Int32) (1 : Int32)) = 0 then fX7_box_b34 (σ) else bd (fX7_goTo (σ) x2) (fun σ5 => bd (fX7_measure (σ5) x1 x3) (fun r7 => grd x1 6 (bd (fX7_partOf (r7 * ((σ5.1 0 0)).toInt64) (((σ5.1 14 (ix x1))).toInt64) x4) (fun r9 => some (r9, σ5))))) else fX7_box_b34 (σ)
-- X7_along along R
def fX7_along (σ : St) (x1 : Int32) (x2 : Int32) (x3 : Int32) (x4 : Int32) : Option Int64 := bd (fX7_measure (σ) x1 x4) (fun r1 => grd x2 6 (bd (fX7_measure (σ) x2 x4) (fun r3 => grd x1 6 (bd (fX7_measure (σ) x1 x3) (fun r5 => grd x2 6 (bd (fX7_measure (σ) x2 x3) (fun r7 => grd x1 6 (some ((fX7_least (r1 * ((σ.1 14 (ix x2))).toInt64) (r3 * ((σ.1 14 (ix x1))).toInt64)) - (fX7_most (r5 * ((σ.1 14 (ix x2))).toInt64) (r7 * ((σ.1 14 (ix x1))).toInt64)))))))))))
-- X7_overlap overlap S
def fX7_overlap_b33 (σ : St) : Option (Int64 × St) := some (fX7_lost, σ)
def fX7_overlap_b113 (σ : St) (x4 : Int32) (x9 : Int64) (xs0 : Int64) : Option (Int64 × St) := bd (fX7_partOf xs0 (x9 * x9) x4) (fun r1 => some (r1, σ))
def fX7_overlap_b92 (σ : St) (x4 : Int32) (x9 : Int64) : Option (Int64 × St) := fX7_overlap_b113 (σ) x4 x9 (0 : Int64)
def fX7_overlap (σ : St) (x1 : Int32) (x2 : Int32) (x3 : Int32) (x4 : Int32) : Option (Int64 × St) := if (fX7_noFigure (σ) x1) = 0 then if (fX7_noFigure (σ) x2) = 0 then if (fX7_isBeat x3) = 0 then fX7_overlap_b33 (σ) else if (fX7_in x4 (0 : Int32) (1 : Int32)) = 0 then fX7_overlap_b33 (σ) else bd (fX7_goTo (σ) x3) (fun σ5 => bd (fX7_along (σ5) x1 x2 (0 : Int32) (1 : Int32)) (fun r7 => bd (fX7_along (σ5) x1 x2 (2 : Int32) (3 : Int32)) (fun r9 => grd x1 6 (grd x2 6 (if r7 < (0 : Int64) then fX7_overlap_b92 (σ5) x4 ((((σ5.1 14 (ix x1)) * (σ5.1 14 (ix x2)))).toInt64) else if (0 : Int64) ≤ r9 then fX7_overlap_b113 (σ5) x4 ((((σ5.1 14 (ix x1)) * (σ5.1 14 (ix x2)))).toInt64) (((r7 * r9) * ((σ5.1 0 0)).toInt64) * ((σ5.1 0 0)).toInt64) else fX7_overlap_b92 (σ5) x4 ((((σ5.1 14 (ix x1)) * (σ5.1 14 (ix x2)))).toInt64)))))) else fX7_overlap_b33 (σ) else fX7_overlap_b33 (σ)
-- X7_side side P
def fX7_side (x0 : Int64) (x2 : Int64) (x4 : Int64) (x6 : Int64) (x8 : Int64) (x10 : Int64) : Int32 := if (((x4 - x0) * (x10 - x2)) - ((x6 - x2) * (x8 - x0))) ≤ (0 : Int64) then if (0 : Int64) ≤ (((x4 - x0) * (x10 - x2)) - ((x6 - x2) * (x8 - x0))) then (0 : Int32) else (-1 : Int32) else (1 : Int32)
-- X7_isBetween isBetween P
def fX7_isBetween (x0 : Int64) (x2 : Int64) (x4 : Int64) : Int32 := if x4 < (fX7_least x0 x2) then (0 : Int32) else if (fX7_most x0 x2) < x4 then (0 : Int32) else (1 : Int32)
-- X7_isOn isOn P
def fX7_isOn (x0 : Int64) (x2 : Int64) (x4 : Int64) (x6 : Int64) (x8 : Int64) (x10 : Int64) : Int32 := if (fX7_side x0 x2 x4 x6 x8 x10) = 0 then if (fX7_isBetween x0 x4 x8) = 0 then (0 : Int32) else if (fX7_isBetween x2 x6 x10) = 0 then (0 : Int32) else (1 : Int32) else (0 : Int32)
-- X7_layEnds layEnds S
def fX7_layEnds_b80 (σ : St) (x1 : Int32) (x4 : Int64) (x7 : Int32) : Option St := grd x7 54 (grd (x1 + (1 : Int32)) 4 (some (wL σ 20 (ix (x1 + (1 : Int32))) ((σ.2.1 17 (ix x7)) * x4))))
def fX7_layEnds_b62 (σ : St) (x1 : Int32) (x4 : Int64) (x7 : Int32) : Option St := grd x7 54 (grd (x1 + (1 : Int32)) 4 (fX7_layEnds_b80 (wL σ 19 (ix (x1 + (1 : Int32))) ((σ.2.1 16 (ix x7)) * x4)) x1 x4 x7))
def fX7_layEnds_b46 (σ : St) (x1 : Int32) (x4 : Int64) (x6 : Int32) (x7 : Int32) : Option St := grd x6 54 (grd x1 4 (fX7_layEnds_b62 (wL σ 20 (ix x1) ((σ.2.1 17 (ix x6)) * x4)) x1 x4 x7))
def fX7_layEnds (σ : St) (x1 : Int32) (x2 : Int32) (x3 : Int32) (x4 : Int64) : Option St := grd (((8 : Int32) * x2) + x3) 48 (grd ((((9 : Int32) * x2) + (σ.1 5 (ix (((8 : Int32) * x2) + x3)))) + (1 : Int32)) 54 (grd x1 4 (fX7_layEnds_b46 (wL σ 19 (ix x1) ((σ.2.1 16 (ix ((((9 : Int32) * x2) + (σ.1 5 (ix (((8 : Int32) * x2) + x3)))) + (1 : Int32)))) * x4)) x1 x4 ((((9 : Int32) * x2) + (σ.1 5 (ix (((8 : Int32) * x2) + x3)))) + (1 : Int32)) ((((9 : Int32) * x2) + x3) + (1 : Int32)))))
-- X7_sideOf sideOf R
def fX7_sideOf (σ : St) (x1 : Int32) (x2 : Int32) : Option Int32 := grd x1 4 (grd x1 4 (grd (x1 + (1 : Int32)) 4 (grd (x1 + (1 : Int32)) 4 (grd x2 4 (grd x2 4 (some (fX7_side (σ.2.1 19 (ix x1)) (σ.2.1 20 (ix x1)) (σ.2.1 19 (ix (x1 + (1 : Int32)))) (σ.2.1 20 (ix (x1 + (1 : Int32)))) (σ.2.1 19 (ix x2)) (σ.2.1 20 (ix x2)))))))))
-- X7_isOnSegment isOnSegment R
def fX7_isOnSegment (σ : St) (x1 : Int32) (x2 : Int32) : Option Int32 := grd x1 4 (grd x1 4 (grd (x1 + (1 : Int32)) 4 (grd (x1 + (1 : Int32)) 4 (grd x2 4 (grd x2 4 (some (fX7_isOn (σ.2.1 19 (ix x1)) (σ.2.1 20 (ix x1)) (σ.2.1 19 (ix (x1 + (1 : Int32)))) (σ.2.1 20 (ix (x1 + (1 : Int32)))) (σ.2.1 19 (ix x2)) (σ.2.1 20 (ix x2)))))))))
-- X7_doMeet doMeet R
def fX7_doMeet_b41 (σ : St) (xs0 : Int32) : Option Int32 := if xs0 = 0 then bd (fX7_sideOf (σ) (0 : Int32) (2 : Int32)) (fun r1 => bd (fX7_sideOf (σ) (0 : Int32) (3 : Int32)) (fun r3 => if 0 ≤ (r1 * r3) then some (0 : Int32) else bd (fX7_sideOf (σ) (2 : Int32) (0 : Int32)) (fun r5 => bd (fX7_sideOf (σ) (2 : Int32) (1 : Int32)) (fun r7 => if 0 ≤ (r5 * r7) then some (0 : Int32) else some (1 : Int32))))) else some (1 : Int32)
def fX7_doMeet_b36 (σ : St) : Option Int32 := fX7_doMeet_b41 σ (1 : Int32)
def fX7_doMeet (σ : St) : Option Int32 := bd (fX7_isOnSegment (σ) (0 : Int32) (2 : Int32)) (fun r1 => if r1 = 0 then bd (fX7_isOnSegment (σ) (0 : Int32) (3 : Int32)) (fun r4 => if r4 = 0 then bd (fX7_isOnSegment (σ) (2 : Int32) (0 : Int32)) (fun r7 => if r7 = 0 then bd (fX7_isOnSegment (σ) (2 : Int32) (1 : Int32)) (fun r10 => if r10 = 0 then fX7_doMeet_b41 σ (0 : Int32) else fX7_doMeet_b36 σ) else fX7_doMeet_b36 σ) else fX7_doMeet_b36 σ) else fX7_doMeet_b36 σ)
-- X7_crossingsNow crossingsNow S
def fX7_crossingsNow_b73 (k5 : St → Int32 → Int32 → Int32 → Int32 → Option (Int32 × St)) (k19 : St → Int32 → Int32 → Int32 → Int32 → Int32 → Option (Int32 × St)) (σ : St) (x1 : Int32) (x2 : Int32) (x4 : Int32) (x5 : Int32) (xs0 : Int32) (xs1 : Int32) : Option (Int32 × St) := k19 (σ) x1 x2 (xs0 + xs1) x4 (x5 + (1 : Int32))
def fX7_crossingsNow_L19 (k5 : St → Int32 → Int32 → Int32 → Int32 → Option (Int32 × St)) : Nat → St → Int32 → Int32 → Int32 → Int32 → Int32 → Option (Int32 × St)
  | 0 => fun _ _ _ _ _ _ => none
  | n + 1 => fun σ x1 x2 x3 x4 x5 => grd x2 6 (if (σ.1 4 (ix x2)) ≤ x5 then k5 (σ) x1 x2 x3 (x4 + (1 : Int32)) else grd x2 6 (bd (fX7_layEnds (σ) (0 : Int32) x1 x4 (((σ.1 14 (ix x2))).toInt64)) (fun σ1 => grd x1 6 (bd (fX7_layEnds (σ1) (2 : Int32) x2 x5 (((σ1.1 14 (ix x1))).toInt64)) (fun σ3 => bd (fX7_doMeet (σ3)) (fun r5 => if r5 = 0 then fX7_crossingsNow_b73 k5 (fX7_crossingsNow_L19 k5 n) (σ3) x1 x2 x4 x5 x3 (0 : Int32) else fX7_crossingsNow_b73 k5 (fX7_crossingsNow_L19 k5 n) (σ3) x1 x2 x4 x5 x3 (1 : Int32)))))))
theorem fX7_crossingsNow_L19_s (k5 : St → Int32 → Int32 → Int32 → Int32 → Option (Int32 × St)) (n : Nat) (σ : St) (x1 : Int32) (x2 : Int32) (x3 : Int32) (x4 : Int32) (x5 : Int32) : fX7_crossingsNow_L19 k5 (n + 1) σ x1 x2 x3 x4 x5 = grd x2 6 (if (σ.1 4 (ix x2)) ≤ x5 then k5 (σ) x1 x2 x3 (x4 + (1 : Int32)) else grd x2 6 (bd (fX7_layEnds (σ) (0 : Int32) x1 x4 (((σ.1 14 (ix x2))).toInt64)) (fun σ1 => grd x1 6 (bd (fX7_layEnds (σ1) (2 : Int32) x2 x5 (((σ1.1 14 (ix x1))).toInt64)) (fun σ3 => bd (fX7_doMeet (σ3)) (fun r5 => if r5 = 0 then fX7_crossingsNow_b73 k5 (fX7_crossingsNow_L19 k5 n) (σ3) x1 x2 x4 x5 x3 (0 : Int32) else fX7_crossingsNow_b73 k5 (fX7_crossingsNow_L19 k5 n) (σ3) x1 x2 x4 x5 x3 (1 : Int32))))))) := rfl
def fX7_crossingsNow_L5  : Nat → St → Int32 → Int32 → Int32 → Int32 → Option (Int32 × St)
  | 0 => fun _ _ _ _ _ => none
  | n + 1 => fun σ x1 x2 x3 x4 => grd x1 6 (if (σ.1 4 (ix x1)) ≤ x4 then some (x3, σ) else fX7_crossingsNow_L19 (fX7_crossingsNow_L5 n) FU (σ) x1 x2 x3 x4 (0 : Int32))
theorem fX7_crossingsNow_L5_s  (n : Nat) (σ : St) (x1 : Int32) (x2 : Int32) (x3 : Int32) (x4 : Int32) : fX7_crossingsNow_L5 (n + 1) σ x1 x2 x3 x4 = grd x1 6 (if (σ.1 4 (ix x1)) ≤ x4 then some (x3, σ) else fX7_crossingsNow_L19 (fX7_crossingsNow_L5 n) FU (σ) x1 x2 x3 x4 (0 : Int32)) := rfl
def fX7_crossingsNow (σ : St) (x1 : Int32) (x2 : Int32) : Option (Int32 × St) := fX7_crossingsNow_L5 FU (σ) x1 x2 (0 : Int32) (0 : Int32)
-- X7_twoBarred twoBarred P
def fX7_twoBarred (σ : St) (x1 : Int32) (x2 : Int32) (x3 : Int32) : Int32 := if (fX7_noFigure (σ) x1) = 0 then if (fX7_noFigure (σ) x2) = 0 then if (fX7_isBeat x3) = 0 then (-3 : Int32) else if x1 = x2 then (-3 : Int32) else (0 : Int32) else (-1 : Int32) else (-1 : Int32)
-- X7_crossings crossings S
def fX7_crossings (σ : St) (x1 : Int32) (x2 : Int32) (x3 : Int32) : Option (Int32 × St) := if 0 ≤ (fX7_twoBarred (σ) x1 x2 x3) then bd (fX7_goTo (σ) x3) (fun σ1 => bd2 (fX7_crossingsNow (σ1) x1 x2) (fun r3 σ4 => some (r3, σ4))) else some ((fX7_twoBarred (σ) x1 x2 x3), σ)
-- X7_nextCrossing nextCrossing S
def fX7_nextCrossing_L20  : Nat → St → Int32 → Int32 → Int32 → Option (Int32 × St)
  | 0 => fun _ _ _ _ => none
  | n + 1 => fun σ x1 x2 x5 => if (100 : Int32) ≤ x5 then some ((-5 : Int32), σ) else bd (fX7_goTo (σ) x5) (fun σ1 => bd2 (fX7_crossingsNow (σ1) x1 x2) (fun r3 σ4 => if r3 ≤ 0 then fX7_nextCrossing_L20 n (σ4) x1 x2 (x5 + (1 : Int32)) else some (x5, σ4)))
theorem fX7_nextCrossing_L20_s  (n : Nat) (σ : St) (x1 : Int32) (x2 : Int32) (x5 : Int32) : fX7_nextCrossing_L20 (n + 1) σ x1 x2 x5 = if (100 : Int32) ≤ x5 then some ((-5 : Int32), σ) else bd (fX7_goTo (σ) x5) (fun σ1 => bd2 (fX7_crossingsNow (σ1) x1 x2) (fun r3 σ4 => if r3 ≤ 0 then fX7_nextCrossing_L20 n (σ4) x1 x2 (x5 + (1 : Int32)) else some (x5, σ4))) := rfl
def fX7_nextCrossing (σ : St) (x1 : Int32) (x2 : Int32) (x3 : Int32) : Option (Int32 × St) := if 0 ≤ (fX7_twoBarred (σ) x1 x2 x3) then fX7_nextCrossing_L20 FU (σ) x1 x2 x3 else some ((fX7_twoBarred (σ) x1 x2 x3), σ)
-- X7_isWithin isWithin R
def fX7_isWithin (σ : St) (x1 : Int32) (x2 : Int64) (x4 : Int64) : Option Int32 := bd (fX7_measure (σ) x1 (1 : Int32)) (fun r1 => bd (fX7_measure (σ) x1 (0 : Int32)) (fun r3 => bd (fX7_measure (σ) x1 (3 : Int32)) (fun r5 => bd (fX7_measure (σ) x1 (2 : Int32)) (fun r7 => grd x1 6 (if (x2 * ((σ.1 14 (ix x1))).toInt64) < ((fX7_most r1 (-r3)) * ((σ.1 0 0)).toInt64) then some (0 : Int32) else grd x1 6 (if (x4 * ((σ.1 14 (ix x1))).toInt64) < ((fX7_most r5 (-r7)) * ((σ.1 0 0)).toInt64) then some (0 : Int32) else some (1 : Int32)))))))
-- X7_within within S
def fX7_within_b75 (k43 : St → Int32 → Int32 → Int32 → Int32 → Option (Int32 × St)) (σ : St) (x1 : Int32) (x2 : Int32) (x5 : Int32) (xs0 : Int32) (xs1 : Int32) : Option (Int32 × St) := k43 (σ) x1 x2 (xs0 ||| xs1) (x5 + (1 : Int32))
def fX7_within_L43  : Nat → St → Int32 → Int32 → Int32 → Int32 → Option (Int32 × St)
  | 0 => fun _ _ _ _ _ => none
  | n + 1 => fun σ x1 x2 x4 x5 => if (σ.1 0 1) ≤ x5 then some (x4, σ) else bd (fX7_isWithin (σ) x5 ((x1).toInt64) ((x2).toInt64)) (fun r1 => if r1 = 0 then fX7_within_b75 (fX7_within_L43 n) (σ) x1 x2 x5 x4 (0 : Int32) else fX7_within_b75 (fX7_within_L43 n) (σ) x1 x2 x5 x4 ((1 : Int32) <<< (x5 &&& 31)))
theorem fX7_within_L43_s  (n : Nat) (σ : St) (x1 : Int32) (x2 : Int32) (x4 : Int32) (x5 : Int32) : fX7_within_L43 (n + 1) σ x1 x2 x4 x5 = if (σ.1 0 1) ≤ x5 then some (x4, σ) else bd (fX7_isWithin (σ) x5 ((x1).toInt64) ((x2).toInt64)) (fun r1 => if r1 = 0 then fX7_within_b75 (fX7_within_L43 n) (σ) x1 x2 x5 x4 (0 : Int32) else fX7_within_b75 (fX7_within_L43 n) (σ) x1 x2 x5 x4 ((1 : Int32) <<< (x5 &&& 31))) := rfl
def fX7_within (σ : St) (x1 : Int32) (x2 : Int32) (x3 : Int32) : Option (Int32 × St) := if (fX7_in x1 (0 : Int32) (20000 : Int32)) = 0 then some ((-3 : Int32), σ) else if (fX7_in x2 (0 : Int32) (20000 : Int32)) = 0 then some ((-3 : Int32), σ) else if (fX7_isBeat x3) = 0 then some ((-3 : Int32), σ) else bd (fX7_goTo (σ) x3) (fun σ4 => fX7_within_L43 FU (σ4) x1 x2 (0 : Int32) (0 : Int32))
-- X7_highest highest S
def fX7_highest_b81 (k20 : St → Int32 → Int32 → Option (Int32 × St)) (σ : St) (x3 : Int32) (xs0 : Int32) : Option (Int32 × St) := k20 (σ) xs0 (x3 + (1 : Int32))
def fX7_highest_b69 (k20 : St → Int32 → Int32 → Option (Int32 × St)) (σ : St) (x2 : Int32) (x3 : Int32) (xs0 : Int32) : Option (Int32 × St) := if xs0 = 0 then fX7_highest_b81 k20 (σ) x3 x2 else fX7_highest_b81 k20 (σ) x3 x3
def fX7_highest_b64 (k20 : St → Int32 → Int32 → Option (Int32 × St)) (σ : St) (x2 : Int32) (x3 : Int32) : Option (Int32 × St) := fX7_highest_b69 k20 (σ) x2 x3 (1 : Int32)
def fX7_highest_L20  : Nat → St → Int32 → Int32 → Option (Int32 × St)
  | 0 => fun _ _ _ => none
  | n + 1 => fun σ x2 x3 => if (σ.1 0 1) ≤ x3 then some (x2, σ) else if x2 < 0 then fX7_highest_b64 (fX7_highest_L20 n) (σ) x2 x3 else bd (fX7_measure (σ) x3 (5 : Int32)) (fun r1 => grd x2 6 (bd (fX7_measure (σ) x2 (5 : Int32)) (fun r3 => grd x3 6 (if (r1 * ((σ.1 14 (ix x2))).toInt64) ≤ (r3 * ((σ.1 14 (ix x3))).toInt64) then fX7_highest_b69 (fX7_highest_L20 n) (σ) x2 x3 (0 : Int32) else fX7_highest_b64 (fX7_highest_L20 n) (σ) x2 x3))))
theorem fX7_highest_L20_s  (n : Nat) (σ : St) (x2 : Int32) (x3 : Int32) : fX7_highest_L20 (n + 1) σ x2 x3 = if (σ.1 0 1) ≤ x3 then some (x2, σ) else if x2 < 0 then fX7_highest_b64 (fX7_highest_L20 n) (σ) x2 x3 else bd (fX7_measure (σ) x3 (5 : Int32)) (fun r1 => grd x2 6 (bd (fX7_measure (σ) x2 (5 : Int32)) (fun r3 => grd x3 6 (if (r1 * ((σ.1 14 (ix x2))).toInt64) ≤ (r3 * ((σ.1 14 (ix x3))).toInt64) then fX7_highest_b69 (fX7_highest_L20 n) (σ) x2 x3 (0 : Int32) else fX7_highest_b64 (fX7_highest_L20 n) (σ) x2 x3)))) := rfl
def fX7_highest (σ : St) (x1 : Int32) : Option (Int32 × St) := if (fX7_isBeat x1) = 0 then some ((-3 : Int32), σ) else bd (fX7_goTo (σ) x1) (fun σ2 => fX7_highest_L20 FU (σ2) (-5 : Int32) (0 : Int32))
-- X7_planeFor planeFor S
def fX7_planeFor_L55  : Nat → St → Int32 → Int64 → Int32 → Option (Int32 × St)
  | 0 => fun _ _ _ _ => none
  | n + 1 => fun σ x3 x4 x6 => if x6 ≤ 0 then some ((-5 : Int32), σ) else if x4 < ((x3).toInt64 * (x6).toInt64) then fX7_planeFor_L55 n (σ) x3 x4 (x6 + (-1 : Int32)) else some (x6, σ)
theorem fX7_planeFor_L55_s  (n : Nat) (σ : St) (x3 : Int32) (x4 : Int64) (x6 : Int32) : fX7_planeFor_L55 (n + 1) σ x3 x4 x6 = if x6 ≤ 0 then some ((-5 : Int32), σ) else if x4 < ((x3).toInt64 * (x6).toInt64) then fX7_planeFor_L55 n (σ) x3 x4 (x6 + (-1 : Int32)) else some (x6, σ) := rfl
def fX7_planeFor (σ : St) (x1 : Int32) (x2 : Int32) (x3 : Int32) : Option (Int32 × St) := if (fX7_noFigure (σ) x1) = 0 then if (fX7_isBeat x2) = 0 then some ((-3 : Int32), σ) else if (fX7_in x3 (0 : Int32) (100000 : Int32)) = 0 then some ((-3 : Int32), σ) else bd (fX7_goTo (σ) x2) (fun σ4 => bd (fX7_measure (σ4) x1 (5 : Int32)) (fun r6 => fX7_planeFor_L55 FU (σ4) x3 (r6 * ((σ4.1 0 0)).toInt64) (σ4.1 0 0))) else some ((-1 : Int32), σ)
-- X7_activeOf activeOf R
def fX7_activeOf_b78 (σ : St) (k5 : Int32 → Int32 → Int32 → Int32 → Option Int32) (x1 : Int32) (x2 : Int32) (x4 : Int32) (xs0 : Int32) (xs1 : Int32) : Option Int32 := k5 x1 x2 (xs0 ||| xs1) (x4 + (1 : Int32))
def fX7_activeOf_b41 (σ : St) (k5 : Int32 → Int32 → Int32 → Int32 → Option Int32) (x1 : Int32) (x2 : Int32) (x3 : Int32) (x4 : Int32) (xs0 : Int32) : Option Int32 := if xs0 = 0 then fX7_activeOf_b78 σ k5 x1 x2 x4 x3 (0 : Int32) else grd x4 60 (if 0 ≤ (σ.1 10 (ix x4)) then grd x4 60 (fX7_activeOf_b78 σ k5 x1 x2 x4 x3 ((1 : Int32) <<< ((σ.1 10 (ix x4)) &&& 31))) else fX7_activeOf_b78 σ k5 x1 x2 x4 x3 (256 : Int32))
def fX7_activeOf_b40 (σ : St) (k5 : Int32 → Int32 → Int32 → Int32 → Option Int32) (x1 : Int32) (x2 : Int32) (x3 : Int32) (x4 : Int32) : Option Int32 := fX7_activeOf_b41 σ k5 x1 x2 x3 x4 (0 : Int32)
def fX7_activeOf_L5 (σ : St) : Nat → Int32 → Int32 → Int32 → Int32 → Option Int32
  | 0 => fun _ _ _ _ => none
  | n + 1 => fun x1 x2 x3 x4 => if (σ.1 0 9) ≤ x4 then some x3 else grd x4 60 (if (σ.1 8 (ix x4)) = x2 then grd x4 60 (if (σ.1 9 (ix x4)) = x1 then fX7_activeOf_b41 σ (fX7_activeOf_L5 σ n) x1 x2 x3 x4 (1 : Int32) else fX7_activeOf_b40 σ (fX7_activeOf_L5 σ n) x1 x2 x3 x4) else fX7_activeOf_b40 σ (fX7_activeOf_L5 σ n) x1 x2 x3 x4)
theorem fX7_activeOf_L5_s (σ : St) (n : Nat) (x1 : Int32) (x2 : Int32) (x3 : Int32) (x4 : Int32) : fX7_activeOf_L5 σ (n + 1) x1 x2 x3 x4 = if (σ.1 0 9) ≤ x4 then some x3 else grd x4 60 (if (σ.1 8 (ix x4)) = x2 then grd x4 60 (if (σ.1 9 (ix x4)) = x1 then fX7_activeOf_b41 σ (fX7_activeOf_L5 σ n) x1 x2 x3 x4 (1 : Int32) else fX7_activeOf_b40 σ (fX7_activeOf_L5 σ n) x1 x2 x3 x4) else fX7_activeOf_b40 σ (fX7_activeOf_L5 σ n) x1 x2 x3 x4) := rfl
def fX7_activeOf (σ : St) (x1 : Int32) (x2 : Int32) : Option Int32 := fX7_activeOf_L5 σ FU x1 x2 (0 : Int32) (0 : Int32)
-- X7_bits bits R
def fX7_bits_L4  : Nat → Int32 → Int32 → Option Int32
  | 0 => fun _ _ => none
  | n + 1 => fun x1 x2 => if x2 ≤ 0 then some x1 else fX7_bits_L4 n (x1 + (x2 &&& (1 : Int32))) (x2 >>> ((1 : Int32) &&& 31))
theorem fX7_bits_L4_s  (n : Nat) (x1 : Int32) (x2 : Int32) : fX7_bits_L4 (n + 1) x1 x2 = if x2 ≤ 0 then some x1 else fX7_bits_L4 n (x1 + (x2 &&& (1 : Int32))) (x2 >>> ((1 : Int32) &&& 31)) := rfl
def fX7_bits (x0 : Int32) : Option Int32 := fX7_bits_L4 FU (0 : Int32) x0
-- X7_handsOf handsOf R
def fX7_handsOf_b108 (σ : St) (k23 : Int32 → Int32 → Int32 → Int32 → Int32 → Option Int32) (x1 : Int32) (x3 : Int32) (x4 : Int32) (x6 : Int32) (xs0 : Int32) (xs1 : Int32) : Option Int32 := k23 x1 x3 x4 (xs0 + xs1) (x6 + (-1 : Int32))
def fX7_handsOf_b93 (σ : St) (k23 : Int32 → Int32 → Int32 → Int32 → Int32 → Option Int32) (x1 : Int32) (x3 : Int32) (x5 : Int32) (x6 : Int32) (x8 : Int32) (xs0 : Int32) (xs1 : Int32) : Option Int32 := if x8 = 0 then fX7_handsOf_b108 σ k23 x1 x3 (xs0 &&& xs1) x6 x5 (0 : Int32) else fX7_handsOf_b108 σ k23 x1 x3 (xs0 &&& xs1) x6 x5 (1 : Int32)
def fX7_handsOf_b74 (σ : St) (k23 : Int32 → Int32 → Int32 → Int32 → Int32 → Option Int32) (x1 : Int32) (x3 : Int32) (x4 : Int32) (x5 : Int32) (x6 : Int32) (x7 : Int32) (xs0 : Int32) : Option Int32 := if xs0 = 0 then fX7_handsOf_b93 σ k23 x1 x3 x5 x6 xs0 x4 (-1 : Int32) else fX7_handsOf_b93 σ k23 x1 x3 x5 x6 xs0 x4 (((1 : Int32) <<< (x7 &&& 31)) ^^^ (-1 : Int32))
def fX7_handsOf_b73 (σ : St) (k23 : Int32 → Int32 → Int32 → Int32 → Int32 → Option Int32) (x1 : Int32) (x3 : Int32) (x4 : Int32) (x5 : Int32) (x6 : Int32) (x7 : Int32) : Option Int32 := fX7_handsOf_b74 σ k23 x1 x3 x4 x5 x6 x7 (0 : Int32)
def fX7_handsOf_L23 (σ : St) : Nat → Int32 → Int32 → Int32 → Int32 → Int32 → Option Int32
  | 0 => fun _ _ _ _ _ => none
  | n + 1 => fun x1 x3 x4 x5 x6 => if x6 < 0 then bd (fX7_bits x3) (fun r1 => some (r1 - x5)) else grd (((8 : Int32) * x1) + x6) 48 (if ((x4 >>> (x6 &&& 31)) &&& (1 : Int32)) = (1 : Int32) then if (σ.1 5 (ix (((8 : Int32) * x1) + x6))) < 0 then fX7_handsOf_b73 σ (fX7_handsOf_L23 σ n) x1 x3 x4 x5 x6 (σ.1 5 (ix (((8 : Int32) * x1) + x6))) else if ((x4 >>> ((σ.1 5 (ix (((8 : Int32) * x1) + x6))) &&& 31)) &&& (1 : Int32)) = (1 : Int32) then fX7_handsOf_b74 σ (fX7_handsOf_L23 σ n) x1 x3 x4 x5 x6 (σ.1 5 (ix (((8 : Int32) * x1) + x6))) (1 : Int32) else fX7_handsOf_b73 σ (fX7_handsOf_L23 σ n) x1 x3 x4 x5 x6 (σ.1 5 (ix (((8 : Int32) * x1) + x6))) else fX7_handsOf_b73 σ (fX7_handsOf_L23 σ n) x1 x3 x4 x5 x6 (σ.1 5 (ix (((8 : Int32) * x1) + x6))))
theorem fX7_handsOf_L23_s (σ : St) (n : Nat) (x1 : Int32) (x3 : Int32) (x4 : Int32) (x5 : Int32) (x6 : Int32) : fX7_handsOf_L23 σ (n + 1) x1 x3 x4 x5 x6 = if x6 < 0 then bd (fX7_bits x3) (fun r1 => some (r1 - x5)) else grd (((8 : Int32) * x1) + x6) 48 (if ((x4 >>> (x6 &&& 31)) &&& (1 : Int32)) = (1 : Int32) then if (σ.1 5 (ix (((8 : Int32) * x1) + x6))) < 0 then fX7_handsOf_b73 σ (fX7_handsOf_L23 σ n) x1 x3 x4 x5 x6 (σ.1 5 (ix (((8 : Int32) * x1) + x6))) else if ((x4 >>> ((σ.1 5 (ix (((8 : Int32) * x1) + x6))) &&& 31)) &&& (1 : Int32)) = (1 : Int32) then fX7_handsOf_b74 σ (fX7_handsOf_L23 σ n) x1 x3 x4 x5 x6 (σ.1 5 (ix (((8 : Int32) * x1) + x6))) (1 : Int32) else fX7_handsOf_b73 σ (fX7_handsOf_L23 σ n) x1 x3 x4 x5 x6 (σ.1 5 (ix (((8 : Int32) * x1) + x6))) else fX7_handsOf_b73 σ (fX7_handsOf_L23 σ n) x1 x3 x4 x5 x6 (σ.1 5 (ix (((8 : Int32) * x1) + x6)))) := rfl
def fX7_handsOf (σ : St) (x1 : Int32) (x2 : Int32) : Option Int32 := bd (fX7_activeOf (σ) x1 x2) (fun r1 => grd x1 6 (fX7_handsOf_L23 σ FU x1 r1 r1 (0 : Int32) ((σ.1 4 (ix x1)) - (1 : Int32))))
-- X7_handsIn handsIn R
def fX7_handsIn_L4 (σ : St) : Nat → Int32 → Int32 → Int32 → Option Int32
  | 0 => fun _ _ _ => none
  | n + 1 => fun x1 x2 x3 => if (σ.1 0 1) ≤ x3 then some x2 else bd (fX7_handsOf (σ) x3 x1) (fun r1 => fX7_handsIn_L4 σ n x1 (x2 + r1) (x3 + (1 : Int32)))
theorem fX7_handsIn_L4_s (σ : St) (n : Nat) (x1 : Int32) (x2 : Int32) (x3 : Int32) : fX7_handsIn_L4 σ (n + 1) x1 x2 x3 = if (σ.1 0 1) ≤ x3 then some x2 else bd (fX7_handsOf (σ) x3 x1) (fun r1 => fX7_handsIn_L4 σ n x1 (x2 + r1) (x3 + (1 : Int32))) := rfl
def fX7_handsIn (σ : St) (x1 : Int32) : Option Int32 := fX7_handsIn_L4 σ FU x1 (0 : Int32) (0 : Int32)
-- X7_hands hands R
def fX7_hands (σ : St) (x1 : Int32) : Option Int32 := if (fX7_isBeat x1) = 0 then some (-3 : Int32) else bd (fX7_handsIn (σ) x1) (fun r2 => some r2)
-- X7_busiestBeat busiestBeat R
def fX7_busiestBeat_b53 (σ : St) (k16 : Int32 → Int32 → Int32 → Option Int32) (x1 : Int32) (x3 : Int32) (xs0 : Int32) : Option Int32 := k16 x1 xs0 (x3 + (1 : Int32))
def fX7_busiestBeat_b40 (σ : St) (k16 : Int32 → Int32 → Int32 → Option Int32) (x2 : Int32) (x3 : Int32) (x4 : Int32) (xs0 : Int32) : Option Int32 := if x4 ≤ x2 then fX7_busiestBeat_b53 σ k16 xs0 x3 x2 else fX7_busiestBeat_b53 σ k16 xs0 x3 x4
def fX7_busiestBeat_L16 (σ : St) : Nat → Int32 → Int32 → Int32 → Option Int32
  | 0 => fun _ _ _ => none
  | n + 1 => fun x1 x2 x3 => if (100 : Int32) ≤ x3 then some x1 else bd (fX7_handsIn (σ) x3) (fun r1 => if r1 ≤ x2 then fX7_busiestBeat_b40 σ (fX7_busiestBeat_L16 σ n) x2 x3 r1 x1 else fX7_busiestBeat_b40 σ (fX7_busiestBeat_L16 σ n) x2 x3 r1 x3)
theorem fX7_busiestBeat_L16_s (σ : St) (n : Nat) (x1 : Int32) (x2 : Int32) (x3 : Int32) : fX7_busiestBeat_L16 σ (n + 1) x1 x2 x3 = if (100 : Int32) ≤ x3 then some x1 else bd (fX7_handsIn (σ) x3) (fun r1 => if r1 ≤ x2 then fX7_busiestBeat_b40 σ (fX7_busiestBeat_L16 σ n) x2 x3 r1 x1 else fX7_busiestBeat_b40 σ (fX7_busiestBeat_L16 σ n) x2 x3 r1 x3) := rfl
def fX7_busiestBeat (σ : St) : Option Int32 := if (σ.1 0 9) = 0 then some (-5 : Int32) else fX7_busiestBeat_L16 σ FU (0 : Int32) (0 : Int32) (0 : Int32)
-- X7_activeRods activeRods R
def fX7_activeRods (σ : St) (x1 : Int32) (x2 : Int32) : Option Int32 := if (fX7_noFigure (σ) x1) = 0 then if (fX7_isBeat x2) = 0 then some (-3 : Int32) else bd (fX7_activeOf (σ) x1 x2) (fun r3 => bd (fX7_bits r3) (fun r5 => some r5)) else some (-1 : Int32)
-- X7_addScene addScene S
def fX7_addScene_b45 (σ : St) : Option (Int32 × St) := some (((σ.1 0 23) - (1 : Int32)), σ)
def fX7_addScene_b35 (σ : St) : Option (Int32 × St) := fX7_addScene_b45 (wI σ 0 23 ((σ.1 0 23) + (1 : Int32)))
def fX7_addScene (σ : St) (x1 : Int32) : Option (Int32 × St) := if (fX7_in x1 (0 : Int32) (63 : Int32)) = 0 then some ((-3 : Int32), σ) else if (σ.1 0 23) = (8 : Int32) then some ((-4 : Int32), σ) else grd (σ.1 0 23) 8 (fX7_addScene_b35 (wI σ 21 (ix (σ.1 0 23)) x1))
-- X7_clearScenes clearScenes S
def fX7_clearScenes_b10 (σ : St) (x1 : Int32) : Option (Int32 × St) := some (x1, σ)
def fX7_clearScenes (σ : St) : Option (Int32 × St) := fX7_clearScenes_b10 (wI σ 0 23 (0 : Int32)) (σ.1 0 23)
-- X7_costNow costNow R
def fX7_costNow_L4 (σ : St) : Nat → Int32 → Int32 → Option Int32
  | 0 => fun _ _ => none
  | n + 1 => fun x1 x2 => if (σ.1 0 23) ≤ x2 then some x1 else grd (x2 - (1 : Int32)) 8 (grd (σ.1 22 (ix (x2 - (1 : Int32)))) 8 (grd x2 8 (grd (σ.1 22 (ix x2)) 8 (bd (fX7_bits ((σ.1 21 (ix (σ.1 22 (ix (x2 - (1 : Int32)))))) ^^^ (σ.1 21 (ix (σ.1 22 (ix x2)))))) (fun r1 => fX7_costNow_L4 σ n (x1 + r1) (x2 + (1 : Int32)))))))
theorem fX7_costNow_L4_s (σ : St) (n : Nat) (x1 : Int32) (x2 : Int32) : fX7_costNow_L4 σ (n + 1) x1 x2 = if (σ.1 0 23) ≤ x2 then some x1 else grd (x2 - (1 : Int32)) 8 (grd (σ.1 22 (ix (x2 - (1 : Int32)))) 8 (grd x2 8 (grd (σ.1 22 (ix x2)) 8 (bd (fX7_bits ((σ.1 21 (ix (σ.1 22 (ix (x2 - (1 : Int32)))))) ^^^ (σ.1 21 (ix (σ.1 22 (ix x2)))))) (fun r1 => fX7_costNow_L4 σ n (x1 + r1) (x2 + (1 : Int32))))))) := rfl
def fX7_costNow (σ : St) : Option Int32 := fX7_costNow_L4 σ FU (0 : Int32) (1 : Int32)
-- X7_exchange exchange S
def fX7_exchange_b19 (σ : St) (x2 : Int32) (x3 : Int32) : Option St := grd x2 8 (some (wI σ 22 (ix x2) x3))
def fX7_exchange (σ : St) (x1 : Int32) (x2 : Int32) : Option St := grd x1 8 (grd x2 8 (grd x1 8 (fX7_exchange_b19 (wI σ 22 (ix x1) (σ.1 22 (ix x2))) x2 (σ.1 22 (ix x1)))))
-- X7_nextOrder nextOrder S
def fX7_nextOrder_L86  : Nat → St → Int32 → Int32 → Option (Int32 × St)
  | 0 => fun _ _ _ => none
  | n + 1 => fun σ x3 x4 => if x4 ≤ x3 then some ((1 : Int32), σ) else bd (fX7_exchange (σ) x3 x4) (fun σ1 => fX7_nextOrder_L86 n (σ1) (x3 + (1 : Int32)) (x4 + (-1 : Int32)))
theorem fX7_nextOrder_L86_s  (n : Nat) (σ : St) (x3 : Int32) (x4 : Int32) : fX7_nextOrder_L86 (n + 1) σ x3 x4 = if x4 ≤ x3 then some ((1 : Int32), σ) else bd (fX7_exchange (σ) x3 x4) (fun σ1 => fX7_nextOrder_L86 n (σ1) (x3 + (1 : Int32)) (x4 + (-1 : Int32))) := rfl
def fX7_nextOrder_L47  : Nat → St → Int32 → Int32 → Option (Int32 × St)
  | 0 => fun _ _ _ => none
  | n + 1 => fun σ x1 x2 => grd x2 8 (grd x1 8 (if (σ.1 22 (ix x1)) ≤ (σ.1 22 (ix x2)) then bd (fX7_exchange (σ) x1 x2) (fun σ1 => fX7_nextOrder_L86 FU (σ1) (x1 + (1 : Int32)) ((σ1.1 0 23) - (1 : Int32))) else fX7_nextOrder_L47 n (σ) x1 (x2 + (-1 : Int32))))
theorem fX7_nextOrder_L47_s  (n : Nat) (σ : St) (x1 : Int32) (x2 : Int32) : fX7_nextOrder_L47 (n + 1) σ x1 x2 = grd x2 8 (grd x1 8 (if (σ.1 22 (ix x1)) ≤ (σ.1 22 (ix x2)) then bd (fX7_exchange (σ) x1 x2) (fun σ1 => fX7_nextOrder_L86 FU (σ1) (x1 + (1 : Int32)) ((σ1.1 0 23) - (1 : Int32))) else fX7_nextOrder_L47 n (σ) x1 (x2 + (-1 : Int32)))) := rfl
def fX7_nextOrder_b34 (σ : St) (x1 : Int32) : Option (Int32 × St) := if 0 < x1 then fX7_nextOrder_L47 FU (σ) x1 ((σ.1 0 23) - (1 : Int32)) else some ((0 : Int32), σ)
def fX7_nextOrder_L7  : Nat → St → Int32 → Option (Int32 × St)
  | 0 => fun _ _ => none
  | n + 1 => fun σ x1 => if x1 ≤ 0 then fX7_nextOrder_b34 (σ) x1 else grd x1 8 (grd (x1 + (1 : Int32)) 8 (if (σ.1 22 (ix x1)) ≤ (σ.1 22 (ix (x1 + (1 : Int32)))) then fX7_nextOrder_b34 (σ) x1 else fX7_nextOrder_L7 n (σ) (x1 + (-1 : Int32))))
theorem fX7_nextOrder_L7_s  (n : Nat) (σ : St) (x1 : Int32) : fX7_nextOrder_L7 (n + 1) σ x1 = if x1 ≤ 0 then fX7_nextOrder_b34 (σ) x1 else grd x1 8 (grd (x1 + (1 : Int32)) 8 (if (σ.1 22 (ix x1)) ≤ (σ.1 22 (ix (x1 + (1 : Int32)))) then fX7_nextOrder_b34 (σ) x1 else fX7_nextOrder_L7 n (σ) (x1 + (-1 : Int32)))) := rfl
def fX7_nextOrder (σ : St) : Option (Int32 × St) := fX7_nextOrder_L7 FU (σ) ((σ.1 0 23) - (2 : Int32))
-- X7_findOrder findOrder S
def fX7_findOrder_b17 (k2 : St → Int32 → Option (Int32 × St)) (σ : St) (x1 : Int32) : Option (Int32 × St) := k2 (σ) (x1 + (1 : Int32))
def fX7_findOrder_b93 (k27 : St → Int32 → Int32 → Option (Int32 × St)) (k55 : St → Int32 → Int32 → Int32 → Int32 → Option (Int32 × St)) (σ : St) (x1 : Int32) (x3 : Int32) (x4 : Int32) (x5 : Int32) : Option (Int32 × St) := k55 (σ) x1 x3 x4 (x5 + (1 : Int32))
def fX7_findOrder_b92 (k27 : St → Int32 → Int32 → Option (Int32 × St)) (k55 : St → Int32 → Int32 → Int32 → Int32 → Option (Int32 × St)) (σ : St) (x1 : Int32) (x3 : Int32) (x4 : Int32) (x5 : Int32) (xs1 : Int32) (xs2 : Int32) : Option (Int32 × St) := grd xs1 8 (fX7_findOrder_b93 k27 k55 (wI σ 23 (ix xs1) xs2) x1 x3 x4 x5)
def fX7_findOrder_b109 (k27 : St → Int32 → Int32 → Option (Int32 × St)) (σ : St) (xs0 : Int32) : Option (Int32 × St) := bd2 (fX7_nextOrder (σ)) (fun r1 σ3 => k27 (σ3) xs0 r1)
def fX7_findOrder_L55 (k27 : St → Int32 → Int32 → Option (Int32 × St)) : Nat → St → Int32 → Int32 → Int32 → Int32 → Option (Int32 × St)
  | 0 => fun _ _ _ _ _ => none
  | n + 1 => fun σ x1 x3 x4 x5 => if (σ.1 0 23) ≤ x5 then if x4 = 0 then fX7_findOrder_b109 k27 (σ) x1 else fX7_findOrder_b109 k27 (σ) x3 else if x4 = 0 then grd x5 8 (fX7_findOrder_b92 k27 (fX7_findOrder_L55 k27 n) (σ) x1 x3 x4 x5 x5 (σ.1 23 (ix x5))) else grd x5 8 (fX7_findOrder_b92 k27 (fX7_findOrder_L55 k27 n) (σ) x1 x3 x4 x5 x5 (σ.1 22 (ix x5)))
theorem fX7_findOrder_L55_s (k27 : St → Int32 → Int32 → Option (Int32 × St)) (n : Nat) (σ : St) (x1 : Int32) (x3 : Int32) (x4 : Int32) (x5 : Int32) : fX7_findOrder_L55 k27 (n + 1) σ x1 x3 x4 x5 = if (σ.1 0 23) ≤ x5 then if x4 = 0 then fX7_findOrder_b109 k27 (σ) x1 else fX7_findOrder_b109 k27 (σ) x3 else if x4 = 0 then grd x5 8 (fX7_findOrder_b92 k27 (fX7_findOrder_L55 k27 n) (σ) x1 x3 x4 x5 x5 (σ.1 23 (ix x5))) else grd x5 8 (fX7_findOrder_b92 k27 (fX7_findOrder_L55 k27 n) (σ) x1 x3 x4 x5 x5 (σ.1 22 (ix x5))) := rfl
def fX7_findOrder_b50 (k27 : St → Int32 → Int32 → Option (Int32 × St)) (σ : St) (x1 : Int32) (x3 : Int32) (xs0 : Int32) : Option (Int32 × St) := fX7_findOrder_L55 k27 FU (σ) x1 x3 xs0 (0 : Int32)
def fX7_findOrder_b45 (k27 : St → Int32 → Int32 → Option (Int32 × St)) (σ : St) (x1 : Int32) (x3 : Int32) : Option (Int32 × St) := fX7_findOrder_b50 k27 (σ) x1 x3 (1 : Int32)
def fX7_findOrder_L27  : Nat → St → Int32 → Int32 → Option (Int32 × St)
  | 0 => fun _ _ _ => none
  | n + 1 => fun σ x1 x2 => if x2 = 0 then some (x1, σ) else bd (fX7_costNow (σ)) (fun r1 => if x1 < 0 then fX7_findOrder_b45 (fX7_findOrder_L27 n) (σ) x1 r1 else if x1 ≤ r1 then fX7_findOrder_b50 (fX7_findOrder_L27 n) (σ) x1 r1 (0 : Int32) else fX7_findOrder_b45 (fX7_findOrder_L27 n) (σ) x1 r1)
theorem fX7_findOrder_L27_s  (n : Nat) (σ : St) (x1 : Int32) (x2 : Int32) : fX7_findOrder_L27 (n + 1) σ x1 x2 = if x2 = 0 then some (x1, σ) else bd (fX7_costNow (σ)) (fun r1 => if x1 < 0 then fX7_findOrder_b45 (fX7_findOrder_L27 n) (σ) x1 r1 else if x1 ≤ r1 then fX7_findOrder_b50 (fX7_findOrder_L27 n) (σ) x1 r1 (0 : Int32) else fX7_findOrder_b45 (fX7_findOrder_L27 n) (σ) x1 r1) := rfl
def fX7_findOrder_L2  : Nat → St → Int32 → Option (Int32 × St)
  | 0 => fun _ _ => none
  | n + 1 => fun σ x1 => if (σ.1 0 23) ≤ x1 then fX7_findOrder_L27 FU (σ) (-1 : Int32) (1 : Int32) else grd x1 8 (fX7_findOrder_b17 (fX7_findOrder_L2 n) (wI σ 22 (ix x1) x1) x1)
theorem fX7_findOrder_L2_s  (n : Nat) (σ : St) (x1 : Int32) : fX7_findOrder_L2 (n + 1) σ x1 = if (σ.1 0 23) ≤ x1 then fX7_findOrder_L27 FU (σ) (-1 : Int32) (1 : Int32) else grd x1 8 (fX7_findOrder_b17 (fX7_findOrder_L2 n) (wI σ 22 (ix x1) x1) x1) := rfl
def fX7_findOrder (σ : St) : Option (Int32 × St) := fX7_findOrder_L2 FU (σ) (0 : Int32)
-- X7_bestScene bestScene S
def fX7_bestScene (σ : St) (x1 : Int32) : Option (Int32 × St) := if 0 ≤ x1 then bd2 (fX7_findOrder (σ)) (fun r1 σ2 => if (σ2.1 0 23) ≤ x1 then some ((-5 : Int32), σ2) else grd x1 8 (some ((σ2.1 23 (ix x1)), σ2))) else some ((-3 : Int32), σ)
-- X7_bestCost bestCost S
def fX7_bestCost (σ : St) : Option (Int32 × St) := bd2 (fX7_findOrder (σ)) (fun r1 σ2 => some (r1, σ2))
