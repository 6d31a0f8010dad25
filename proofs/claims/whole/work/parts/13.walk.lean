-- X7_noFigure
set_option maxRecDepth 20000 in
set_option maxHeartbeats 2000000 in
theorem wX7_noFigure_b0 {X : Cx} {w : Wp} {σ : St} {r : Int32}  {x1 : Int32} (hX : OK X w cX7_noFigure 2 RX7 (some .boolean) (rmz 1 22) (Qz w σ r)) (hW : MW w)   (hf : fX7_noFigure σ x1 = r) : J X w 2 σ 0 [(0, rf w 0), (1, .int x1)] [] := by
  rw [fX7_noFigure] at hf
  refine r_iload_n hX dX7_noFigure_0 rfl 1 rfl ?_
  refine r_iconst hX dX7_noFigure_1 (v := (0 : Int32)) (by decide) ?_
  refine r_aload_n hX dX7_noFigure_2 rfl 0 rfl ?_
  refine r_get hX cls7 (MK0 hW) (by decide) (ce8 (MK0 hW)) 1 (by decide) g3_62 rfl dX7_noFigure_3 (.int (σ.1 0 1)) rfl ?_
  refine r_iconst hX dX7_noFigure_6 (v := (1 : Int32)) (by decide) ?_
  refine r_isub hX dX7_noFigure_7 ?_
  refine J.callz (fun H locs ls a b c => runS hX miX7_in (cX7_in_ok (xl X)  rfl) g3_148 g3_149 ⟨Nat.le_of_ble_eq_true rfl, Nat.le_of_ble_eq_true rfl⟩ dX7_noFigure_8 rfl (As := [.int x1, .int (0 : Int32), .int ((σ.1 0 1) - (1 : Int32))]) (rest := []) rfl (Nat.le_of_ble_eq_true rfl) a b c) (fun hz1 => ?_)
  refine r_if_ne hX dX7_noFigure_11 (tgt := 18) (by decide) (fun h => ?_) (fun h => ?_)
  · have hf := ite_f h hf
    refine r_iconst hX dX7_noFigure_18 (v := (0 : Int32)) (by decide) ?_
    subst hf
    exact r_zret hX bz0 dX7_noFigure_19
  · have hf := ite_t h hf
    refine r_iconst hX dX7_noFigure_14 (v := (1 : Int32)) (by decide) ?_
    refine r_goto hX dX7_noFigure_15 (tgt := 19) (by decide) ?_
    subst hf
    exact r_zret hX bz1 dX7_noFigure_19
theorem miX7_noFigure : MI yX7_noFigure cX7_noFigure 2 (some .boolean) 1 := ⟨g3_162, ⟨by decide, by decide, by decide +kernel⟩, g1_6, by decide +kernel⟩
theorem cX7_noFigure_ok (l : Launch) {w : Wp} {σ : St} {r : Int32} {x1 : Int32} (hW : MW w)  (hf : fX7_noFigure σ x1 = r) : CM l w yX7_noFigure cX7_noFigure 2 (some .boolean) (rmz 1 22) [rf w 0, .int x1] σ (Qz w σ r) := CM.of miX7_noFigure.2.2.2 (Nat.le_of_ble_eq_true rfl) (fun X hcl hX => J.sub [0, 1] rfl (wX7_noFigure_b0 hX hW  hf))
-- X7_noLimb
set_option maxRecDepth 20000 in
set_option maxHeartbeats 2000000 in
theorem wX7_noLimb_b0 {X : Cx} {w : Wp} {σ : St} {r : Int32}  {x1 : Int32} {x2 : Int32} (hX : OK X w cX7_noLimb 3 RX7 (some .boolean) (rmz 1 22) (Qz w σ r)) (hW : MW w)   (hf : fX7_noLimb σ x1 x2 = some r) : J X w 3 σ 0 [(0, rf w 0), (1, .int x1), (2, .int x2)] [] := by
  rw [fX7_noLimb] at hf
  refine r_iload_n hX dX7_noLimb_0 rfl 2 rfl ?_
  refine r_iconst hX dX7_noLimb_1 (v := (0 : Int32)) (by decide) ?_
  refine r_aload_n hX dX7_noLimb_2 rfl 0 rfl ?_
  refine r_get hX cls7 (MK0 hW) (by decide) (ce8 (MK0 hW)) 5 (by decide) g3_66 rfl dX7_noLimb_3 (rf w 4) rfl ?_
  refine r_iload_n hX dX7_noLimb_6 rfl 1 rfl ?_
  obtain ⟨hi2, hf⟩ := grd_some hf
  refine r_iald hX (MK4 hW) (ML4 hW) hi2 dX7_noLimb_7 ?_
  refine r_iconst hX dX7_noLimb_8 (v := (1 : Int32)) (by decide) ?_
  refine r_isub hX dX7_noLimb_9 ?_
  refine J.callz (fun H locs ls a b c => runS hX miX7_in (cX7_in_ok (xl X)  rfl) g3_148 g3_149 ⟨Nat.le_of_ble_eq_true rfl, Nat.le_of_ble_eq_true rfl⟩ dX7_noLimb_10 rfl (As := [.int x2, .int (0 : Int32), .int ((σ.1 4 (ix x1)) - (1 : Int32))]) (rest := []) rfl (Nat.le_of_ble_eq_true rfl) a b c) (fun hz1 => ?_)
  refine r_if_ne hX dX7_noLimb_13 (tgt := 20) (by decide) (fun h => ?_) (fun h => ?_)
  · have hf := ite_f h hf
    refine r_iconst hX dX7_noLimb_20 (v := (0 : Int32)) (by decide) ?_
    cases hf
    exact r_zret hX bz0 dX7_noLimb_21
  · have hf := ite_t h hf
    refine r_iconst hX dX7_noLimb_16 (v := (1 : Int32)) (by decide) ?_
    refine r_goto hX dX7_noLimb_17 (tgt := 21) (by decide) ?_
    cases hf
    exact r_zret hX bz1 dX7_noLimb_21
theorem miX7_noLimb : MI yX7_noLimb cX7_noLimb 3 (some .boolean) 2 := ⟨g3_166, ⟨by decide, by decide, by decide +kernel⟩, g1_6, by decide +kernel⟩
theorem cX7_noLimb_ok (l : Launch) {w : Wp} {σ : St} {r : Int32} {x1 : Int32} {x2 : Int32} (hW : MW w)  (hf : fX7_noLimb σ x1 x2 = some r) : CM l w yX7_noLimb cX7_noLimb 3 (some .boolean) (rmz 1 22) [rf w 0, .int x1, .int x2] σ (Qz w σ r) := CM.of miX7_noLimb.2.2.2 (Nat.le_of_ble_eq_true rfl) (fun X hcl hX => J.sub [0, 1, 2] rfl (wX7_noLimb_b0 hX hW  hf))
-- X7_isBeat
set_option maxRecDepth 20000 in
set_option maxHeartbeats 2000000 in
theorem wX7_isBeat_b0 {X : Cx} {w : Wp} {σ : St} {r : Int32}  {x0 : Int32} (hX : OK X w cX7_isBeat 1 RX7 (some .boolean) (rmz 1 22) (Qz w σ r))    (hf : fX7_isBeat x0 = r) : J X w 1 σ 0 [(0, .int x0)] [] := by
  rw [fX7_isBeat] at hf
  refine r_iload_n hX dX7_isBeat_0 rfl 0 rfl ?_
  refine r_iconst hX dX7_isBeat_1 (v := (0 : Int32)) (by decide) ?_
  refine r_bipush hX dX7_isBeat_2 (v := (99 : Int32)) (by decide) ?_
  refine J.callz (fun H locs ls a b c => runS hX miX7_in (cX7_in_ok (xl X)  rfl) g3_148 g3_149 ⟨Nat.le_of_ble_eq_true rfl, Nat.le_of_ble_eq_true rfl⟩ dX7_isBeat_4 rfl (As := [.int x0, .int (0 : Int32), .int (99 : Int32)]) (rest := []) rfl (Nat.le_of_ble_eq_true rfl) a b c) (fun hz1 => ?_)
  subst hf
  exact r_zret hX hz1 dX7_isBeat_7
theorem miX7_isBeat : MI yX7_isBeat cX7_isBeat 1 (some .boolean) 1 := ⟨g3_177, ⟨by decide, by decide, by decide +kernel⟩, g1_6, by decide +kernel⟩
theorem cX7_isBeat_ok (l : Launch) {w : Wp} {σ : St} {r : Int32} {x0 : Int32}   (hf : fX7_isBeat x0 = r) : CM l w yX7_isBeat cX7_isBeat 1 (some .boolean) (rmz 1 22) [.int x0] σ (Qz w σ r) := CM.of miX7_isBeat.2.2.2 (Nat.le_of_ble_eq_true rfl) (fun X hcl hX => J.sub [0] rfl (wX7_isBeat_b0 hX   hf))
-- X7_setDistance
set_option maxRecDepth 20000 in
set_option maxHeartbeats 2000000 in
theorem wX7_setDistance_b25 {X : Cx} {w : Wp} {σ : St} {r : Int32} {σ' : St}  {x2 : Int32} (hX : OK X w cX7_setDistance 3 RX7 (some .int) (rmz 1 22) (Qi w σ' r)) (hW : MW w)   (hf : fX7_setDistance_b25 σ x2 = some (r, σ')) : J X w 3 σ 25 [(2, .int x2)] [] := by
  rw [fX7_setDistance_b25] at hf
  refine r_iload_n hX dX7_setDistance_25 rfl 0 rfl ?_
  cases hf
  exact r_iret hX dX7_setDistance_26
set_option maxRecDepth 20000 in
set_option maxHeartbeats 2000000 in
theorem wX7_setDistance_b0 {X : Cx} {w : Wp} {σ : St} {r : Int32} {σ' : St}  {x1 : Int32} (hX : OK X w cX7_setDistance 3 RX7 (some .int) (rmz 1 22) (Qi w σ' r)) (hW : MW w)   (hf : fX7_setDistance σ x1 = some (r, σ')) : J X w 3 σ 0 [(0, rf w 0), (1, .int x1)] [] := by
  rw [fX7_setDistance] at hf
  refine r_iload_n hX dX7_setDistance_0 rfl 1 rfl ?_
  refine r_bipush hX dX7_setDistance_1 (v := (10 : Int32)) (by decide) ?_
  refine r_sipush hX dX7_setDistance_3 (v := (200 : Int32)) (by decide) ?_
  refine J.callz (fun H locs ls a b c => runS hX miX7_in (cX7_in_ok (xl X)  rfl) g3_148 g3_149 ⟨Nat.le_of_ble_eq_true rfl, Nat.le_of_ble_eq_true rfl⟩ dX7_setDistance_6 rfl (As := [.int x1, .int (10 : Int32), .int (200 : Int32)]) (rest := []) rfl (Nat.le_of_ble_eq_true rfl) a b c) (fun hz1 => ?_)
  refine r_if_ne hX dX7_setDistance_9 (tgt := 15) (by decide) (fun h => ?_) (fun h => ?_)
  · have hf := ite_f h hf
    refine r_aload_n hX dX7_setDistance_15 rfl 0 rfl ?_
    refine r_get hX cls7 (MK0 hW) (by decide) (ce8 (MK0 hW)) 0 (by decide) g3_61 rfl dX7_setDistance_16 (.int (σ.1 0 0)) rfl ?_
    refine r_istore_n hX (i := 2) dX7_setDistance_19 rfl (by decide) rfl ?_
    refine r_aload_n hX dX7_setDistance_20 rfl 1 rfl ?_
    refine r_iload_n hX dX7_setDistance_21 rfl 2 rfl ?_
    refine r_putI hX cls7 (MK0 hW) (by decide) (fun _ _ _ => ce8 (MK0 hW)) 0 (by decide) g3_61 rfl rfl (tyX7_ok 0 (by decide)) (fun _ _ => Nat.le_of_ble_eq_true rfl) dX7_setDistance_22 (fun _ _ => rfl) ?_
    exact J.sub [0] rfl (wX7_setDistance_b25 hX hW   hf)
  · have hf := ite_t h hf
    refine r_bipush hX dX7_setDistance_12 (v := (-3 : Int32)) (by decide) ?_
    cases hf
    exact r_iret hX dX7_setDistance_14
theorem miX7_setDistance : MI yX7_setDistance cX7_setDistance 3 (some .int) 1 := ⟨g3_147, ⟨by decide, by decide, by decide +kernel⟩, g1_6, by decide +kernel⟩
theorem cX7_setDistance_ok (l : Launch) {w : Wp} {σ : St} {r : Int32} {σ' : St} {x1 : Int32} (hW : MW w)  (hf : fX7_setDistance σ x1 = some (r, σ')) : CM l w yX7_setDistance cX7_setDistance 3 (some .int) (rmz 1 22) [rf w 0, .int x1] σ (Qi w σ' r) := CM.of miX7_setDistance.2.2.2 (Nat.le_of_ble_eq_true rfl) (fun X hcl hX => J.sub [0, 1] rfl (wX7_setDistance_b0 hX hW  hf))
-- X7_addFigure
set_option maxRecDepth 20000 in
set_option maxHeartbeats 2000000 in
theorem wX7_addFigure_b99 {X : Cx} {w : Wp} {σ : St} {r : Int32} {σ' : St}   (hX : OK X w cX7_addFigure 4 RX7 (some .int) (rmz 1 22) (Qi w σ' r)) (hW : MW w)   (hf : fX7_addFigure_b99 σ = some (r, σ')) : J X w 4 σ 99 [(0, rf w 0)] [] := by
  rw [fX7_addFigure_b99] at hf
  refine r_aload_n hX dX7_addFigure_99 rfl 0 rfl ?_
  refine r_get hX cls7 (MK0 hW) (by decide) (ce8 (MK0 hW)) 1 (by decide) g3_62 rfl dX7_addFigure_100 (.int (σ.1 0 1)) rfl ?_
  refine r_iconst hX dX7_addFigure_103 (v := (1 : Int32)) (by decide) ?_
  refine r_isub hX dX7_addFigure_104 ?_
  cases hf
  exact r_iret hX dX7_addFigure_105
set_option maxRecDepth 20000 in
set_option maxHeartbeats 2000000 in
theorem wX7_addFigure_b89 {X : Cx} {w : Wp} {σ : St} {r : Int32} {σ' : St}   (hX : OK X w cX7_addFigure 4 RX7 (some .int) (rmz 1 22) (Qi w σ' r)) (hW : MW w)   (hf : fX7_addFigure_b89 σ = some (r, σ')) : J X w 4 σ 89 [(0, rf w 0)] [] := by
  rw [fX7_addFigure_b89] at hf
  refine r_aload_n hX dX7_addFigure_89 rfl 0 rfl ?_
  refine r_dup hX dX7_addFigure_90 rfl ?_
  refine r_get hX cls7 (MK0 hW) (by decide) (ce8 (MK0 hW)) 1 (by decide) g3_62 rfl dX7_addFigure_91 (.int (σ.1 0 1)) rfl ?_
  refine r_iconst hX dX7_addFigure_94 (v := (1 : Int32)) (by decide) ?_
  refine r_iadd hX dX7_addFigure_95 ?_
  refine r_putI hX cls7 (MK0 hW) (by decide) (fun _ _ _ => ce8 (MK0 hW)) 1 (by decide) g3_62 rfl rfl (tyX7_ok 1 (by decide)) (fun _ _ => Nat.le_of_ble_eq_true rfl) dX7_addFigure_96 (fun _ _ => rfl) ?_
  exact J.sub [0] rfl (wX7_addFigure_b99 hX hW   hf)
set_option maxRecDepth 20000 in
set_option maxHeartbeats 2000000 in
theorem wX7_addFigure_b79 {X : Cx} {w : Wp} {σ : St} {r : Int32} {σ' : St}   (hX : OK X w cX7_addFigure 4 RX7 (some .int) (rmz 1 22) (Qi w σ' r)) (hW : MW w)   (hf : fX7_addFigure_b79 σ = some (r, σ')) : J X w 4 σ 79 [(0, rf w 0)] [] := by
  rw [fX7_addFigure_b79] at hf
  refine r_aload_n hX dX7_addFigure_79 rfl 0 rfl ?_
  refine r_get hX cls7 (MK0 hW) (by decide) (ce8 (MK0 hW)) 5 (by decide) g3_66 rfl dX7_addFigure_80 (rf w 4) rfl ?_
  refine r_aload_n hX dX7_addFigure_83 rfl 0 rfl ?_
  refine r_get hX cls7 (MK0 hW) (by decide) (ce8 (MK0 hW)) 1 (by decide) g3_62 rfl dX7_addFigure_84 (.int (σ.1 0 1)) rfl ?_
  refine r_iconst hX dX7_addFigure_87 (v := (0 : Int32)) (by decide) ?_
  obtain ⟨hi1, hf⟩ := grd_some hf
  refine r_iast hX (MK4 hW) (ML4 hW) hi1 dX7_addFigure_88 ?_
  exact J.sub [0] rfl (wX7_addFigure_b89 hX hW   hf)
set_option maxRecDepth 20000 in
set_option maxHeartbeats 2000000 in
theorem wX7_addFigure_b69 {X : Cx} {w : Wp} {σ : St} {r : Int32} {σ' : St}  {x3 : Int32} (hX : OK X w cX7_addFigure 4 RX7 (some .int) (rmz 1 22) (Qi w σ' r)) (hW : MW w)   (hf : fX7_addFigure_b69 σ x3 = some (r, σ')) : J X w 4 σ 69 [(0, rf w 0), (3, .int x3)] [] := by
  rw [fX7_addFigure_b69] at hf
  refine r_aload_n hX dX7_addFigure_69 rfl 0 rfl ?_
  refine r_get hX cls7 (MK0 hW) (by decide) (ce8 (MK0 hW)) 4 (by decide) g3_65 rfl dX7_addFigure_70 (rf w 3) rfl ?_
  refine r_aload_n hX dX7_addFigure_73 rfl 0 rfl ?_
  refine r_get hX cls7 (MK0 hW) (by decide) (ce8 (MK0 hW)) 1 (by decide) g3_62 rfl dX7_addFigure_74 (.int (σ.1 0 1)) rfl ?_
  refine r_iload_n hX dX7_addFigure_77 rfl 1 rfl ?_
  obtain ⟨hi1, hf⟩ := grd_some hf
  refine r_iast hX (MK3 hW) (ML3 hW) hi1 dX7_addFigure_78 ?_
  exact J.sub [0] rfl (wX7_addFigure_b79 hX hW   hf)
set_option maxRecDepth 20000 in
set_option maxHeartbeats 2000000 in
theorem wX7_addFigure_b59 {X : Cx} {w : Wp} {σ : St} {r : Int32} {σ' : St}  {x2 : Int32} {x3 : Int32} (hX : OK X w cX7_addFigure 4 RX7 (some .int) (rmz 1 22) (Qi w σ' r)) (hW : MW w)   (hf : fX7_addFigure_b59 σ x2 x3 = some (r, σ')) : J X w 4 σ 59 [(0, rf w 0), (2, .int x2), (3, .int x3)] [] := by
  rw [fX7_addFigure_b59] at hf
  refine r_aload_n hX dX7_addFigure_59 rfl 0 rfl ?_
  refine r_get hX cls7 (MK0 hW) (by decide) (ce8 (MK0 hW)) 3 (by decide) g3_64 rfl dX7_addFigure_60 (rf w 2) rfl ?_
  refine r_aload_n hX dX7_addFigure_63 rfl 0 rfl ?_
  refine r_get hX cls7 (MK0 hW) (by decide) (ce8 (MK0 hW)) 1 (by decide) g3_62 rfl dX7_addFigure_64 (.int (σ.1 0 1)) rfl ?_
  refine r_iload_n hX dX7_addFigure_67 rfl 1 rfl ?_
  obtain ⟨hi1, hf⟩ := grd_some hf
  refine r_iast hX (MK2 hW) (ML2 hW) hi1 dX7_addFigure_68 ?_
  exact J.sub [0, 2] rfl (wX7_addFigure_b69 hX hW   hf)
set_option maxRecDepth 20000 in
set_option maxHeartbeats 2000000 in
theorem wX7_addFigure_b0 {X : Cx} {w : Wp} {σ : St} {r : Int32} {σ' : St}  {x1 : Int32} {x2 : Int32} {x3 : Int32} (hX : OK X w cX7_addFigure 4 RX7 (some .int) (rmz 1 22) (Qi w σ' r)) (hW : MW w)   (hf : fX7_addFigure σ x1 x2 x3 = some (r, σ')) : J X w 4 σ 0 [(0, rf w 0), (1, .int x1), (2, .int x2), (3, .int x3)] [] := by
  rw [fX7_addFigure] at hf
  refine r_iload_n hX dX7_addFigure_0 rfl 1 rfl ?_
  refine r_bipush hX dX7_addFigure_1 (v := (-100 : Int32)) (by decide) ?_
  refine r_bipush hX dX7_addFigure_3 (v := (100 : Int32)) (by decide) ?_
  refine J.callz (fun H locs ls a b c => runS hX miX7_in (cX7_in_ok (xl X)  rfl) g3_148 g3_149 ⟨Nat.le_of_ble_eq_true rfl, Nat.le_of_ble_eq_true rfl⟩ dX7_addFigure_5 rfl (As := [.int x1, .int (-100 : Int32), .int (100 : Int32)]) (rest := []) rfl (Nat.le_of_ble_eq_true rfl) a b c) (fun hz1 => ?_)
  refine r_if_eq hX dX7_addFigure_8 (tgt := 34) (by decide) (fun h => ?_) (fun h => ?_)
  · have hf := ite_t h hf
    refine r_bipush hX dX7_addFigure_34 (v := (-3 : Int32)) (by decide) ?_
    cases hf
    exact r_iret hX dX7_addFigure_36
  · have hf := ite_f h hf
    refine r_iload_n hX dX7_addFigure_11 rfl 2 rfl ?_
    refine r_bipush hX dX7_addFigure_12 (v := (-100 : Int32)) (by decide) ?_
    refine r_bipush hX dX7_addFigure_14 (v := (100 : Int32)) (by decide) ?_
    refine J.callz (fun H locs ls a b c => runS hX miX7_in (cX7_in_ok (xl X)  rfl) g3_148 g3_149 ⟨Nat.le_of_ble_eq_true rfl, Nat.le_of_ble_eq_true rfl⟩ dX7_addFigure_16 rfl (As := [.int x2, .int (-100 : Int32), .int (100 : Int32)]) (rest := []) rfl (Nat.le_of_ble_eq_true rfl) a b c) (fun hz2 => ?_)
    refine r_if_eq hX dX7_addFigure_19 (tgt := 34) (by decide) (fun h => ?_) (fun h => ?_)
    · have hf := ite_t h hf
      refine r_bipush hX dX7_addFigure_34 (v := (-3 : Int32)) (by decide) ?_
      cases hf
      exact r_iret hX dX7_addFigure_36
    · have hf := ite_f h hf
      refine r_iload_n hX dX7_addFigure_22 rfl 3 rfl ?_
      refine r_iconst hX dX7_addFigure_23 (v := (1 : Int32)) (by decide) ?_
      refine r_aload_n hX dX7_addFigure_24 rfl 0 rfl ?_
      refine r_get hX cls7 (MK0 hW) (by decide) (ce8 (MK0 hW)) 0 (by decide) g3_61 rfl dX7_addFigure_25 (.int (σ.1 0 0)) rfl ?_
      refine J.callz (fun H locs ls a b c => runS hX miX7_in (cX7_in_ok (xl X)  rfl) g3_148 g3_149 ⟨Nat.le_of_ble_eq_true rfl, Nat.le_of_ble_eq_true rfl⟩ dX7_addFigure_28 rfl (As := [.int x3, .int (1 : Int32), .int (σ.1 0 0)]) (rest := []) rfl (Nat.le_of_ble_eq_true rfl) a b c) (fun hz3 => ?_)
      refine r_if_ne hX dX7_addFigure_31 (tgt := 37) (by decide) (fun h => ?_) (fun h => ?_)
      · have hf := ite_f h hf
        refine r_aload_n hX dX7_addFigure_37 rfl 0 rfl ?_
        refine r_get hX cls7 (MK0 hW) (by decide) (ce8 (MK0 hW)) 1 (by decide) g3_62 rfl dX7_addFigure_38 (.int (σ.1 0 1)) rfl ?_
        refine r_bipush hX dX7_addFigure_41 (v := (6 : Int32)) (by decide) ?_
        refine r_icmp_ne hX dX7_addFigure_43 (tgt := 49) (by decide) (fun h => ?_) (fun h => ?_)
        · have hf := ite_f h hf
          refine r_aload_n hX dX7_addFigure_49 rfl 0 rfl ?_
          refine r_get hX cls7 (MK0 hW) (by decide) (ce8 (MK0 hW)) 2 (by decide) g3_63 rfl dX7_addFigure_50 (rf w 1) rfl ?_
          refine r_aload_n hX dX7_addFigure_53 rfl 0 rfl ?_
          refine r_get hX cls7 (MK0 hW) (by decide) (ce8 (MK0 hW)) 1 (by decide) g3_62 rfl dX7_addFigure_54 (.int (σ.1 0 1)) rfl ?_
          refine r_iload_n hX dX7_addFigure_57 rfl 1 rfl ?_
          obtain ⟨hi4, hf⟩ := grd_some hf
          refine r_iast hX (MK1 hW) (ML1 hW) hi4 dX7_addFigure_58 ?_
          exact J.sub [0, 2, 3] rfl (wX7_addFigure_b59 hX hW   hf)
        · have hf := ite_t h hf
          refine r_bipush hX dX7_addFigure_46 (v := (-4 : Int32)) (by decide) ?_
          cases hf
          exact r_iret hX dX7_addFigure_48
      · have hf := ite_t h hf
        refine r_bipush hX dX7_addFigure_34 (v := (-3 : Int32)) (by decide) ?_
        cases hf
        exact r_iret hX dX7_addFigure_36
theorem miX7_addFigure : MI yX7_addFigure cX7_addFigure 4 (some .int) 3 := ⟨g3_154, ⟨by decide, by decide, by decide +kernel⟩, g1_6, by decide +kernel⟩
theorem cX7_addFigure_ok (l : Launch) {w : Wp} {σ : St} {r : Int32} {σ' : St} {x1 : Int32} {x2 : Int32} {x3 : Int32} (hW : MW w)  (hf : fX7_addFigure σ x1 x2 x3 = some (r, σ')) : CM l w yX7_addFigure cX7_addFigure 4 (some .int) (rmz 1 22) [rf w 0, .int x1, .int x2, .int x3] σ (Qi w σ' r) := CM.of miX7_addFigure.2.2.2 (Nat.le_of_ble_eq_true rfl) (fun X hcl hX => J.sub [0, 1, 2, 3] rfl (wX7_addFigure_b0 hX hW  hf))
-- X7_addLimb
set_option maxRecDepth 20000 in
set_option maxHeartbeats 2000000 in
theorem wX7_addLimb_b113 {X : Cx} {w : Wp} {σ : St} {r : Int32} {σ' : St}  {x1 : Int32} (hX : OK X w cX7_addLimb 6 RX7 (some .int) (rmz 2 44) (Qi w σ' r)) (hW : MW w)   (hf : fX7_addLimb_b113 σ x1 = some (r, σ')) : J X w 6 σ 113 [(0, rf w 0), (1, .int x1)] [] := by
  rw [fX7_addLimb_b113] at hf
  refine r_aload_n hX dX7_addLimb_113 rfl 0 rfl ?_
  refine r_get hX cls7 (MK0 hW) (by decide) (ce8 (MK0 hW)) 5 (by decide) g3_66 rfl dX7_addLimb_114 (rf w 4) rfl ?_
  refine r_iload_n hX dX7_addLimb_117 rfl 1 rfl ?_
  obtain ⟨hi1, hf⟩ := grd_some hf
  refine r_iald hX (MK4 hW) (ML4 hW) hi1 dX7_addLimb_118 ?_
  refine r_iconst hX dX7_addLimb_119 (v := (1 : Int32)) (by decide) ?_
  refine r_isub hX dX7_addLimb_120 ?_
  cases hf
  exact r_iret hX dX7_addLimb_121
set_option maxRecDepth 20000 in
set_option maxHeartbeats 2000000 in
theorem wX7_addLimb_b103 {X : Cx} {w : Wp} {σ : St} {r : Int32} {σ' : St}  {x1 : Int32} (hX : OK X w cX7_addLimb 6 RX7 (some .int) (rmz 2 44) (Qi w σ' r)) (hW : MW w)   (hf : fX7_addLimb_b103 σ x1 = some (r, σ')) : J X w 6 σ 103 [(0, rf w 0), (1, .int x1)] [] := by
  rw [fX7_addLimb_b103] at hf
  refine r_aload_n hX dX7_addLimb_103 rfl 0 rfl ?_
  refine r_get hX cls7 (MK0 hW) (by decide) (ce8 (MK0 hW)) 5 (by decide) g3_66 rfl dX7_addLimb_104 (rf w 4) rfl ?_
  refine r_iload_n hX dX7_addLimb_107 rfl 1 rfl ?_
  refine r_dup2 hX dX7_addLimb_108 rfl rfl ?_
  obtain ⟨hi2, hf⟩ := grd_some hf
  refine r_iald hX (MK4 hW) (ML4 hW) hi2 dX7_addLimb_109 ?_
  refine r_iconst hX dX7_addLimb_110 (v := (1 : Int32)) (by decide) ?_
  refine r_iadd hX dX7_addLimb_111 ?_
  obtain ⟨hi1, hf⟩ := grd_some hf
  refine r_iast hX (MK4 hW) (ML4 hW) hi1 dX7_addLimb_112 ?_
  exact J.sub [0, 1] rfl (wX7_addLimb_b113 hX hW   hf)
set_option maxRecDepth 20000 in
set_option maxHeartbeats 2000000 in
theorem wX7_addLimb_b94 {X : Cx} {w : Wp} {σ : St} {r : Int32} {σ' : St}  {x1 : Int32} {x4 : Int32} {x5 : Int32} (hX : OK X w cX7_addLimb 6 RX7 (some .int) (rmz 2 44) (Qi w σ' r)) (hW : MW w)   (hf : fX7_addLimb_b94 σ x1 x4 x5 = some (r, σ')) : J X w 6 σ 94 [(0, rf w 0), (1, .int x1), (4, .int x4), (5, .int x5)] [] := by
  rw [fX7_addLimb_b94] at hf
  refine r_aload_n hX dX7_addLimb_94 rfl 0 rfl ?_
  refine r_get hX cls7 (MK0 hW) (by decide) (ce8 (MK0 hW)) 8 (by decide) g3_69 rfl dX7_addLimb_95 (rf w 7) rfl ?_
  refine r_iload hX dX7_addLimb_98 3 rfl ?_
  refine r_iload hX dX7_addLimb_100 2 rfl ?_
  obtain ⟨hi1, hf⟩ := grd_some hf
  refine r_iast hX (MK7 hW) (ML7 hW) hi1 dX7_addLimb_102 ?_
  exact J.sub [0, 1] rfl (wX7_addLimb_b103 hX hW   hf)
set_option maxRecDepth 20000 in
set_option maxHeartbeats 2000000 in
theorem wX7_addLimb_b86 {X : Cx} {w : Wp} {σ : St} {r : Int32} {σ' : St}  {x1 : Int32} {x3 : Int32} {x4 : Int32} {x5 : Int32} (hX : OK X w cX7_addLimb 6 RX7 (some .int) (rmz 2 44) (Qi w σ' r)) (hW : MW w)   (hf : fX7_addLimb_b86 σ x1 x3 x4 x5 = some (r, σ')) : J X w 6 σ 86 [(0, rf w 0), (1, .int x1), (3, .int x3), (4, .int x4), (5, .int x5)] [] := by
  rw [fX7_addLimb_b86] at hf
  refine r_aload_n hX dX7_addLimb_86 rfl 0 rfl ?_
  refine r_get hX cls7 (MK0 hW) (by decide) (ce8 (MK0 hW)) 7 (by decide) g3_68 rfl dX7_addLimb_87 (rf w 6) rfl ?_
  refine r_iload hX dX7_addLimb_90 4 rfl ?_
  refine r_iload_n hX dX7_addLimb_92 rfl 2 rfl ?_
  obtain ⟨hi1, hf⟩ := grd_some hf
  refine r_iast hX (MK6 hW) (ML6 hW) hi1 dX7_addLimb_93 ?_
  exact J.sub [0, 1, 3, 4] rfl (wX7_addLimb_b94 hX hW   hf)
set_option maxRecDepth 20000 in
set_option maxHeartbeats 2000000 in
theorem wX7_addLimb_b27 {X : Cx} {w : Wp} {σ : St} {r : Int32} {σ' : St}  {x1 : Int32} {x2 : Int32} {x3 : Int32} {x4 : Int32} (hX : OK X w cX7_addLimb 6 RX7 (some .int) (rmz 2 44) (Qi w σ' r)) (hW : MW w)   (hf : fX7_addLimb_b27 σ x1 x2 x3 x4 = some (r, σ')) : J X w 6 σ 27 [(0, rf w 0), (1, .int x1), (2, .int x2), (3, .int x3), (4, .int x4)] [] := by
  rw [fX7_addLimb_b27] at hf
  refine r_iload_n hX dX7_addLimb_27 rfl 3 rfl ?_
  refine r_iconst hX dX7_addLimb_28 (v := (1 : Int32)) (by decide) ?_
  refine r_bipush hX dX7_addLimb_29 (v := (20 : Int32)) (by decide) ?_
  refine J.callz (fun H locs ls a b c => runS hX miX7_in (cX7_in_ok (xl X)  rfl) g3_148 g3_149 ⟨Nat.le_of_ble_eq_true rfl, Nat.le_of_ble_eq_true rfl⟩ dX7_addLimb_31 rfl (As := [.int x3, .int (1 : Int32), .int (20 : Int32)]) (rest := []) rfl (Nat.le_of_ble_eq_true rfl) a b c) (fun hz1 => ?_)
  refine r_if_eq hX dX7_addLimb_34 (tgt := 48) (by decide) (fun h => ?_) (fun h => ?_)
  · have hf := ite_t h hf
    refine r_bipush hX dX7_addLimb_48 (v := (-3 : Int32)) (by decide) ?_
    cases hf
    exact r_iret hX dX7_addLimb_50
  · have hf := ite_f h hf
    refine r_iload hX dX7_addLimb_37 4 rfl ?_
    refine r_iconst hX dX7_addLimb_39 (v := (0 : Int32)) (by decide) ?_
    refine r_bipush hX dX7_addLimb_40 (v := (7 : Int32)) (by decide) ?_
    refine J.callz (fun H locs ls a b c => runS hX miX7_in (cX7_in_ok (xl X)  rfl) g3_148 g3_149 ⟨Nat.le_of_ble_eq_true rfl, Nat.le_of_ble_eq_true rfl⟩ dX7_addLimb_42 rfl (As := [.int x4, .int (0 : Int32), .int (7 : Int32)]) (rest := []) rfl (Nat.le_of_ble_eq_true rfl) a b c) (fun hz2 => ?_)
    refine r_if_ne hX dX7_addLimb_45 (tgt := 51) (by decide) (fun h => ?_) (fun h => ?_)
    · have hf := ite_f h hf
      refine r_aload_n hX dX7_addLimb_51 rfl 0 rfl ?_
      refine r_get hX cls7 (MK0 hW) (by decide) (ce8 (MK0 hW)) 5 (by decide) g3_66 rfl dX7_addLimb_52 (rf w 4) rfl ?_
      refine r_iload_n hX dX7_addLimb_55 rfl 1 rfl ?_
      obtain ⟨hi5, hf⟩ := grd_some hf
      refine r_iald hX (MK4 hW) (ML4 hW) hi5 dX7_addLimb_56 ?_
      refine r_bipush hX dX7_addLimb_57 (v := (8 : Int32)) (by decide) ?_
      refine r_icmp_ne hX dX7_addLimb_59 (tgt := 65) (by decide) (fun h => ?_) (fun h => ?_)
      · have hf := ite_f h hf
        refine r_bipush hX dX7_addLimb_65 (v := (8 : Int32)) (by decide) ?_
        refine r_iload_n hX dX7_addLimb_67 rfl 1 rfl ?_
        refine r_imul hX dX7_addLimb_68 ?_
        refine r_aload_n hX dX7_addLimb_69 rfl 0 rfl ?_
        refine r_get hX cls7 (MK0 hW) (by decide) (ce8 (MK0 hW)) 5 (by decide) g3_66 rfl dX7_addLimb_70 (rf w 4) rfl ?_
        refine r_iload_n hX dX7_addLimb_73 rfl 1 rfl ?_
        obtain ⟨hi4, hf⟩ := grd_some hf
        refine r_iald hX (MK4 hW) (ML4 hW) hi4 dX7_addLimb_74 ?_
        refine r_iadd hX dX7_addLimb_75 ?_
        refine r_istore hX (i := 5) dX7_addLimb_76 (by decide) rfl ?_
        refine r_aload_n hX dX7_addLimb_78 rfl 1 rfl ?_
        refine r_get hX cls7 (MK0 hW) (by decide) (ce8 (MK0 hW)) 6 (by decide) g3_67 rfl dX7_addLimb_79 (rf w 5) rfl ?_
        refine r_iload hX dX7_addLimb_82 0 rfl ?_
        refine r_iload_n hX dX7_addLimb_84 rfl 3 rfl ?_
        obtain ⟨hi3, hf⟩ := grd_some hf
        refine r_iast hX (MK5 hW) (ML5 hW) hi3 dX7_addLimb_85 ?_
        exact J.sub [1, 2, 4, 5, 0] rfl (wX7_addLimb_b86 hX hW   hf)
      · have hf := ite_t h hf
        refine r_bipush hX dX7_addLimb_62 (v := (-4 : Int32)) (by decide) ?_
        cases hf
        exact r_iret hX dX7_addLimb_64
    · have hf := ite_t h hf
      refine r_bipush hX dX7_addLimb_48 (v := (-3 : Int32)) (by decide) ?_
      cases hf
      exact r_iret hX dX7_addLimb_50
set_option maxRecDepth 20000 in
set_option maxHeartbeats 2000000 in
theorem wX7_addLimb_b0 {X : Cx} {w : Wp} {σ : St} {r : Int32} {σ' : St}  {x1 : Int32} {x2 : Int32} {x3 : Int32} {x4 : Int32} (hX : OK X w cX7_addLimb 6 RX7 (some .int) (rmz 2 44) (Qi w σ' r)) (hW : MW w)   (hf : fX7_addLimb σ x1 x2 x3 x4 = some (r, σ')) : J X w 6 σ 0 [(0, rf w 0), (1, .int x1), (2, .int x2), (3, .int x3), (4, .int x4)] [] := by
  rw [fX7_addLimb] at hf
  refine r_aload_n hX dX7_addLimb_0 rfl 0 rfl ?_
  refine r_iload_n hX dX7_addLimb_1 rfl 1 rfl ?_
  refine J.callz (fun H locs ls a b c => runV hX miX7_noFigure (As := [.int x1]) (cX7_noFigure_ok (xl X) hW  rfl) g3_159 g3_161 gs_17 cls7 (MK0 hW) (by decide) (ce8 (MK0 hW)) ⟨Nat.le_of_ble_eq_true rfl, Nat.le_of_ble_eq_true rfl⟩ dX7_addLimb_2 rfl (rest := []) rfl (Nat.le_of_ble_eq_true rfl) a b c) (fun hz1 => ?_)
  refine r_if_eq hX dX7_addLimb_5 (tgt := 10) (by decide) (fun h => ?_) (fun h => ?_)
  · have hf := ite_t h hf
    refine r_iload_n hX dX7_addLimb_10 rfl 2 rfl ?_
    refine r_iconst hX dX7_addLimb_11 (v := (-1 : Int32)) (by decide) ?_
    refine r_icmp_eq hX dX7_addLimb_12 (tgt := 27) (by decide) (fun h => ?_) (fun h => ?_)
    · have hf := ite_t h hf
      exact J.sub [0, 1, 2, 3, 4] rfl (wX7_addLimb_b27 hX hW   hf)
    · have hf := ite_f h hf
      refine r_aload_n hX dX7_addLimb_15 rfl 0 rfl ?_
      refine r_iload_n hX dX7_addLimb_16 rfl 1 rfl ?_
      refine r_iload_n hX dX7_addLimb_17 rfl 2 rfl ?_
      obtain ⟨r2, hr4, hf⟩ := bd_s hf
      refine J.callz (fun H locs ls a b c => runV hX miX7_noLimb (As := [.int x1, .int x2]) (cX7_noLimb_ok (xl X) hW  hr4) g3_163 g3_165 gs_18 cls7 (MK0 hW) (by decide) (ce8 (MK0 hW)) ⟨Nat.le_of_ble_eq_true rfl, Nat.le_of_ble_eq_true rfl⟩ dX7_addLimb_18 rfl (rest := []) rfl (Nat.le_of_ble_eq_true rfl) a b c) (fun hz3 => ?_)
      refine r_if_eq hX dX7_addLimb_21 (tgt := 27) (by decide) (fun h => ?_) (fun h => ?_)
      · have hf := ite_t h hf
        exact J.sub [0, 1, 2, 3, 4] rfl (wX7_addLimb_b27 hX hW   hf)
      · have hf := ite_f h hf
        refine r_bipush hX dX7_addLimb_24 (v := (-2 : Int32)) (by decide) ?_
        cases hf
        exact r_iret hX dX7_addLimb_26
  · have hf := ite_f h hf
    refine r_iconst hX dX7_addLimb_8 (v := (-1 : Int32)) (by decide) ?_
    cases hf
    exact r_iret hX dX7_addLimb_9
theorem miX7_addLimb : MI yX7_addLimb cX7_addLimb 6 (some .int) 4 := ⟨g3_158, ⟨by decide, by decide, by decide +kernel⟩, g1_6, by decide +kernel⟩
theorem cX7_addLimb_ok (l : Launch) {w : Wp} {σ : St} {r : Int32} {σ' : St} {x1 : Int32} {x2 : Int32} {x3 : Int32} {x4 : Int32} (hW : MW w)  (hf : fX7_addLimb σ x1 x2 x3 x4 = some (r, σ')) : CM l w yX7_addLimb cX7_addLimb 6 (some .int) (rmz 2 44) [rf w 0, .int x1, .int x2, .int x3, .int x4] σ (Qi w σ' r) := CM.of miX7_addLimb.2.2.2 (Nat.le_of_ble_eq_true rfl) (fun X hcl hX => J.sub [0, 1, 2, 3, 4] rfl (wX7_addLimb_b0 hX hW  hf))
-- X7_count
set_option maxRecDepth 20000 in
set_option maxHeartbeats 2000000 in
theorem wX7_count_L4 {X : Cx} {w : Wp} {σ : St} {r : Int32}  (hX : OK X w cX7_count 4 RX7 (some .int) (rmz 0 0) (Qi w σ r)) (hW : MW w)  : ∀ (n : Nat) (x1 : Int32) (x2 : Int32) (x3 : Int32), fX7_count_L4 σ n x1 x2 x3 = some r → J X w 4 σ 4 [(0, rf w 0), (1, .int x1), (2, .int x2), (3, .int x3)] [] := by
  intro n
  induction n with
  | zero =>
    intro x1 x2 x3 hf
    cases hf
  | succ n ih =>
    intro x1 x2 x3 hf
    rw [fX7_count_L4] at hf
    refine r_iload_n hX dX7_count_4 rfl 3 rfl ?_
    refine r_aload_n hX dX7_count_5 rfl 0 rfl ?_
    refine r_get hX cls7 (MK0 hW) (by decide) (ce8 (MK0 hW)) 1 (by decide) g3_62 rfl dX7_count_6 (.int (σ.1 0 1)) rfl ?_
    refine r_icmp_ge hX dX7_count_9 (tgt := 27) (by decide) (fun h => ?_) (fun h => ?_)
    · have hf := ite_t h hf
      refine r_iload_n hX dX7_count_27 rfl 1 rfl ?_
      refine r_if_ne hX dX7_count_28 (tgt := 38) (by decide) (fun h => ?_) (fun h => ?_)
      · have hf := ite_f h hf
        refine r_iload_n hX dX7_count_38 rfl 1 rfl ?_
        refine r_iconst hX dX7_count_39 (v := (1 : Int32)) (by decide) ?_
        refine r_icmp_ne hX dX7_count_40 (tgt := 50) (by decide) (fun h => ?_) (fun h => ?_)
        · have hf := ite_f h hf
          refine r_iload_n hX dX7_count_50 rfl 1 rfl ?_
          refine r_iconst hX dX7_count_51 (v := (2 : Int32)) (by decide) ?_
          refine r_icmp_ne hX dX7_count_52 (tgt := 62) (by decide) (fun h => ?_) (fun h => ?_)
          · have hf := ite_f h hf
            refine r_iload_n hX dX7_count_62 rfl 1 rfl ?_
            refine r_iconst hX dX7_count_63 (v := (3 : Int32)) (by decide) ?_
            refine r_icmp_ne hX dX7_count_64 (tgt := 71) (by decide) (fun h => ?_) (fun h => ?_)
            · have hf := ite_f h hf
              refine r_bipush hX dX7_count_71 (v := (-3 : Int32)) (by decide) ?_
              cases hf
              exact r_iret hX dX7_count_73
            · have hf := ite_t h hf
              refine r_iload_n hX dX7_count_67 rfl 2 rfl ?_
              refine r_goto hX dX7_count_68 (tgt := 73) (by decide) ?_
              cases hf
              exact r_iret hX dX7_count_73
          · have hf := ite_t h hf
            refine r_aload_n hX dX7_count_55 rfl 0 rfl ?_
            refine r_get hX cls7 (MK0 hW) (by decide) (ce8 (MK0 hW)) 23 (by decide) g3_84 rfl dX7_count_56 (.int (σ.1 0 23)) rfl ?_
            refine r_goto hX dX7_count_59 (tgt := 73) (by decide) ?_
            cases hf
            exact r_iret hX dX7_count_73
        · have hf := ite_t h hf
          refine r_aload_n hX dX7_count_43 rfl 0 rfl ?_
          refine r_get hX cls7 (MK0 hW) (by decide) (ce8 (MK0 hW)) 9 (by decide) g3_70 rfl dX7_count_44 (.int (σ.1 0 9)) rfl ?_
          refine r_goto hX dX7_count_47 (tgt := 73) (by decide) ?_
          cases hf
          exact r_iret hX dX7_count_73
      · have hf := ite_t h hf
        refine r_aload_n hX dX7_count_31 rfl 0 rfl ?_
        refine r_get hX cls7 (MK0 hW) (by decide) (ce8 (MK0 hW)) 1 (by decide) g3_62 rfl dX7_count_32 (.int (σ.1 0 1)) rfl ?_
        refine r_goto hX dX7_count_35 (tgt := 73) (by decide) ?_
        cases hf
        exact r_iret hX dX7_count_73
    · have hf := ite_f h hf
      refine r_iload_n hX dX7_count_12 rfl 2 rfl ?_
      refine r_aload_n hX dX7_count_13 rfl 0 rfl ?_
      refine r_get hX cls7 (MK0 hW) (by decide) (ce8 (MK0 hW)) 5 (by decide) g3_66 rfl dX7_count_14 (rf w 4) rfl ?_
      refine r_iload_n hX dX7_count_17 rfl 3 rfl ?_
      obtain ⟨hi1, hf⟩ := grd_some hf
      refine r_iald hX (MK4 hW) (ML4 hW) hi1 dX7_count_18 ?_
      refine r_iadd hX dX7_count_19 ?_
      refine r_istore_n hX (i := 2) dX7_count_20 rfl (by decide) rfl ?_
      refine r_iincC hX dX7_count_21 3 rfl (d := (1 : Int32)) (by decide) (by decide) rfl ?_
      refine r_goto hX dX7_count_24 (tgt := 4) (by decide) ?_
      exact J.sub [2, 3, 1, 0] rfl (ih _ _ _  hf)
set_option maxRecDepth 20000 in
set_option maxHeartbeats 2000000 in
theorem wX7_count_b0 {X : Cx} {w : Wp} {σ : St} {r : Int32}  {x1 : Int32} (hX : OK X w cX7_count 4 RX7 (some .int) (rmz 0 0) (Qi w σ r)) (hW : MW w)   (hf : fX7_count σ x1 = some r) : J X w 4 σ 0 [(0, rf w 0), (1, .int x1)] [] := by
  rw [fX7_count] at hf
  refine r_iconst hX dX7_count_0 (v := (0 : Int32)) (by decide) ?_
  refine r_istore_n hX (i := 2) dX7_count_1 rfl (by decide) rfl ?_
  refine r_iconst hX dX7_count_2 (v := (0 : Int32)) (by decide) ?_
  refine r_istore_n hX (i := 3) dX7_count_3 rfl (by decide) rfl ?_
  exact J.sub [2, 3, 1, 0] rfl (wX7_count_L4 hX hW  _ _ _ _  hf)
theorem miX7_count : MI yX7_count cX7_count 4 (some .int) 1 := ⟨g3_170, ⟨by decide, by decide, by decide +kernel⟩, g1_6, by decide +kernel⟩
theorem cX7_count_ok (l : Launch) {w : Wp} {σ : St} {r : Int32} {x1 : Int32} (hW : MW w)  (hf : fX7_count σ x1 = some r) : CM l w yX7_count cX7_count 4 (some .int) (rmz 0 0) [rf w 0, .int x1] σ (Qi w σ r) := CM.of miX7_count.2.2.2 (Nat.le_of_ble_eq_true rfl) (fun X hcl hX => J.sub [0, 1] rfl (wX7_count_b0 hX hW  hf))
-- X7_addMove
set_option maxRecDepth 20000 in
set_option maxHeartbeats 2000000 in
theorem wX7_addMove_b85 {X : Cx} {w : Wp} {σ : St} {r : Int32} {σ' : St}   (hX : OK X w cX7_addMove 7 RX7 (some .int) (rmz 0 0) (Qi w σ' r)) (hW : MW w)   (hf : fX7_addMove_b85 σ = some (r, σ')) : J X w 7 σ 85 [(0, rf w 0)] [] := by
  rw [fX7_addMove_b85] at hf
  refine r_aload_n hX dX7_addMove_85 rfl 0 rfl ?_
  refine r_get hX cls7 (MK0 hW) (by decide) (ce8 (MK0 hW)) 9 (by decide) g3_70 rfl dX7_addMove_86 (.int (σ.1 0 9)) rfl ?_
  refine r_iconst hX dX7_addMove_89 (v := (1 : Int32)) (by decide) ?_
  refine r_isub hX dX7_addMove_90 ?_
  cases hf
  exact r_iret hX dX7_addMove_91
set_option maxRecDepth 20000 in
set_option maxHeartbeats 2000000 in
theorem wX7_addMove_b75 {X : Cx} {w : Wp} {σ : St} {r : Int32} {σ' : St}   (hX : OK X w cX7_addMove 7 RX7 (some .int) (rmz 0 0) (Qi w σ' r)) (hW : MW w)   (hf : fX7_addMove_b75 σ = some (r, σ')) : J X w 7 σ 75 [(0, rf w 0)] [] := by
  rw [fX7_addMove_b75] at hf
  refine r_aload_n hX dX7_addMove_75 rfl 0 rfl ?_
  refine r_dup hX dX7_addMove_76 rfl ?_
  refine r_get hX cls7 (MK0 hW) (by decide) (ce8 (MK0 hW)) 9 (by decide) g3_70 rfl dX7_addMove_77 (.int (σ.1 0 9)) rfl ?_
  refine r_iconst hX dX7_addMove_80 (v := (1 : Int32)) (by decide) ?_
  refine r_iadd hX dX7_addMove_81 ?_
  refine r_putI hX cls7 (MK0 hW) (by decide) (fun _ _ _ => ce8 (MK0 hW)) 9 (by decide) g3_70 rfl rfl (tyX7_ok 9 (by decide)) (fun _ _ => Nat.le_of_ble_eq_true rfl) dX7_addMove_82 (fun _ _ => rfl) ?_
  exact J.sub [0] rfl (wX7_addMove_b85 hX hW   hf)
set_option maxRecDepth 20000 in
set_option maxHeartbeats 2000000 in
theorem wX7_addMove_b64 {X : Cx} {w : Wp} {σ : St} {r : Int32} {σ' : St}  {x6 : Int32} (hX : OK X w cX7_addMove 7 RX7 (some .int) (rmz 0 0) (Qi w σ' r)) (hW : MW w)   (hf : fX7_addMove_b64 σ x6 = some (r, σ')) : J X w 7 σ 64 [(0, rf w 0), (6, .int x6)] [] := by
  rw [fX7_addMove_b64] at hf
  refine r_aload_n hX dX7_addMove_64 rfl 0 rfl ?_
  refine r_get hX cls7 (MK0 hW) (by decide) (ce8 (MK0 hW)) 15 (by decide) g3_76 rfl dX7_addMove_65 (rf w 13) rfl ?_
  refine r_aload_n hX dX7_addMove_68 rfl 0 rfl ?_
  refine r_get hX cls7 (MK0 hW) (by decide) (ce8 (MK0 hW)) 9 (by decide) g3_70 rfl dX7_addMove_69 (.int (σ.1 0 9)) rfl ?_
  refine r_iload hX dX7_addMove_72 1 rfl ?_
  obtain ⟨hi1, hf⟩ := grd_some hf
  refine r_iast hX (MK13 hW) (ML13 hW) hi1 dX7_addMove_74 ?_
  exact J.sub [0] rfl (wX7_addMove_b75 hX hW   hf)
set_option maxRecDepth 20000 in
set_option maxHeartbeats 2000000 in
theorem wX7_addMove_b53 {X : Cx} {w : Wp} {σ : St} {r : Int32} {σ' : St}  {x5 : Int32} {x6 : Int32} (hX : OK X w cX7_addMove 7 RX7 (some .int) (rmz 0 0) (Qi w σ' r)) (hW : MW w)   (hf : fX7_addMove_b53 σ x5 x6 = some (r, σ')) : J X w 7 σ 53 [(0, rf w 0), (5, .int x5), (6, .int x6)] [] := by
  rw [fX7_addMove_b53] at hf
  refine r_aload_n hX dX7_addMove_53 rfl 0 rfl ?_
  refine r_get hX cls7 (MK0 hW) (by decide) (ce8 (MK0 hW)) 14 (by decide) g3_75 rfl dX7_addMove_54 (rf w 12) rfl ?_
  refine r_aload_n hX dX7_addMove_57 rfl 0 rfl ?_
  refine r_get hX cls7 (MK0 hW) (by decide) (ce8 (MK0 hW)) 9 (by decide) g3_70 rfl dX7_addMove_58 (.int (σ.1 0 9)) rfl ?_
  refine r_iload hX dX7_addMove_61 1 rfl ?_
  obtain ⟨hi1, hf⟩ := grd_some hf
  refine r_iast hX (MK12 hW) (ML12 hW) hi1 dX7_addMove_63 ?_
  exact J.sub [0, 2] rfl (wX7_addMove_b64 hX hW   hf)
set_option maxRecDepth 20000 in
set_option maxHeartbeats 2000000 in
theorem wX7_addMove_b42 {X : Cx} {w : Wp} {σ : St} {r : Int32} {σ' : St}  {x4 : Int32} {x5 : Int32} {x6 : Int32} (hX : OK X w cX7_addMove 7 RX7 (some .int) (rmz 0 0) (Qi w σ' r)) (hW : MW w)   (hf : fX7_addMove_b42 σ x4 x5 x6 = some (r, σ')) : J X w 7 σ 42 [(0, rf w 0), (4, .int x4), (5, .int x5), (6, .int x6)] [] := by
  rw [fX7_addMove_b42] at hf
  refine r_aload_n hX dX7_addMove_42 rfl 0 rfl ?_
  refine r_get hX cls7 (MK0 hW) (by decide) (ce8 (MK0 hW)) 13 (by decide) g3_74 rfl dX7_addMove_43 (rf w 11) rfl ?_
  refine r_aload_n hX dX7_addMove_46 rfl 0 rfl ?_
  refine r_get hX cls7 (MK0 hW) (by decide) (ce8 (MK0 hW)) 9 (by decide) g3_70 rfl dX7_addMove_47 (.int (σ.1 0 9)) rfl ?_
  refine r_iload hX dX7_addMove_50 1 rfl ?_
  obtain ⟨hi1, hf⟩ := grd_some hf
  refine r_iast hX (MK11 hW) (ML11 hW) hi1 dX7_addMove_52 ?_
  exact J.sub [0, 2, 3] rfl (wX7_addMove_b53 hX hW   hf)
set_option maxRecDepth 20000 in
set_option maxHeartbeats 2000000 in
theorem wX7_addMove_b32 {X : Cx} {w : Wp} {σ : St} {r : Int32} {σ' : St}  {x3 : Int32} {x4 : Int32} {x5 : Int32} {x6 : Int32} (hX : OK X w cX7_addMove 7 RX7 (some .int) (rmz 0 0) (Qi w σ' r)) (hW : MW w)   (hf : fX7_addMove_b32 σ x3 x4 x5 x6 = some (r, σ')) : J X w 7 σ 32 [(0, rf w 0), (3, .int x3), (4, .int x4), (5, .int x5), (6, .int x6)] [] := by
  rw [fX7_addMove_b32] at hf
  refine r_aload_n hX dX7_addMove_32 rfl 0 rfl ?_
  refine r_get hX cls7 (MK0 hW) (by decide) (ce8 (MK0 hW)) 12 (by decide) g3_73 rfl dX7_addMove_33 (rf w 10) rfl ?_
  refine r_aload_n hX dX7_addMove_36 rfl 0 rfl ?_
  refine r_get hX cls7 (MK0 hW) (by decide) (ce8 (MK0 hW)) 9 (by decide) g3_70 rfl dX7_addMove_37 (.int (σ.1 0 9)) rfl ?_
  refine r_iload_n hX dX7_addMove_40 rfl 1 rfl ?_
  obtain ⟨hi1, hf⟩ := grd_some hf
  refine r_iast hX (MK10 hW) (ML10 hW) hi1 dX7_addMove_41 ?_
  exact J.sub [0, 2, 3, 4] rfl (wX7_addMove_b42 hX hW   hf)
set_option maxRecDepth 20000 in
set_option maxHeartbeats 2000000 in
theorem wX7_addMove_b22 {X : Cx} {w : Wp} {σ : St} {r : Int32} {σ' : St}  {x2 : Int32} {x3 : Int32} {x4 : Int32} {x5 : Int32} {x6 : Int32} (hX : OK X w cX7_addMove 7 RX7 (some .int) (rmz 0 0) (Qi w σ' r)) (hW : MW w)   (hf : fX7_addMove_b22 σ x2 x3 x4 x5 x6 = some (r, σ')) : J X w 7 σ 22 [(0, rf w 0), (2, .int x2), (3, .int x3), (4, .int x4), (5, .int x5), (6, .int x6)] [] := by
  rw [fX7_addMove_b22] at hf
  refine r_aload_n hX dX7_addMove_22 rfl 0 rfl ?_
  refine r_get hX cls7 (MK0 hW) (by decide) (ce8 (MK0 hW)) 11 (by decide) g3_72 rfl dX7_addMove_23 (rf w 9) rfl ?_
  refine r_aload_n hX dX7_addMove_26 rfl 0 rfl ?_
  refine r_get hX cls7 (MK0 hW) (by decide) (ce8 (MK0 hW)) 9 (by decide) g3_70 rfl dX7_addMove_27 (.int (σ.1 0 9)) rfl ?_
  refine r_iload_n hX dX7_addMove_30 rfl 1 rfl ?_
  obtain ⟨hi1, hf⟩ := grd_some hf
  refine r_iast hX (MK9 hW) (ML9 hW) hi1 dX7_addMove_31 ?_
  exact J.sub [0, 2, 3, 4, 5] rfl (wX7_addMove_b32 hX hW   hf)
set_option maxRecDepth 20000 in
set_option maxHeartbeats 2000000 in
theorem wX7_addMove_b0 {X : Cx} {w : Wp} {σ : St} {r : Int32} {σ' : St}  {x1 : Int32} {x2 : Int32} {x3 : Int32} {x4 : Int32} {x5 : Int32} {x6 : Int32} (hX : OK X w cX7_addMove 7 RX7 (some .int) (rmz 0 0) (Qi w σ' r)) (hW : MW w)   (hf : fX7_addMove σ x1 x2 x3 x4 x5 x6 = some (r, σ')) : J X w 7 σ 0 [(0, rf w 0), (1, .int x1), (2, .int x2), (3, .int x3), (4, .int x4), (5, .int x5), (6, .int x6)] [] := by
  rw [fX7_addMove] at hf
  refine r_aload_n hX dX7_addMove_0 rfl 0 rfl ?_
  refine r_get hX cls7 (MK0 hW) (by decide) (ce8 (MK0 hW)) 9 (by decide) g3_70 rfl dX7_addMove_1 (.int (σ.1 0 9)) rfl ?_
  refine r_bipush hX dX7_addMove_4 (v := (60 : Int32)) (by decide) ?_
  refine r_icmp_ne hX dX7_addMove_6 (tgt := 12) (by decide) (fun h => ?_) (fun h => ?_)
  · have hf := ite_f h hf
    refine r_aload_n hX dX7_addMove_12 rfl 0 rfl ?_
    refine r_get hX cls7 (MK0 hW) (by decide) (ce8 (MK0 hW)) 10 (by decide) g3_71 rfl dX7_addMove_13 (rf w 8) rfl ?_
    refine r_aload_n hX dX7_addMove_16 rfl 0 rfl ?_
    refine r_get hX cls7 (MK0 hW) (by decide) (ce8 (MK0 hW)) 9 (by decide) g3_70 rfl dX7_addMove_17 (.int (σ.1 0 9)) rfl ?_
    refine r_iload_n hX dX7_addMove_20 rfl 1 rfl ?_
    obtain ⟨hi1, hf⟩ := grd_some hf
    refine r_iast hX (MK8 hW) (ML8 hW) hi1 dX7_addMove_21 ?_
    exact J.sub [0, 2, 3, 4, 5, 6] rfl (wX7_addMove_b22 hX hW   hf)
  · have hf := ite_t h hf
    refine r_bipush hX dX7_addMove_9 (v := (-4 : Int32)) (by decide) ?_
    cases hf
    exact r_iret hX dX7_addMove_11
theorem miX7_addMove : MI yX7_addMove cX7_addMove 7 (some .int) 6 := ⟨g3_181, ⟨by decide, by decide, by decide +kernel⟩, g1_6, by decide +kernel⟩
theorem cX7_addMove_ok (l : Launch) {w : Wp} {σ : St} {r : Int32} {σ' : St} {x1 : Int32} {x2 : Int32} {x3 : Int32} {x4 : Int32} {x5 : Int32} {x6 : Int32} (hW : MW w)  (hf : fX7_addMove σ x1 x2 x3 x4 x5 x6 = some (r, σ')) : CM l w yX7_addMove cX7_addMove 7 (some .int) (rmz 0 0) [rf w 0, .int x1, .int x2, .int x3, .int x4, .int x5, .int x6] σ (Qi w σ' r) := CM.of miX7_addMove.2.2.2 (Nat.le_of_ble_eq_true rfl) (fun X hcl hX => J.sub [0, 1, 2, 3, 4, 5, 6] rfl (wX7_addMove_b0 hX hW  hf))
-- X7_addTurn
set_option maxRecDepth 20000 in
set_option maxHeartbeats 2000000 in
theorem wX7_addTurn_b0 {X : Cx} {w : Wp} {σ : St} {r : Int32} {σ' : St}  {x1 : Int32} {x2 : Int32} {x3 : Int32} {x4 : Int32} (hX : OK X w cX7_addTurn 5 RX7 (some .int) (rmz 2 44) (Qi w σ' r)) (hW : MW w)   (hf : fX7_addTurn σ x1 x2 x3 x4 = some (r, σ')) : J X w 5 σ 0 [(0, rf w 0), (1, .int x1), (2, .int x2), (3, .int x3), (4, .int x4)] [] := by
  rw [fX7_addTurn] at hf
  refine r_aload_n hX dX7_addTurn_0 rfl 0 rfl ?_
  refine r_iload_n hX dX7_addTurn_1 rfl 2 rfl ?_
  refine J.callz (fun H locs ls a b c => runV hX miX7_noFigure (As := [.int x2]) (cX7_noFigure_ok (xl X) hW  rfl) g3_159 g3_161 gs_17 cls7 (MK0 hW) (by decide) (ce8 (MK0 hW)) ⟨Nat.le_of_ble_eq_true rfl, Nat.le_of_ble_eq_true rfl⟩ dX7_addTurn_2 rfl (rest := []) rfl (Nat.le_of_ble_eq_true rfl) a b c) (fun hz1 => ?_)
  refine r_if_eq hX dX7_addTurn_5 (tgt := 10) (by decide) (fun h => ?_) (fun h => ?_)
  · have hf := ite_t h hf
    refine r_aload_n hX dX7_addTurn_10 rfl 0 rfl ?_
    refine r_iload_n hX dX7_addTurn_11 rfl 2 rfl ?_
    refine r_iload_n hX dX7_addTurn_12 rfl 3 rfl ?_
    obtain ⟨r2, hr4, hf⟩ := bd_s hf
    refine J.callz (fun H locs ls a b c => runV hX miX7_noLimb (As := [.int x2, .int x3]) (cX7_noLimb_ok (xl X) hW  hr4) g3_163 g3_165 gs_18 cls7 (MK0 hW) (by decide) (ce8 (MK0 hW)) ⟨Nat.le_of_ble_eq_true rfl, Nat.le_of_ble_eq_true rfl⟩ dX7_addTurn_13 rfl (rest := []) rfl (Nat.le_of_ble_eq_true rfl) a b c) (fun hz3 => ?_)
    refine r_if_eq hX dX7_addTurn_16 (tgt := 22) (by decide) (fun h => ?_) (fun h => ?_)
    · have hf := ite_t h hf
      refine r_iload_n hX dX7_addTurn_22 rfl 1 rfl ?_
      refine J.callz (fun H locs ls a b c => runS hX miX7_isBeat (cX7_isBeat_ok (xl X)  rfl) g3_175 g3_176 ⟨Nat.le_of_ble_eq_true rfl, Nat.le_of_ble_eq_true rfl⟩ dX7_addTurn_23 rfl (As := [.int x1]) (rest := []) rfl (Nat.le_of_ble_eq_true rfl) a b c) (fun hz5 => ?_)
      refine r_if_eq hX dX7_addTurn_26 (tgt := 46) (by decide) (fun h => ?_) (fun h => ?_)
      · have hf := ite_t h hf
        refine r_bipush hX dX7_addTurn_46 (v := (-3 : Int32)) (by decide) ?_
        cases hf
        exact r_iret hX dX7_addTurn_48
      · have hf := ite_f h hf
        refine r_iload hX dX7_addTurn_29 4 rfl ?_
        refine r_bipush hX dX7_addTurn_31 (v := (-7 : Int32)) (by decide) ?_
        refine r_bipush hX dX7_addTurn_33 (v := (7 : Int32)) (by decide) ?_
        refine J.callz (fun H locs ls a b c => runS hX miX7_in (cX7_in_ok (xl X)  rfl) g3_148 g3_149 ⟨Nat.le_of_ble_eq_true rfl, Nat.le_of_ble_eq_true rfl⟩ dX7_addTurn_35 rfl (As := [.int x4, .int (-7 : Int32), .int (7 : Int32)]) (rest := []) rfl (Nat.le_of_ble_eq_true rfl) a b c) (fun hz6 => ?_)
        refine r_if_eq hX dX7_addTurn_38 (tgt := 46) (by decide) (fun h => ?_) (fun h => ?_)
        · have hf := ite_t h hf
          refine r_bipush hX dX7_addTurn_46 (v := (-3 : Int32)) (by decide) ?_
          cases hf
          exact r_iret hX dX7_addTurn_48
        · have hf := ite_f h hf
          refine r_iload hX dX7_addTurn_41 4 rfl ?_
          refine r_if_ne hX dX7_addTurn_43 (tgt := 49) (by decide) (fun h => ?_) (fun h => ?_)
          · have hf := ite_f h hf
            refine r_aload_n hX dX7_addTurn_49 rfl 0 rfl ?_
            refine r_iload_n hX dX7_addTurn_50 rfl 1 rfl ?_
            refine r_iload_n hX dX7_addTurn_51 rfl 2 rfl ?_
            refine r_iload_n hX dX7_addTurn_52 rfl 3 rfl ?_
            refine r_iload hX dX7_addTurn_53 4 rfl ?_
            refine r_iconst hX dX7_addTurn_55 (v := (0 : Int32)) (by decide) ?_
            refine r_iconst hX dX7_addTurn_56 (v := (0 : Int32)) (by decide) ?_
            obtain ⟨r7, σ8, hr9, hf⟩ := bd2_s hf
            refine J.calli (fun H locs ls a b c => runV hX miX7_addMove (As := [.int x1, .int x2, .int x3, .int x4, .int (0 : Int32), .int (0 : Int32)]) (cX7_addMove_ok (xl X) hW  hr9) g3_178 g3_180 gs_19 cls7 (MK0 hW) (by decide) (ce8 (MK0 hW)) ⟨Nat.le_of_ble_eq_true rfl, Nat.le_of_ble_eq_true rfl⟩ dX7_addTurn_57 rfl (rest := []) rfl (Nat.le_of_ble_eq_true rfl) a b c) ?_
            cases hf
            exact r_iret hX dX7_addTurn_60
          · have hf := ite_t h hf
            refine r_bipush hX dX7_addTurn_46 (v := (-3 : Int32)) (by decide) ?_
            cases hf
            exact r_iret hX dX7_addTurn_48
    · have hf := ite_f h hf
      refine r_bipush hX dX7_addTurn_19 (v := (-2 : Int32)) (by decide) ?_
      cases hf
      exact r_iret hX dX7_addTurn_21
  · have hf := ite_f h hf
    refine r_iconst hX dX7_addTurn_8 (v := (-1 : Int32)) (by decide) ?_
    cases hf
    exact r_iret hX dX7_addTurn_9
theorem miX7_addTurn : MI yX7_addTurn cX7_addTurn 5 (some .int) 4 := ⟨g3_174, ⟨by decide, by decide, by decide +kernel⟩, g1_6, by decide +kernel⟩
theorem cX7_addTurn_ok (l : Launch) {w : Wp} {σ : St} {r : Int32} {σ' : St} {x1 : Int32} {x2 : Int32} {x3 : Int32} {x4 : Int32} (hW : MW w)  (hf : fX7_addTurn σ x1 x2 x3 x4 = some (r, σ')) : CM l w yX7_addTurn cX7_addTurn 5 (some .int) (rmz 2 44) [rf w 0, .int x1, .int x2, .int x3, .int x4] σ (Qi w σ' r) := CM.of miX7_addTurn.2.2.2 (Nat.le_of_ble_eq_true rfl) (fun X hcl hX => J.sub [0, 1, 2, 3, 4] rfl (wX7_addTurn_b0 hX hW  hf))
-- X7_addShift
set_option maxRecDepth 20000 in
set_option maxHeartbeats 2000000 in
theorem wX7_addShift_b0 {X : Cx} {w : Wp} {σ : St} {r : Int32} {σ' : St}  {x1 : Int32} {x2 : Int32} {x3 : Int32} {x4 : Int32} {x5 : Int32} (hX : OK X w cX7_addShift 6 RX7 (some .int) (rmz 2 43) (Qi w σ' r)) (hW : MW w)   (hf : fX7_addShift σ x1 x2 x3 x4 x5 = some (r, σ')) : J X w 6 σ 0 [(0, rf w 0), (1, .int x1), (2, .int x2), (3, .int x3), (4, .int x4), (5, .int x5)] [] := by
  rw [fX7_addShift] at hf
  refine r_aload_n hX dX7_addShift_0 rfl 0 rfl ?_
  refine r_iload_n hX dX7_addShift_1 rfl 2 rfl ?_
  refine J.callz (fun H locs ls a b c => runV hX miX7_noFigure (As := [.int x2]) (cX7_noFigure_ok (xl X) hW  rfl) g3_159 g3_161 gs_17 cls7 (MK0 hW) (by decide) (ce8 (MK0 hW)) ⟨Nat.le_of_ble_eq_true rfl, Nat.le_of_ble_eq_true rfl⟩ dX7_addShift_2 rfl (rest := []) rfl (Nat.le_of_ble_eq_true rfl) a b c) (fun hz1 => ?_)
  refine r_if_eq hX dX7_addShift_5 (tgt := 10) (by decide) (fun h => ?_) (fun h => ?_)
  · have hf := ite_t h hf
    refine r_iload_n hX dX7_addShift_10 rfl 1 rfl ?_
    refine J.callz (fun H locs ls a b c => runS hX miX7_isBeat (cX7_isBeat_ok (xl X)  rfl) g3_175 g3_176 ⟨Nat.le_of_ble_eq_true rfl, Nat.le_of_ble_eq_true rfl⟩ dX7_addShift_11 rfl (As := [.int x1]) (rest := []) rfl (Nat.le_of_ble_eq_true rfl) a b c) (fun hz2 => ?_)
    refine r_if_eq hX dX7_addShift_14 (tgt := 52) (by decide) (fun h => ?_) (fun h => ?_)
    · have hf := ite_t h hf
      refine r_bipush hX dX7_addShift_52 (v := (-3 : Int32)) (by decide) ?_
      cases hf
      exact r_iret hX dX7_addShift_54
    · have hf := ite_f h hf
      refine r_iload_n hX dX7_addShift_17 rfl 3 rfl ?_
      refine r_bipush hX dX7_addShift_18 (v := (-50 : Int32)) (by decide) ?_
      refine r_bipush hX dX7_addShift_20 (v := (50 : Int32)) (by decide) ?_
      refine J.callz (fun H locs ls a b c => runS hX miX7_in (cX7_in_ok (xl X)  rfl) g3_148 g3_149 ⟨Nat.le_of_ble_eq_true rfl, Nat.le_of_ble_eq_true rfl⟩ dX7_addShift_22 rfl (As := [.int x3, .int (-50 : Int32), .int (50 : Int32)]) (rest := []) rfl (Nat.le_of_ble_eq_true rfl) a b c) (fun hz3 => ?_)
      refine r_if_eq hX dX7_addShift_25 (tgt := 52) (by decide) (fun h => ?_) (fun h => ?_)
      · have hf := ite_t h hf
        refine r_bipush hX dX7_addShift_52 (v := (-3 : Int32)) (by decide) ?_
        cases hf
        exact r_iret hX dX7_addShift_54
      · have hf := ite_f h hf
        refine r_iload hX dX7_addShift_28 4 rfl ?_
        refine r_bipush hX dX7_addShift_30 (v := (-50 : Int32)) (by decide) ?_
        refine r_bipush hX dX7_addShift_32 (v := (50 : Int32)) (by decide) ?_
        refine J.callz (fun H locs ls a b c => runS hX miX7_in (cX7_in_ok (xl X)  rfl) g3_148 g3_149 ⟨Nat.le_of_ble_eq_true rfl, Nat.le_of_ble_eq_true rfl⟩ dX7_addShift_34 rfl (As := [.int x4, .int (-50 : Int32), .int (50 : Int32)]) (rest := []) rfl (Nat.le_of_ble_eq_true rfl) a b c) (fun hz4 => ?_)
        refine r_if_eq hX dX7_addShift_37 (tgt := 52) (by decide) (fun h => ?_) (fun h => ?_)
        · have hf := ite_t h hf
          refine r_bipush hX dX7_addShift_52 (v := (-3 : Int32)) (by decide) ?_
          cases hf
          exact r_iret hX dX7_addShift_54
        · have hf := ite_f h hf
          refine r_iload hX dX7_addShift_40 5 rfl ?_
          refine r_bipush hX dX7_addShift_42 (v := (-100 : Int32)) (by decide) ?_
          refine r_bipush hX dX7_addShift_44 (v := (100 : Int32)) (by decide) ?_
          refine J.callz (fun H locs ls a b c => runS hX miX7_in (cX7_in_ok (xl X)  rfl) g3_148 g3_149 ⟨Nat.le_of_ble_eq_true rfl, Nat.le_of_ble_eq_true rfl⟩ dX7_addShift_46 rfl (As := [.int x5, .int (-100 : Int32), .int (100 : Int32)]) (rest := []) rfl (Nat.le_of_ble_eq_true rfl) a b c) (fun hz5 => ?_)
          refine r_if_ne hX dX7_addShift_49 (tgt := 55) (by decide) (fun h => ?_) (fun h => ?_)
          · have hf := ite_f h hf
            refine r_aload_n hX dX7_addShift_55 rfl 0 rfl ?_
            refine r_iload_n hX dX7_addShift_56 rfl 1 rfl ?_
            refine r_iload_n hX dX7_addShift_57 rfl 2 rfl ?_
            refine r_iconst hX dX7_addShift_58 (v := (-1 : Int32)) (by decide) ?_
            refine r_iload_n hX dX7_addShift_59 rfl 3 rfl ?_
            refine r_iload hX dX7_addShift_60 4 rfl ?_
            refine r_iload hX dX7_addShift_62 5 rfl ?_
            obtain ⟨r6, σ7, hr8, hf⟩ := bd2_s hf
            refine J.calli (fun H locs ls a b c => runV hX miX7_addMove (As := [.int x1, .int x2, .int (-1 : Int32), .int x3, .int x4, .int x5]) (cX7_addMove_ok (xl X) hW  hr8) g3_178 g3_180 gs_19 cls7 (MK0 hW) (by decide) (ce8 (MK0 hW)) ⟨Nat.le_of_ble_eq_true rfl, Nat.le_of_ble_eq_true rfl⟩ dX7_addShift_64 rfl (rest := []) rfl (Nat.le_of_ble_eq_true rfl) a b c) ?_
            cases hf
            exact r_iret hX dX7_addShift_67
          · have hf := ite_t h hf
            refine r_bipush hX dX7_addShift_52 (v := (-3 : Int32)) (by decide) ?_
            cases hf
            exact r_iret hX dX7_addShift_54
  · have hf := ite_f h hf
    refine r_iconst hX dX7_addShift_8 (v := (-1 : Int32)) (by decide) ?_
    cases hf
    exact r_iret hX dX7_addShift_9
theorem miX7_addShift : MI yX7_addShift cX7_addShift 6 (some .int) 5 := ⟨g3_185, ⟨by decide, by decide, by decide +kernel⟩, g1_6, by decide +kernel⟩
theorem cX7_addShift_ok (l : Launch) {w : Wp} {σ : St} {r : Int32} {σ' : St} {x1 : Int32} {x2 : Int32} {x3 : Int32} {x4 : Int32} {x5 : Int32} (hW : MW w)  (hf : fX7_addShift σ x1 x2 x3 x4 x5 = some (r, σ')) : CM l w yX7_addShift cX7_addShift 6 (some .int) (rmz 2 43) [rf w 0, .int x1, .int x2, .int x3, .int x4, .int x5] σ (Qi w σ' r) := CM.of miX7_addShift.2.2.2 (Nat.le_of_ble_eq_true rfl) (fun X hcl hX => J.sub [0, 1, 2, 3, 4, 5] rfl (wX7_addShift_b0 hX hW  hf))
-- X7_removeMoves
set_option maxRecDepth 20000 in
set_option maxHeartbeats 2000000 in
theorem wX7_removeMoves_b25 {X : Cx} {w : Wp} {σ : St} {r : Int32} {σ' : St}   (hX : OK X w cX7_removeMoves 2 RX7 (some .int) (rmz 1 22) (Qi w σ' r)) (hW : MW w)   (hf : fX7_removeMoves_b25 σ = some (r, σ')) : J X w 2 σ 25 [(0, rf w 0)] [] := by
  rw [fX7_removeMoves_b25] at hf
  refine r_aload_n hX dX7_removeMoves_25 rfl 0 rfl ?_
  refine r_get hX cls7 (MK0 hW) (by decide) (ce8 (MK0 hW)) 9 (by decide) g3_70 rfl dX7_removeMoves_26 (.int (σ.1 0 9)) rfl ?_
  cases hf
  exact r_iret hX dX7_removeMoves_29
set_option maxRecDepth 20000 in
set_option maxHeartbeats 2000000 in
theorem wX7_removeMoves_b0 {X : Cx} {w : Wp} {σ : St} {r : Int32} {σ' : St}  {x1 : Int32} (hX : OK X w cX7_removeMoves 2 RX7 (some .int) (rmz 1 22) (Qi w σ' r)) (hW : MW w)   (hf : fX7_removeMoves σ x1 = some (r, σ')) : J X w 2 σ 0 [(0, rf w 0), (1, .int x1)] [] := by
  rw [fX7_removeMoves] at hf
  refine r_iload_n hX dX7_removeMoves_0 rfl 1 rfl ?_
  refine r_iconst hX dX7_removeMoves_1 (v := (0 : Int32)) (by decide) ?_
  refine r_aload_n hX dX7_removeMoves_2 rfl 0 rfl ?_
  refine r_get hX cls7 (MK0 hW) (by decide) (ce8 (MK0 hW)) 9 (by decide) g3_70 rfl dX7_removeMoves_3 (.int (σ.1 0 9)) rfl ?_
  refine J.callz (fun H locs ls a b c => runS hX miX7_in (cX7_in_ok (xl X)  rfl) g3_148 g3_149 ⟨Nat.le_of_ble_eq_true rfl, Nat.le_of_ble_eq_true rfl⟩ dX7_removeMoves_6 rfl (As := [.int x1, .int (0 : Int32), .int (σ.1 0 9)]) (rest := []) rfl (Nat.le_of_ble_eq_true rfl) a b c) (fun hz1 => ?_)
  refine r_if_ne hX dX7_removeMoves_9 (tgt := 15) (by decide) (fun h => ?_) (fun h => ?_)
  · have hf := ite_f h hf
    refine r_aload_n hX dX7_removeMoves_15 rfl 0 rfl ?_
    refine r_dup hX dX7_removeMoves_16 rfl ?_
    refine r_get hX cls7 (MK0 hW) (by decide) (ce8 (MK0 hW)) 9 (by decide) g3_70 rfl dX7_removeMoves_17 (.int (σ.1 0 9)) rfl ?_
    refine r_iload_n hX dX7_removeMoves_20 rfl 1 rfl ?_
    refine r_isub hX dX7_removeMoves_21 ?_
    refine r_putI hX cls7 (MK0 hW) (by decide) (fun _ _ _ => ce8 (MK0 hW)) 9 (by decide) g3_70 rfl rfl (tyX7_ok 9 (by decide)) (fun _ _ => Nat.le_of_ble_eq_true rfl) dX7_removeMoves_22 (fun _ _ => rfl) ?_
    exact J.sub [0] rfl (wX7_removeMoves_b25 hX hW   hf)
  · have hf := ite_t h hf
    refine r_bipush hX dX7_removeMoves_12 (v := (-3 : Int32)) (by decide) ?_
    cases hf
    exact r_iret hX dX7_removeMoves_14
theorem miX7_removeMoves : MI yX7_removeMoves cX7_removeMoves 2 (some .int) 1 := ⟨g3_189, ⟨by decide, by decide, by decide +kernel⟩, g1_6, by decide +kernel⟩
theorem cX7_removeMoves_ok (l : Launch) {w : Wp} {σ : St} {r : Int32} {σ' : St} {x1 : Int32} (hW : MW w)  (hf : fX7_removeMoves σ x1 = some (r, σ')) : CM l w yX7_removeMoves cX7_removeMoves 2 (some .int) (rmz 1 22) [rf w 0, .int x1] σ (Qi w σ' r) := CM.of miX7_removeMoves.2.2.2 (Nat.le_of_ble_eq_true rfl) (fun X hcl hX => J.sub [0, 1] rfl (wX7_removeMoves_b0 hX hW  hf))
-- X7_inStage
set_option maxRecDepth 20000 in
set_option maxHeartbeats 2000000 in
theorem wX7_inStage_b0 {X : Cx} {w : Wp} {σ : St} {r : Int32}  {x1 : Int32} (hX : OK X w cX7_inStage 2 RX7 (some .int) (rmz 0 0) (Qi w σ r)) (hW : MW w)   (hf : fX7_inStage σ x1 = r) : J X w 2 σ 0 [(0, rf w 0), (1, .int x1)] [] := by
  rw [fX7_inStage] at hf
  refine r_iload_n hX dX7_inStage_0 rfl 1 rfl ?_
  refine r_iconst hX dX7_inStage_1 (v := (1 : Int32)) (by decide) ?_
  refine r_icmp_ge hX dX7_inStage_2 (tgt := 9) (by decide) (fun h => ?_) (fun h => ?_)
  · have hf := ite_t h hf
    refine r_iload_n hX dX7_inStage_9 rfl 1 rfl ?_
    refine r_aload_n hX dX7_inStage_10 rfl 0 rfl ?_
    refine r_get hX cls7 (MK0 hW) (by decide) (ce8 (MK0 hW)) 0 (by decide) g3_61 rfl dX7_inStage_11 (.int (σ.1 0 0)) rfl ?_
    refine r_icmp_le hX dX7_inStage_14 (tgt := 24) (by decide) (fun h => ?_) (fun h => ?_)
    · have hf := ite_t h hf
      refine r_iload_n hX dX7_inStage_24 rfl 1 rfl ?_
      subst hf
      exact r_iret hX dX7_inStage_25
    · have hf := ite_f h hf
      refine r_aload_n hX dX7_inStage_17 rfl 0 rfl ?_
      refine r_get hX cls7 (MK0 hW) (by decide) (ce8 (MK0 hW)) 0 (by decide) g3_61 rfl dX7_inStage_18 (.int (σ.1 0 0)) rfl ?_
      refine r_goto hX dX7_inStage_21 (tgt := 25) (by decide) ?_
      subst hf
      exact r_iret hX dX7_inStage_25
  · have hf := ite_f h hf
    refine r_iconst hX dX7_inStage_5 (v := (1 : Int32)) (by decide) ?_
    refine r_goto hX dX7_inStage_6 (tgt := 25) (by decide) ?_
    subst hf
    exact r_iret hX dX7_inStage_25
theorem miX7_inStage : MI yX7_inStage cX7_inStage 2 (some .int) 1 := ⟨g3_205, ⟨by decide, by decide, by decide +kernel⟩, g1_6, by decide +kernel⟩
theorem cX7_inStage_ok (l : Launch) {w : Wp} {σ : St} {r : Int32} {x1 : Int32} (hW : MW w)  (hf : fX7_inStage σ x1 = r) : CM l w yX7_inStage cX7_inStage 2 (some .int) (rmz 0 0) [rf w 0, .int x1] σ (Qi w σ r) := CM.of miX7_inStage.2.2.2 (Nat.le_of_ble_eq_true rfl) (fun X hcl hX => J.sub [0, 1] rfl (wX7_inStage_b0 hX hW  hf))
-- X7_doMove
set_option maxRecDepth 20000 in
set_option maxHeartbeats 2000000 in
theorem wX7_doMove_b92 {X : Cx} {w : Wp} {σ : St} {σ' : St}  {x1 : Int32} {x2 : Int32} (hX : OK X w cX7_doMove 4 RX7 none (rmz 1 21) (Qv w σ')) (hW : MW w)   (hf : fX7_doMove_b92 σ x1 x2 = some σ') : J X w 4 σ 92 [(0, rf w 0), (1, .int x1), (2, .int x2)] [] := by
  rw [fX7_doMove_b92] at hf
  refine r_aload_n hX dX7_doMove_92 rfl 0 rfl ?_
  refine r_get hX cls7 (MK0 hW) (by decide) (ce8 (MK0 hW)) 16 (by decide) g3_77 rfl dX7_doMove_93 (rf w 14) rfl ?_
  refine r_iload_n hX dX7_doMove_96 rfl 2 rfl ?_
  refine r_aload_n hX dX7_doMove_97 rfl 0 rfl ?_
  refine r_aload_n hX dX7_doMove_98 rfl 0 rfl ?_
  refine r_get hX cls7 (MK0 hW) (by decide) (ce8 (MK0 hW)) 16 (by decide) g3_77 rfl dX7_doMove_99 (rf w 14) rfl ?_
  refine r_iload_n hX dX7_doMove_102 rfl 2 rfl ?_
  obtain ⟨hi3, hf⟩ := grd_some hf
  refine r_iald hX (MK14 hW) (ML14 hW) hi3 dX7_doMove_103 ?_
  refine r_aload_n hX dX7_doMove_104 rfl 0 rfl ?_
  refine r_get hX cls7 (MK0 hW) (by decide) (ce8 (MK0 hW)) 15 (by decide) g3_76 rfl dX7_doMove_105 (rf w 13) rfl ?_
  refine r_iload_n hX dX7_doMove_108 rfl 1 rfl ?_
  obtain ⟨hi2, hf⟩ := grd_some hf
  refine r_iald hX (MK13 hW) (ML13 hW) hi2 dX7_doMove_109 ?_
  refine r_iadd hX dX7_doMove_110 ?_
  refine J.calli (fun H locs ls a b c => runV hX miX7_inStage (As := [.int ((σ.1 14 (ix x2)) + (σ.1 13 (ix x1)))]) (cX7_inStage_ok (xl X) hW  rfl) g3_202 g3_204 gs_21 cls7 (MK0 hW) (by decide) (ce8 (MK0 hW)) ⟨Nat.le_of_ble_eq_true rfl, Nat.le_of_ble_eq_true rfl⟩ dX7_doMove_111 rfl (rest := [.int x2, rf w 14]) rfl (Nat.le_of_ble_eq_true rfl) a b c) ?_
  obtain ⟨hi1, hf⟩ := grd_some hf
  refine r_iast hX (MK14 hW) (ML14 hW) hi1 dX7_doMove_114 ?_
  cases hf
  exact r_vret hX dX7_doMove_115
set_option maxRecDepth 20000 in
set_option maxHeartbeats 2000000 in
theorem wX7_doMove_b73 {X : Cx} {w : Wp} {σ : St} {σ' : St}  {x1 : Int32} {x2 : Int32} (hX : OK X w cX7_doMove 4 RX7 none (rmz 1 21) (Qv w σ')) (hW : MW w)   (hf : fX7_doMove_b73 σ x1 x2 = some σ') : J X w 4 σ 73 [(0, rf w 0), (1, .int x1), (2, .int x2)] [] := by
  rw [fX7_doMove_b73] at hf
  refine r_aload_n hX dX7_doMove_73 rfl 0 rfl ?_
  refine r_get hX cls7 (MK0 hW) (by decide) (ce8 (MK0 hW)) 19 (by decide) g3_80 rfl dX7_doMove_74 (rf w 17) rfl ?_
  refine r_bipush hX dX7_doMove_77 (v := (9 : Int32)) (by decide) ?_
  refine r_iload_n hX dX7_doMove_79 rfl 2 rfl ?_
  refine r_imul hX dX7_doMove_80 ?_
  refine r_dup2 hX dX7_doMove_81 rfl rfl ?_
  obtain ⟨hi3, hf⟩ := grd_some hf
  refine r_lald hX (MK17 hW) (ML17 hW) hi3 dX7_doMove_82 ?_
  refine r_aload_n hX dX7_doMove_83 rfl 0 rfl ?_
  refine r_get hX cls7 (MK0 hW) (by decide) (ce8 (MK0 hW)) 14 (by decide) g3_75 rfl dX7_doMove_84 (rf w 12) rfl ?_
  refine r_iload_n hX dX7_doMove_87 rfl 1 rfl ?_
  obtain ⟨hi2, hf⟩ := grd_some hf
  refine r_iald hX (MK12 hW) (ML12 hW) hi2 dX7_doMove_88 ?_
  refine r_i2l hX dX7_doMove_89 ?_
  refine r_ladd hX dX7_doMove_90 ?_
  obtain ⟨hi1, hf⟩ := grd_some hf
  refine r_last hX (MK17 hW) (ML17 hW) hi1 dX7_doMove_91 ?_
  exact J.sub [0, 1, 2] rfl (wX7_doMove_b92 hX hW   hf)
set_option maxRecDepth 20000 in
set_option maxHeartbeats 2000000 in
theorem wX7_doMove_b0 {X : Cx} {w : Wp} {σ : St} {σ' : St}  {x1 : Int32} (hX : OK X w cX7_doMove 4 RX7 none (rmz 1 21) (Qv w σ')) (hW : MW w)   (hf : fX7_doMove σ x1 = some σ') : J X w 4 σ 0 [(0, rf w 0), (1, .int x1)] [] := by
  rw [fX7_doMove] at hf
  refine r_aload_n hX dX7_doMove_0 rfl 0 rfl ?_
  refine r_get hX cls7 (MK0 hW) (by decide) (ce8 (MK0 hW)) 11 (by decide) g3_72 rfl dX7_doMove_1 (rf w 9) rfl ?_
  refine r_iload_n hX dX7_doMove_4 rfl 1 rfl ?_
  obtain ⟨hi9, hf⟩ := grd_some hf
  refine r_iald hX (MK9 hW) (ML9 hW) hi9 dX7_doMove_5 ?_
  refine r_istore_n hX (i := 2) dX7_doMove_6 rfl (by decide) rfl ?_
  refine r_aload_n hX dX7_doMove_7 rfl 1 rfl ?_
  refine r_get hX cls7 (MK0 hW) (by decide) (ce8 (MK0 hW)) 12 (by decide) g3_73 rfl dX7_doMove_8 (rf w 10) rfl ?_
  refine r_iload_n hX dX7_doMove_11 rfl 2 rfl ?_
  obtain ⟨hi8, hf⟩ := grd_some hf
  refine r_iald hX (MK10 hW) (ML10 hW) hi8 dX7_doMove_12 ?_
  refine r_if_lt hX dX7_doMove_13 (tgt := 54) (by decide) (fun h => ?_) (fun h => ?_)
  · have hf := ite_t h hf
    refine r_aload_n hX dX7_doMove_54 rfl 1 rfl ?_
    refine r_get hX cls7 (MK0 hW) (by decide) (ce8 (MK0 hW)) 18 (by decide) g3_79 rfl dX7_doMove_55 (rf w 16) rfl ?_
    refine r_bipush hX dX7_doMove_58 (v := (9 : Int32)) (by decide) ?_
    refine r_iload_n hX dX7_doMove_60 rfl 0 rfl ?_
    refine r_imul hX dX7_doMove_61 ?_
    refine r_dup2 hX dX7_doMove_62 rfl rfl ?_
    obtain ⟨hi3, hf⟩ := grd_some hf
    refine r_lald hX (MK16 hW) (ML16 hW) hi3 dX7_doMove_63 ?_
    refine r_aload_n hX dX7_doMove_64 rfl 1 rfl ?_
    refine r_get hX cls7 (MK0 hW) (by decide) (ce8 (MK0 hW)) 13 (by decide) g3_74 rfl dX7_doMove_65 (rf w 11) rfl ?_
    refine r_iload_n hX dX7_doMove_68 rfl 2 rfl ?_
    obtain ⟨hi2, hf⟩ := grd_some hf
    refine r_iald hX (MK11 hW) (ML11 hW) hi2 dX7_doMove_69 ?_
    refine r_i2l hX dX7_doMove_70 ?_
    refine r_ladd hX dX7_doMove_71 ?_
    obtain ⟨hi1, hf⟩ := grd_some hf
    refine r_last hX (MK16 hW) (ML16 hW) hi1 dX7_doMove_72 ?_
    exact J.sub [1, 2, 0] rfl (wX7_doMove_b73 hX hW   hf)
  · have hf := ite_f h hf
    refine r_bipush hX dX7_doMove_16 (v := (8 : Int32)) (by decide) ?_
    refine r_iload_n hX dX7_doMove_18 rfl 0 rfl ?_
    refine r_imul hX dX7_doMove_19 ?_
    refine r_aload_n hX dX7_doMove_20 rfl 1 rfl ?_
    refine r_get hX cls7 (MK0 hW) (by decide) (ce8 (MK0 hW)) 12 (by decide) g3_73 rfl dX7_doMove_21 (rf w 10) rfl ?_
    refine r_iload_n hX dX7_doMove_24 rfl 2 rfl ?_
    obtain ⟨hi7, hf⟩ := grd_some hf
    refine r_iald hX (MK10 hW) (ML10 hW) hi7 dX7_doMove_25 ?_
    refine r_iadd hX dX7_doMove_26 ?_
    refine r_istore_n hX (i := 3) dX7_doMove_27 rfl (by decide) rfl ?_
    refine r_aload_n hX dX7_doMove_28 rfl 2 rfl ?_
    refine r_get hX cls7 (MK0 hW) (by decide) (ce8 (MK0 hW)) 17 (by decide) g3_78 rfl dX7_doMove_29 (rf w 15) rfl ?_
    refine r_iload_n hX dX7_doMove_32 rfl 0 rfl ?_
    refine r_aload_n hX dX7_doMove_33 rfl 2 rfl ?_
    refine r_get hX cls7 (MK0 hW) (by decide) (ce8 (MK0 hW)) 17 (by decide) g3_78 rfl dX7_doMove_34 (rf w 15) rfl ?_
    refine r_iload_n hX dX7_doMove_37 rfl 0 rfl ?_
    obtain ⟨hi6, hf⟩ := grd_some hf
    refine r_iald hX (MK15 hW) (ML15 hW) hi6 dX7_doMove_38 ?_
    refine r_aload_n hX dX7_doMove_39 rfl 2 rfl ?_
    refine r_get hX cls7 (MK0 hW) (by decide) (ce8 (MK0 hW)) 13 (by decide) g3_74 rfl dX7_doMove_40 (rf w 11) rfl ?_
    refine r_iload_n hX dX7_doMove_43 rfl 3 rfl ?_
    obtain ⟨hi5, hf⟩ := grd_some hf
    refine r_iald hX (MK11 hW) (ML11 hW) hi5 dX7_doMove_44 ?_
    refine r_iadd hX dX7_doMove_45 ?_
    refine r_bipush hX dX7_doMove_46 (v := (8 : Int32)) (by decide) ?_
    refine r_iadd hX dX7_doMove_48 ?_
    refine r_bipush hX dX7_doMove_49 (v := (8 : Int32)) (by decide) ?_
    refine r_irem hX dX7_doMove_51 (by decide) ?_
    obtain ⟨hi4, hf⟩ := grd_some hf
    refine r_iast hX (MK15 hW) (ML15 hW) hi4 dX7_doMove_52 ?_
    cases hf
    exact r_vret hX dX7_doMove_53
theorem miX7_doMove : MI yX7_doMove cX7_doMove 4 none 1 := ⟨g3_209, ⟨by decide, by decide, by decide +kernel⟩, g1_6, by decide +kernel⟩
theorem cX7_doMove_ok (l : Launch) {w : Wp} {σ : St} {σ' : St} {x1 : Int32} (hW : MW w)  (hf : fX7_doMove σ x1 = some σ') : CM l w yX7_doMove cX7_doMove 4 none (rmz 1 21) [rf w 0, .int x1] σ (Qv w σ') := CM.of miX7_doMove.2.2.2 (Nat.le_of_ble_eq_true rfl) (fun X hcl hX => J.sub [0, 1] rfl (wX7_doMove_b0 hX hW  hf))
-- X7_stepX
set_option maxRecDepth 20000 in
set_option maxHeartbeats 2000000 in
theorem wX7_stepX_b0 {X : Cx} {w : Wp} {σ : St} {r : Int32}  {x0 : Int32} (hX : OK X w cX7_stepX 1 RX7 (some .int) (rmz 0 0) (Qi w σ r))    (hf : fX7_stepX x0 = r) : J X w 1 σ 0 [(0, .int x0)] [] := by
  rw [fX7_stepX] at hf
  refine r_iload_n hX dX7_stepX_0 rfl 0 rfl ?_
  refine r_iconst hX dX7_stepX_1 (v := (2 : Int32)) (by decide) ?_
  refine r_icmp_eq hX dX7_stepX_2 (tgt := 11) (by decide) (fun h => ?_) (fun h => ?_)
  · have hf := ite_t h hf
    refine r_iconst hX dX7_stepX_11 (v := (0 : Int32)) (by decide) ?_
    refine r_goto hX dX7_stepX_12 (tgt := 31) (by decide) ?_
    subst hf
    exact r_iret hX dX7_stepX_31
  · have hf := ite_f h hf
    refine r_iload_n hX dX7_stepX_5 rfl 0 rfl ?_
    refine r_bipush hX dX7_stepX_6 (v := (6 : Int32)) (by decide) ?_
    refine r_icmp_ne hX dX7_stepX_8 (tgt := 15) (by decide) (fun h => ?_) (fun h => ?_)
    · have hf := ite_f h hf
      refine r_iload_n hX dX7_stepX_15 rfl 0 rfl ?_
      refine r_iconst hX dX7_stepX_16 (v := (2 : Int32)) (by decide) ?_
      refine r_icmp_lt hX dX7_stepX_17 (tgt := 26) (by decide) (fun h => ?_) (fun h => ?_)
      · have hf := ite_t h hf
        refine r_iconst hX dX7_stepX_26 (v := (1 : Int32)) (by decide) ?_
        refine r_goto hX dX7_stepX_27 (tgt := 31) (by decide) ?_
        subst hf
        exact r_iret hX dX7_stepX_31
      · have hf := ite_f h hf
        refine r_iload_n hX dX7_stepX_20 rfl 0 rfl ?_
        refine r_bipush hX dX7_stepX_21 (v := (7 : Int32)) (by decide) ?_
        refine r_icmp_ne hX dX7_stepX_23 (tgt := 30) (by decide) (fun h => ?_) (fun h => ?_)
        · have hf := ite_f h hf
          refine r_iconst hX dX7_stepX_30 (v := (-1 : Int32)) (by decide) ?_
          subst hf
          exact r_iret hX dX7_stepX_31
        · have hf := ite_t h hf
          refine r_iconst hX dX7_stepX_26 (v := (1 : Int32)) (by decide) ?_
          refine r_goto hX dX7_stepX_27 (tgt := 31) (by decide) ?_
          subst hf
          exact r_iret hX dX7_stepX_31
    · have hf := ite_t h hf
      refine r_iconst hX dX7_stepX_11 (v := (0 : Int32)) (by decide) ?_
      refine r_goto hX dX7_stepX_12 (tgt := 31) (by decide) ?_
      subst hf
      exact r_iret hX dX7_stepX_31
theorem miX7_stepX : MI yX7_stepX cX7_stepX 1 (some .int) 1 := ⟨g3_216, ⟨by decide, by decide, by decide +kernel⟩, g1_6, by decide +kernel⟩
theorem cX7_stepX_ok (l : Launch) {w : Wp} {σ : St} {r : Int32} {x0 : Int32}   (hf : fX7_stepX x0 = r) : CM l w yX7_stepX cX7_stepX 1 (some .int) (rmz 0 0) [.int x0] σ (Qi w σ r) := CM.of miX7_stepX.2.2.2 (Nat.le_of_ble_eq_true rfl) (fun X hcl hX => J.sub [0] rfl (wX7_stepX_b0 hX   hf))
-- X7_stepY
set_option maxRecDepth 20000 in
set_option maxHeartbeats 2000000 in
theorem wX7_stepY_b0 {X : Cx} {w : Wp} {σ : St} {r : Int32}  {x0 : Int32} (hX : OK X w cX7_stepY 1 RX7 (some .int) (rmz 0 0) (Qi w σ r))    (hf : fX7_stepY x0 = r) : J X w 1 σ 0 [(0, .int x0)] [] := by
  rw [fX7_stepY] at hf
  refine r_iload_n hX dX7_stepY_0 rfl 0 rfl ?_
  refine r_iconst hX dX7_stepY_1 (v := (4 : Int32)) (by decide) ?_
  refine r_irem hX dX7_stepY_2 (by decide) ?_
  refine r_if_ne hX dX7_stepY_3 (tgt := 10) (by decide) (fun h => ?_) (fun h => ?_)
  · have hf := ite_f h hf
    refine r_iload_n hX dX7_stepY_10 rfl 0 rfl ?_
    refine r_iconst hX dX7_stepY_11 (v := (4 : Int32)) (by decide) ?_
    refine r_icmp_ge hX dX7_stepY_12 (tgt := 19) (by decide) (fun h => ?_) (fun h => ?_)
    · have hf := ite_t h hf
      refine r_iconst hX dX7_stepY_19 (v := (-1 : Int32)) (by decide) ?_
      subst hf
      exact r_iret hX dX7_stepY_20
    · have hf := ite_f h hf
      refine r_iconst hX dX7_stepY_15 (v := (1 : Int32)) (by decide) ?_
      refine r_goto hX dX7_stepY_16 (tgt := 20) (by decide) ?_
      subst hf
      exact r_iret hX dX7_stepY_20
  · have hf := ite_t h hf
    refine r_iconst hX dX7_stepY_6 (v := (0 : Int32)) (by decide) ?_
    refine r_goto hX dX7_stepY_7 (tgt := 20) (by decide) ?_
    subst hf
    exact r_iret hX dX7_stepY_20
theorem miX7_stepY : MI yX7_stepY cX7_stepY 1 (some .int) 1 := ⟨g3_219, ⟨by decide, by decide, by decide +kernel⟩, g1_6, by decide +kernel⟩
theorem cX7_stepY_ok (l : Launch) {w : Wp} {σ : St} {r : Int32} {x0 : Int32}   (hf : fX7_stepY x0 = r) : CM l w yX7_stepY cX7_stepY 1 (some .int) (rmz 0 0) [.int x0] σ (Qi w σ r) := CM.of miX7_stepY.2.2.2 (Nat.le_of_ble_eq_true rfl) (fun X hcl hX => J.sub [0] rfl (wX7_stepY_b0 hX   hf))
-- X7_layPoints
set_option maxRecDepth 20000 in
set_option maxHeartbeats 2000000 in
theorem wX7_layPoints_b144 {X : Cx} {w : Wp} {σ : St} {σ' : St} {k12 : St → Int32 → Int32 → Option St} {x1 : Int32} {x2 : Int32} (hX : OK X w cX7_layPoints 6 RX7 none (rmz 1 20) (Qv w σ')) (hW : MW w) (hk12 : ∀ (σ : St) (x1 : Int32) (x2 : Int32), k12 σ x1 x2 = some σ' → J X w 6 σ 12 [(0, rf w 0), (1, .int x1), (2, .int x2)] [])  (hf : fX7_layPoints_b144 k12 σ x1 x2 = some σ') : J X w 6 σ 144 [(0, rf w 0), (1, .int x1), (2, .int x2)] [] := by
  rw [fX7_layPoints_b144] at hf
  refine r_iincC hX dX7_layPoints_144 2 rfl (d := (1 : Int32)) (by decide) (by decide) rfl ?_
  refine r_goto hX dX7_layPoints_147 (tgt := 12) (by decide) ?_
  exact J.sub [1, 2, 0] rfl (hk12 _ _ _  hf)
set_option maxRecDepth 20000 in
set_option maxHeartbeats 2000000 in
theorem wX7_layPoints_b111 {X : Cx} {w : Wp} {σ : St} {σ' : St} {k12 : St → Int32 → Int32 → Option St} {x1 : Int32} {x2 : Int32} {x3 : Int32} {x4 : Int32} {x5 : Int32} (hX : OK X w cX7_layPoints 6 RX7 none (rmz 1 20) (Qv w σ')) (hW : MW w) (hk12 : ∀ (σ : St) (x1 : Int32) (x2 : Int32), k12 σ x1 x2 = some σ' → J X w 6 σ 12 [(0, rf w 0), (1, .int x1), (2, .int x2)] [])  (hf : fX7_layPoints_b111 k12 σ x1 x2 x3 x4 x5 = some σ') : J X w 6 σ 111 [(0, rf w 0), (1, .int x1), (2, .int x2), (3, .int x3), (4, .int x4), (5, .int x5)] [] := by
  rw [fX7_layPoints_b111] at hf
  refine r_aload_n hX dX7_layPoints_111 rfl 0 rfl ?_
  refine r_get hX cls7 (MK0 hW) (by decide) (ce8 (MK0 hW)) 19 (by decide) g3_80 rfl dX7_layPoints_112 (rf w 17) rfl ?_
  refine r_iload hX dX7_layPoints_115 5 rfl ?_
  refine r_aload_n hX dX7_layPoints_117 rfl 0 rfl ?_
  refine r_get hX cls7 (MK0 hW) (by decide) (ce8 (MK0 hW)) 19 (by decide) g3_80 rfl dX7_layPoints_118 (rf w 17) rfl ?_
  refine r_iload hX dX7_layPoints_121 4 rfl ?_
  obtain ⟨hi4, hf⟩ := grd_some hf
  refine r_lald hX (MK17 hW) (ML17 hW) hi4 dX7_layPoints_123 ?_
  refine r_aload_n hX dX7_layPoints_124 rfl 0 rfl ?_
  refine r_get hX cls7 (MK0 hW) (by decide) (ce8 (MK0 hW)) 7 (by decide) g3_68 rfl dX7_layPoints_125 (rf w 6) rfl ?_
  refine r_iload_n hX dX7_layPoints_128 rfl 3 rfl ?_
  obtain ⟨hi3, hf⟩ := grd_some hf
  refine r_iald hX (MK6 hW) (ML6 hW) hi3 dX7_layPoints_129 ?_
  refine r_aload_n hX dX7_layPoints_130 rfl 0 rfl ?_
  refine r_get hX cls7 (MK0 hW) (by decide) (ce8 (MK0 hW)) 20 (by decide) g3_81 rfl dX7_layPoints_131 (rf w 18) rfl ?_
  refine r_iload hX dX7_layPoints_134 5 rfl ?_
  obtain ⟨hi2, hf⟩ := grd_some hf
  refine r_iald hX (MK18 hW) (ML18 hW) hi2 dX7_layPoints_136 ?_
  refine J.calli (fun H locs ls a b c => runS hX miX7_stepY (cX7_stepY_ok (xl X)  rfl) g3_217 g3_218 ⟨Nat.le_of_ble_eq_true rfl, Nat.le_of_ble_eq_true rfl⟩ dX7_layPoints_137 rfl (As := [.int (σ.1 18 (ix x5))]) (rest := [.int (σ.1 6 (ix x3)), .long (σ.2.1 17 (ix x4)), .int x5, rf w 17]) rfl (Nat.le_of_ble_eq_true rfl) a b c) ?_
  refine r_imul hX dX7_layPoints_140 ?_
  refine r_i2l hX dX7_layPoints_141 ?_
  refine r_ladd hX dX7_layPoints_142 ?_
  obtain ⟨hi1, hf⟩ := grd_some hf
  refine r_last hX (MK17 hW) (ML17 hW) hi1 dX7_layPoints_143 ?_
  exact J.sub [0, 1, 2] rfl (wX7_layPoints_b144 hX hW hk12  hf)
set_option maxRecDepth 20000 in
set_option maxHeartbeats 2000000 in
theorem wX7_layPoints_b78 {X : Cx} {w : Wp} {σ : St} {σ' : St} {k12 : St → Int32 → Int32 → Option St} {x1 : Int32} {x2 : Int32} {x3 : Int32} {x4 : Int32} {x5 : Int32} (hX : OK X w cX7_layPoints 6 RX7 none (rmz 1 20) (Qv w σ')) (hW : MW w) (hk12 : ∀ (σ : St) (x1 : Int32) (x2 : Int32), k12 σ x1 x2 = some σ' → J X w 6 σ 12 [(0, rf w 0), (1, .int x1), (2, .int x2)] [])  (hf : fX7_layPoints_b78 k12 σ x1 x2 x3 x4 x5 = some σ') : J X w 6 σ 78 [(0, rf w 0), (1, .int x1), (2, .int x2), (3, .int x3), (4, .int x4), (5, .int x5)] [] := by
  rw [fX7_layPoints_b78] at hf
  refine r_aload_n hX dX7_layPoints_78 rfl 0 rfl ?_
  refine r_get hX cls7 (MK0 hW) (by decide) (ce8 (MK0 hW)) 18 (by decide) g3_79 rfl dX7_layPoints_79 (rf w 16) rfl ?_
  refine r_iload hX dX7_layPoints_82 5 rfl ?_
  refine r_aload_n hX dX7_layPoints_84 rfl 0 rfl ?_
  refine r_get hX cls7 (MK0 hW) (by decide) (ce8 (MK0 hW)) 18 (by decide) g3_79 rfl dX7_layPoints_85 (rf w 16) rfl ?_
  refine r_iload hX dX7_layPoints_88 4 rfl ?_
  obtain ⟨hi4, hf⟩ := grd_some hf
  refine r_lald hX (MK16 hW) (ML16 hW) hi4 dX7_layPoints_90 ?_
  refine r_aload_n hX dX7_layPoints_91 rfl 0 rfl ?_
  refine r_get hX cls7 (MK0 hW) (by decide) (ce8 (MK0 hW)) 7 (by decide) g3_68 rfl dX7_layPoints_92 (rf w 6) rfl ?_
  refine r_iload_n hX dX7_layPoints_95 rfl 3 rfl ?_
  obtain ⟨hi3, hf⟩ := grd_some hf
  refine r_iald hX (MK6 hW) (ML6 hW) hi3 dX7_layPoints_96 ?_
  refine r_aload_n hX dX7_layPoints_97 rfl 0 rfl ?_
  refine r_get hX cls7 (MK0 hW) (by decide) (ce8 (MK0 hW)) 20 (by decide) g3_81 rfl dX7_layPoints_98 (rf w 18) rfl ?_
  refine r_iload hX dX7_layPoints_101 5 rfl ?_
  obtain ⟨hi2, hf⟩ := grd_some hf
  refine r_iald hX (MK18 hW) (ML18 hW) hi2 dX7_layPoints_103 ?_
  refine J.calli (fun H locs ls a b c => runS hX miX7_stepX (cX7_stepX_ok (xl X)  rfl) g3_214 g3_215 ⟨Nat.le_of_ble_eq_true rfl, Nat.le_of_ble_eq_true rfl⟩ dX7_layPoints_104 rfl (As := [.int (σ.1 18 (ix x5))]) (rest := [.int (σ.1 6 (ix x3)), .long (σ.2.1 16 (ix x4)), .int x5, rf w 16]) rfl (Nat.le_of_ble_eq_true rfl) a b c) ?_
  refine r_imul hX dX7_layPoints_107 ?_
  refine r_i2l hX dX7_layPoints_108 ?_
  refine r_ladd hX dX7_layPoints_109 ?_
  obtain ⟨hi1, hf⟩ := grd_some hf
  refine r_last hX (MK16 hW) (ML16 hW) hi1 dX7_layPoints_110 ?_
  exact J.sub [0, 1, 2, 3, 4, 5] rfl (wX7_layPoints_b111 hX hW hk12  hf)
set_option maxRecDepth 20000 in
set_option maxHeartbeats 2000000 in
theorem wX7_layPoints_L12 {X : Cx} {w : Wp} {σ' : St}  (hX : OK X w cX7_layPoints 6 RX7 none (rmz 1 20) (Qv w σ')) (hW : MW w)  : ∀ (n : Nat) (σ : St) (x1 : Int32) (x2 : Int32), fX7_layPoints_L12 n σ x1 x2 = some σ' → J X w 6 σ 12 [(0, rf w 0), (1, .int x1), (2, .int x2)] [] := by
  intro n
  induction n with
  | zero =>
    intro σ x1 x2 hf
    cases hf
  | succ n ih =>
    intro σ x1 x2 hf
    rw [fX7_layPoints_L12] at hf
    refine r_iload_n hX dX7_layPoints_12 rfl 2 rfl ?_
    refine r_aload_n hX dX7_layPoints_13 rfl 0 rfl ?_
    refine r_get hX cls7 (MK0 hW) (by decide) (ce8 (MK0 hW)) 5 (by decide) g3_66 rfl dX7_layPoints_14 (rf w 4) rfl ?_
    refine r_iload_n hX dX7_layPoints_17 rfl 1 rfl ?_
    obtain ⟨hi5, hf⟩ := grd_some hf
    refine r_iald hX (MK4 hW) (ML4 hW) hi5 dX7_layPoints_18 ?_
    refine r_icmp_ge hX dX7_layPoints_19 (tgt := 150) (by decide) (fun h => ?_) (fun h => ?_)
    · have hf := ite_t h hf
      cases hf
      exact r_vret hX dX7_layPoints_150
    · have hf := ite_f h hf
      refine r_bipush hX dX7_layPoints_22 (v := (8 : Int32)) (by decide) ?_
      refine r_iload_n hX dX7_layPoints_24 rfl 1 rfl ?_
      refine r_imul hX dX7_layPoints_25 ?_
      refine r_iload_n hX dX7_layPoints_26 rfl 2 rfl ?_
      refine r_iadd hX dX7_layPoints_27 ?_
      refine r_istore_n hX (i := 3) dX7_layPoints_28 rfl (by decide) rfl ?_
      refine r_bipush hX dX7_layPoints_29 (v := (9 : Int32)) (by decide) ?_
      refine r_iload_n hX dX7_layPoints_31 rfl 2 rfl ?_
      refine r_imul hX dX7_layPoints_32 ?_
      refine r_aload_n hX dX7_layPoints_33 rfl 1 rfl ?_
      refine r_get hX cls7 (MK0 hW) (by decide) (ce8 (MK0 hW)) 6 (by decide) g3_67 rfl dX7_layPoints_34 (rf w 5) rfl ?_
      refine r_iload_n hX dX7_layPoints_37 rfl 0 rfl ?_
      obtain ⟨hi4, hf⟩ := grd_some hf
      refine r_iald hX (MK5 hW) (ML5 hW) hi4 dX7_layPoints_38 ?_
      refine r_iadd hX dX7_layPoints_39 ?_
      refine r_iconst hX dX7_layPoints_40 (v := (1 : Int32)) (by decide) ?_
      refine r_iadd hX dX7_layPoints_41 ?_
      refine r_istore hX (i := 4) dX7_layPoints_42 (by decide) rfl ?_
      refine r_bipush hX dX7_layPoints_44 (v := (9 : Int32)) (by decide) ?_
      refine r_iload_n hX dX7_layPoints_46 rfl 3 rfl ?_
      refine r_imul hX dX7_layPoints_47 ?_
      refine r_iload_n hX dX7_layPoints_48 rfl 4 rfl ?_
      refine r_iadd hX dX7_layPoints_49 ?_
      refine r_iconst hX dX7_layPoints_50 (v := (1 : Int32)) (by decide) ?_
      refine r_iadd hX dX7_layPoints_51 ?_
      refine r_istore hX (i := 5) dX7_layPoints_52 (by decide) rfl ?_
      refine r_aload_n hX dX7_layPoints_54 rfl 3 rfl ?_
      refine r_get hX cls7 (MK0 hW) (by decide) (ce8 (MK0 hW)) 20 (by decide) g3_81 rfl dX7_layPoints_55 (rf w 18) rfl ?_
      refine r_iload hX dX7_layPoints_58 0 rfl ?_
      refine r_aload_n hX dX7_layPoints_60 rfl 3 rfl ?_
      refine r_get hX cls7 (MK0 hW) (by decide) (ce8 (MK0 hW)) 20 (by decide) g3_81 rfl dX7_layPoints_61 (rf w 18) rfl ?_
      refine r_iload hX dX7_layPoints_64 1 rfl ?_
      obtain ⟨hi3, hf⟩ := grd_some hf
      refine r_iald hX (MK18 hW) (ML18 hW) hi3 dX7_layPoints_66 ?_
      refine r_aload_n hX dX7_layPoints_67 rfl 3 rfl ?_
      refine r_get hX cls7 (MK0 hW) (by decide) (ce8 (MK0 hW)) 17 (by decide) g3_78 rfl dX7_layPoints_68 (rf w 15) rfl ?_
      refine r_iload_n hX dX7_layPoints_71 rfl 2 rfl ?_
      obtain ⟨hi2, hf⟩ := grd_some hf
      refine r_iald hX (MK15 hW) (ML15 hW) hi2 dX7_layPoints_72 ?_
      refine r_iadd hX dX7_layPoints_73 ?_
      refine r_bipush hX dX7_layPoints_74 (v := (8 : Int32)) (by decide) ?_
      refine r_irem hX dX7_layPoints_76 (by decide) ?_
      obtain ⟨hi1, hf⟩ := grd_some hf
      refine r_iast hX (MK18 hW) (ML18 hW) hi1 dX7_layPoints_77 ?_
      exact J.sub [3, 4, 5, 2, 1, 0] rfl (wX7_layPoints_b78 hX hW ih  hf)
set_option maxRecDepth 20000 in
set_option maxHeartbeats 2000000 in
theorem wX7_layPoints_b10 {X : Cx} {w : Wp} {σ : St} {σ' : St}  {x1 : Int32} (hX : OK X w cX7_layPoints 6 RX7 none (rmz 1 20) (Qv w σ')) (hW : MW w)   (hf : fX7_layPoints_b10 σ x1 = some σ') : J X w 6 σ 10 [(0, rf w 0), (1, .int x1)] [] := by
  rw [fX7_layPoints_b10] at hf
  refine r_iconst hX dX7_layPoints_10 (v := (0 : Int32)) (by decide) ?_
  refine r_istore_n hX (i := 2) dX7_layPoints_11 rfl (by decide) rfl ?_
  exact J.sub [1, 2, 0] rfl (wX7_layPoints_L12 hX hW  _ _ _ _  hf)
set_option maxRecDepth 20000 in
set_option maxHeartbeats 2000000 in
theorem wX7_layPoints_b0 {X : Cx} {w : Wp} {σ : St} {σ' : St}  {x1 : Int32} (hX : OK X w cX7_layPoints 6 RX7 none (rmz 1 20) (Qv w σ')) (hW : MW w)   (hf : fX7_layPoints σ x1 = some σ') : J X w 6 σ 0 [(0, rf w 0), (1, .int x1)] [] := by
  rw [fX7_layPoints] at hf
  refine r_aload_n hX dX7_layPoints_0 rfl 0 rfl ?_
  refine r_get hX cls7 (MK0 hW) (by decide) (ce8 (MK0 hW)) 20 (by decide) g3_81 rfl dX7_layPoints_1 (rf w 18) rfl ?_
  refine r_bipush hX dX7_layPoints_4 (v := (9 : Int32)) (by decide) ?_
  refine r_iload_n hX dX7_layPoints_6 rfl 1 rfl ?_
  refine r_imul hX dX7_layPoints_7 ?_
  refine r_iconst hX dX7_layPoints_8 (v := (0 : Int32)) (by decide) ?_
  obtain ⟨hi1, hf⟩ := grd_some hf
  refine r_iast hX (MK18 hW) (ML18 hW) hi1 dX7_layPoints_9 ?_
  exact J.sub [0, 1] rfl (wX7_layPoints_b10 hX hW   hf)
theorem miX7_layPoints : MI yX7_layPoints cX7_layPoints 6 none 1 := ⟨g3_213, ⟨by decide, by decide, by decide +kernel⟩, g1_6, by decide +kernel⟩
theorem cX7_layPoints_ok (l : Launch) {w : Wp} {σ : St} {σ' : St} {x1 : Int32} (hW : MW w)  (hf : fX7_layPoints σ x1 = some σ') : CM l w yX7_layPoints cX7_layPoints 6 none (rmz 1 20) [rf w 0, .int x1] σ (Qv w σ') := CM.of miX7_layPoints.2.2.2 (Nat.le_of_ble_eq_true rfl) (fun X hcl hX => J.sub [0, 1] rfl (wX7_layPoints_b0 hX hW  hf))
-- X7_goTo
set_option maxRecDepth 20000 in
set_option maxHeartbeats 2000000 in
theorem wX7_goTo_b58 {X : Cx} {w : Wp} {σ : St} {σ' : St} {k2 : St → Int32 → Int32 → Option St} {x1 : Int32} {x2 : Int32} (hX : OK X w cX7_goTo 4 RX7 none (rmz 2 45) (Qv w σ')) (hW : MW w) (hk2 : ∀ (σ : St) (x1 : Int32) (x2 : Int32), k2 σ x1 x2 = some σ' → J X w 4 σ 2 [(0, rf w 0), (1, .int x1), (2, .int x2)] [])  (hf : fX7_goTo_b58 k2 σ x1 x2 = some σ') : J X w 4 σ 58 [(0, rf w 0), (1, .int x1), (2, .int x2)] [] := by
  rw [fX7_goTo_b58] at hf
  refine r_iincC hX dX7_goTo_58 2 rfl (d := (1 : Int32)) (by decide) (by decide) rfl ?_
  refine r_goto hX dX7_goTo_61 (tgt := 2) (by decide) ?_
  exact J.sub [1, 2, 0] rfl (hk2 _ _ _  hf)
set_option maxRecDepth 20000 in
set_option maxHeartbeats 2000000 in
theorem wX7_goTo_b42 {X : Cx} {w : Wp} {σ : St} {σ' : St} {k2 : St → Int32 → Int32 → Option St} {x1 : Int32} {x2 : Int32} (hX : OK X w cX7_goTo 4 RX7 none (rmz 2 45) (Qv w σ')) (hW : MW w) (hk2 : ∀ (σ : St) (x1 : Int32) (x2 : Int32), k2 σ x1 x2 = some σ' → J X w 4 σ 2 [(0, rf w 0), (1, .int x1), (2, .int x2)] [])  (hf : fX7_goTo_b42 k2 σ x1 x2 = some σ') : J X w 4 σ 42 [(0, rf w 0), (1, .int x1), (2, .int x2)] [] := by
  rw [fX7_goTo_b42] at hf
  refine r_aload_n hX dX7_goTo_42 rfl 0 rfl ?_
  refine r_get hX cls7 (MK0 hW) (by decide) (ce8 (MK0 hW)) 16 (by decide) g3_77 rfl dX7_goTo_43 (rf w 14) rfl ?_
  refine r_iload_n hX dX7_goTo_46 rfl 2 rfl ?_
  refine r_aload_n hX dX7_goTo_47 rfl 0 rfl ?_
  refine r_aload_n hX dX7_goTo_48 rfl 0 rfl ?_
  refine r_get hX cls7 (MK0 hW) (by decide) (ce8 (MK0 hW)) 4 (by decide) g3_65 rfl dX7_goTo_49 (rf w 3) rfl ?_
  refine r_iload_n hX dX7_goTo_52 rfl 2 rfl ?_
  obtain ⟨hi2, hf⟩ := grd_some hf
  refine r_iald hX (MK3 hW) (ML3 hW) hi2 dX7_goTo_53 ?_
  refine J.calli (fun H locs ls a b c => runV hX miX7_inStage (As := [.int (σ.1 3 (ix x2))]) (cX7_inStage_ok (xl X) hW  rfl) g3_202 g3_204 gs_21 cls7 (MK0 hW) (by decide) (ce8 (MK0 hW)) ⟨Nat.le_of_ble_eq_true rfl, Nat.le_of_ble_eq_true rfl⟩ dX7_goTo_54 rfl (rest := [.int x2, rf w 14]) rfl (Nat.le_of_ble_eq_true rfl) a b c) ?_
  obtain ⟨hi1, hf⟩ := grd_some hf
  refine r_iast hX (MK14 hW) (ML14 hW) hi1 dX7_goTo_57 ?_
  exact J.sub [0, 1, 2] rfl (wX7_goTo_b58 hX hW hk2  hf)
set_option maxRecDepth 20000 in
set_option maxHeartbeats 2000000 in
theorem wX7_goTo_b26 {X : Cx} {w : Wp} {σ : St} {σ' : St} {k2 : St → Int32 → Int32 → Option St} {x1 : Int32} {x2 : Int32} (hX : OK X w cX7_goTo 4 RX7 none (rmz 2 45) (Qv w σ')) (hW : MW w) (hk2 : ∀ (σ : St) (x1 : Int32) (x2 : Int32), k2 σ x1 x2 = some σ' → J X w 4 σ 2 [(0, rf w 0), (1, .int x1), (2, .int x2)] [])  (hf : fX7_goTo_b26 k2 σ x1 x2 = some σ') : J X w 4 σ 26 [(0, rf w 0), (1, .int x1), (2, .int x2)] [] := by
  rw [fX7_goTo_b26] at hf
  refine r_aload_n hX dX7_goTo_26 rfl 0 rfl ?_
  refine r_get hX cls7 (MK0 hW) (by decide) (ce8 (MK0 hW)) 19 (by decide) g3_80 rfl dX7_goTo_27 (rf w 17) rfl ?_
  refine r_bipush hX dX7_goTo_30 (v := (9 : Int32)) (by decide) ?_
  refine r_iload_n hX dX7_goTo_32 rfl 2 rfl ?_
  refine r_imul hX dX7_goTo_33 ?_
  refine r_aload_n hX dX7_goTo_34 rfl 0 rfl ?_
  refine r_get hX cls7 (MK0 hW) (by decide) (ce8 (MK0 hW)) 3 (by decide) g3_64 rfl dX7_goTo_35 (rf w 2) rfl ?_
  refine r_iload_n hX dX7_goTo_38 rfl 2 rfl ?_
  obtain ⟨hi2, hf⟩ := grd_some hf
  refine r_iald hX (MK2 hW) (ML2 hW) hi2 dX7_goTo_39 ?_
  refine r_i2l hX dX7_goTo_40 ?_
  obtain ⟨hi1, hf⟩ := grd_some hf
  refine r_last hX (MK17 hW) (ML17 hW) hi1 dX7_goTo_41 ?_
  exact J.sub [0, 1, 2] rfl (wX7_goTo_b42 hX hW hk2  hf)
set_option maxRecDepth 20000 in
set_option maxHeartbeats 2000000 in
theorem wX7_goTo_b84 {X : Cx} {w : Wp} {σ : St} {σ' : St} {k66 : St → Int32 → Int32 → Option St} {x1 : Int32} {x2 : Int32} (hX : OK X w cX7_goTo 4 RX7 none (rmz 2 45) (Qv w σ')) (hW : MW w) (hk66 : ∀ (σ : St) (x1 : Int32) (x2 : Int32), k66 σ x1 x2 = some σ' → J X w 4 σ 66 [(0, rf w 0), (1, .int x1), (2, .int x2)] [])  (hf : fX7_goTo_b84 k66 σ x1 x2 = some σ') : J X w 4 σ 84 [(0, rf w 0), (1, .int x1), (2, .int x2)] [] := by
  rw [fX7_goTo_b84] at hf
  refine r_iincC hX dX7_goTo_84 2 rfl (d := (1 : Int32)) (by decide) (by decide) rfl ?_
  refine r_goto hX dX7_goTo_87 (tgt := 66) (by decide) ?_
  exact J.sub [1, 2, 0] rfl (hk66 _ _ _  hf)
set_option maxRecDepth 20000 in
set_option maxHeartbeats 2000000 in
theorem wX7_goTo_b122 {X : Cx} {w : Wp} {σ : St} {σ' : St} {k92 : St → Int32 → Int32 → Option St} {k99 : St → Int32 → Int32 → Int32 → Option St} {x1 : Int32} {x2 : Int32} {x3 : Int32} (hX : OK X w cX7_goTo 4 RX7 none (rmz 2 45) (Qv w σ')) (hW : MW w) (hk92 : ∀ (σ : St) (x1 : Int32) (x2 : Int32), k92 σ x1 x2 = some σ' → J X w 4 σ 92 [(0, rf w 0), (1, .int x1), (2, .int x2)] []) (hk99 : ∀ (σ : St) (x1 : Int32) (x2 : Int32) (x3 : Int32), k99 σ x1 x2 x3 = some σ' → J X w 4 σ 99 [(0, rf w 0), (1, .int x1), (2, .int x2), (3, .int x3)] [])  (hf : fX7_goTo_b122 k92 k99 σ x1 x2 x3 = some σ') : J X w 4 σ 122 [(0, rf w 0), (1, .int x1), (2, .int x2), (3, .int x3)] [] := by
  rw [fX7_goTo_b122] at hf
  refine r_iincC hX dX7_goTo_122 3 rfl (d := (1 : Int32)) (by decide) (by decide) rfl ?_
  refine r_goto hX dX7_goTo_125 (tgt := 99) (by decide) ?_
  exact J.sub [1, 2, 3, 0] rfl (hk99 _ _ _ _  hf)
set_option maxRecDepth 20000 in
set_option maxHeartbeats 2000000 in
theorem wX7_goTo_L99 {X : Cx} {w : Wp} {σ' : St} {k92 : St → Int32 → Int32 → Option St} (hX : OK X w cX7_goTo 4 RX7 none (rmz 2 45) (Qv w σ')) (hW : MW w) (hk92 : ∀ (σ : St) (x1 : Int32) (x2 : Int32), k92 σ x1 x2 = some σ' → J X w 4 σ 92 [(0, rf w 0), (1, .int x1), (2, .int x2)] []) : ∀ (n : Nat) (σ : St) (x1 : Int32) (x2 : Int32) (x3 : Int32), fX7_goTo_L99 k92 n σ x1 x2 x3 = some σ' → J X w 4 σ 99 [(0, rf w 0), (1, .int x1), (2, .int x2), (3, .int x3)] [] := by
  intro n
  induction n with
  | zero =>
    intro σ x1 x2 x3 hf
    cases hf
  | succ n ih =>
    intro σ x1 x2 x3 hf
    rw [fX7_goTo_L99] at hf
    refine r_iload_n hX dX7_goTo_99 rfl 3 rfl ?_
    refine r_aload_n hX dX7_goTo_100 rfl 0 rfl ?_
    refine r_get hX cls7 (MK0 hW) (by decide) (ce8 (MK0 hW)) 9 (by decide) g3_70 rfl dX7_goTo_101 (.int (σ.1 0 9)) rfl ?_
    refine r_icmp_ge hX dX7_goTo_104 (tgt := 128) (by decide) (fun h => ?_) (fun h => ?_)
    · have hf := ite_t h hf
      refine r_iincC hX dX7_goTo_128 2 rfl (d := (1 : Int32)) (by decide) (by decide) rfl ?_
      refine r_goto hX dX7_goTo_131 (tgt := 92) (by decide) ?_
      exact J.sub [1, 2, 0] rfl (hk92 _ _ _  hf)
    · have hf := ite_f h hf
      refine r_aload_n hX dX7_goTo_107 rfl 0 rfl ?_
      refine r_get hX cls7 (MK0 hW) (by decide) (ce8 (MK0 hW)) 10 (by decide) g3_71 rfl dX7_goTo_108 (rf w 8) rfl ?_
      refine r_iload_n hX dX7_goTo_111 rfl 3 rfl ?_
      obtain ⟨hi3, hf⟩ := grd_some hf
      refine r_iald hX (MK8 hW) (ML8 hW) hi3 dX7_goTo_112 ?_
      refine r_iload_n hX dX7_goTo_113 rfl 2 rfl ?_
      refine r_icmp_ne hX dX7_goTo_114 (tgt := 122) (by decide) (fun h => ?_) (fun h => ?_)
      · have hf := ite_f h hf
        exact J.sub [0, 1, 2, 3] rfl (wX7_goTo_b122 hX hW hk92 ih  hf)
      · have hf := ite_t h hf
        refine r_aload_n hX dX7_goTo_117 rfl 0 rfl ?_
        refine r_iload_n hX dX7_goTo_118 rfl 3 rfl ?_
        obtain ⟨σ1, hr2, hf⟩ := bd_s hf
        refine J.callv (fun H locs ls a b c => runV hX miX7_doMove (As := [.int x3]) (cX7_doMove_ok (xl X) hW  hr2) g3_206 g3_208 gs_22 cls7 (MK0 hW) (by decide) (ce8 (MK0 hW)) ⟨Nat.le_of_ble_eq_true rfl, Nat.le_of_ble_eq_true rfl⟩ dX7_goTo_119 rfl (rest := []) rfl (Nat.le_of_ble_eq_true rfl) a b c) ?_
        exact J.sub [0, 1, 2, 3] rfl (wX7_goTo_b122 hX hW hk92 ih  hf)
set_option maxRecDepth 20000 in
set_option maxHeartbeats 2000000 in
theorem wX7_goTo_L136 {X : Cx} {w : Wp} {σ' : St}  (hX : OK X w cX7_goTo 4 RX7 none (rmz 2 45) (Qv w σ')) (hW : MW w)  : ∀ (n : Nat) (σ : St) (x2 : Int32), fX7_goTo_L136 n σ x2 = some σ' → J X w 4 σ 136 [(0, rf w 0), (2, .int x2)] [] := by
  intro n
  induction n with
  | zero =>
    intro σ x2 hf
    cases hf
  | succ n ih =>
    intro σ x2 hf
    rw [fX7_goTo_L136] at hf
    refine r_iload_n hX dX7_goTo_136 rfl 1 rfl ?_
    refine r_aload_n hX dX7_goTo_137 rfl 0 rfl ?_
    refine r_get hX cls7 (MK0 hW) (by decide) (ce8 (MK0 hW)) 1 (by decide) g3_62 rfl dX7_goTo_138 (.int (σ.1 0 1)) rfl ?_
    refine r_icmp_ge hX dX7_goTo_141 (tgt := 155) (by decide) (fun h => ?_) (fun h => ?_)
    · have hf := ite_t h hf
      cases hf
      exact r_vret hX dX7_goTo_155
    · have hf := ite_f h hf
      refine r_aload_n hX dX7_goTo_144 rfl 0 rfl ?_
      refine r_iload_n hX dX7_goTo_145 rfl 1 rfl ?_
      obtain ⟨σ1, hr2, hf⟩ := bd_s hf
      refine J.callv (fun H locs ls a b c => runV hX miX7_layPoints (As := [.int x2]) (cX7_layPoints_ok (xl X) hW  hr2) g3_210 g3_212 gs_23 cls7 (MK0 hW) (by decide) (ce8 (MK0 hW)) ⟨Nat.le_of_ble_eq_true rfl, Nat.le_of_ble_eq_true rfl⟩ dX7_goTo_146 rfl (rest := []) rfl (Nat.le_of_ble_eq_true rfl) a b c) ?_
      refine r_iincC hX dX7_goTo_149 1 rfl (d := (1 : Int32)) (by decide) (by decide) rfl ?_
      refine r_goto hX dX7_goTo_152 (tgt := 136) (by decide) ?_
      exact J.sub [1, 0] rfl (ih _ _  hf)
set_option maxRecDepth 20000 in
set_option maxHeartbeats 2000000 in
theorem wX7_goTo_L92 {X : Cx} {w : Wp} {σ' : St}  (hX : OK X w cX7_goTo 4 RX7 none (rmz 2 45) (Qv w σ')) (hW : MW w)  : ∀ (n : Nat) (σ : St) (x1 : Int32) (x2 : Int32), fX7_goTo_L92 n σ x1 x2 = some σ' → J X w 4 σ 92 [(0, rf w 0), (1, .int x1), (2, .int x2)] [] := by
  intro n
  induction n with
  | zero =>
    intro σ x1 x2 hf
    cases hf
  | succ n ih =>
    intro σ x1 x2 hf
    rw [fX7_goTo_L92] at hf
    refine r_iload_n hX dX7_goTo_92 rfl 2 rfl ?_
    refine r_iload_n hX dX7_goTo_93 rfl 1 rfl ?_
    refine r_icmp_gt hX dX7_goTo_94 (tgt := 134) (by decide) (fun h => ?_) (fun h => ?_)
    · have hf := ite_t h hf
      refine r_iconst hX dX7_goTo_134 (v := (0 : Int32)) (by decide) ?_
      refine r_istore_n hX (i := 2) dX7_goTo_135 rfl (by decide) rfl ?_
      exact J.sub [1, 0] rfl (wX7_goTo_L136 hX hW  _ _ _  hf)
    · have hf := ite_f h hf
      refine r_iconst hX dX7_goTo_97 (v := (0 : Int32)) (by decide) ?_
      refine r_istore_n hX (i := 3) dX7_goTo_98 rfl (by decide) rfl ?_
      exact J.sub [1, 2, 3, 0] rfl (wX7_goTo_L99 hX hW ih _ _ _ _ _  hf)
set_option maxRecDepth 20000 in
set_option maxHeartbeats 2000000 in
theorem wX7_goTo_L66 {X : Cx} {w : Wp} {σ' : St}  (hX : OK X w cX7_goTo 4 RX7 none (rmz 2 45) (Qv w σ')) (hW : MW w)  : ∀ (n : Nat) (σ : St) (x1 : Int32) (x2 : Int32), fX7_goTo_L66 n σ x1 x2 = some σ' → J X w 4 σ 66 [(0, rf w 0), (1, .int x1), (2, .int x2)] [] := by
  intro n
  induction n with
  | zero =>
    intro σ x1 x2 hf
    cases hf
  | succ n ih =>
    intro σ x1 x2 hf
    rw [fX7_goTo_L66] at hf
    refine r_iload_n hX dX7_goTo_66 rfl 2 rfl ?_
    refine r_bipush hX dX7_goTo_67 (v := (48 : Int32)) (by decide) ?_
    refine r_icmp_ge hX dX7_goTo_69 (tgt := 90) (by decide) (fun h => ?_) (fun h => ?_)
    · have hf := ite_t h hf
      refine r_iconst hX dX7_goTo_90 (v := (0 : Int32)) (by decide) ?_
      refine r_istore_n hX (i := 2) dX7_goTo_91 rfl (by decide) rfl ?_
      exact J.sub [1, 2, 0] rfl (wX7_goTo_L92 hX hW  _ _ _ _  hf)
    · have hf := ite_f h hf
      refine r_aload_n hX dX7_goTo_72 rfl 0 rfl ?_
      refine r_get hX cls7 (MK0 hW) (by decide) (ce8 (MK0 hW)) 17 (by decide) g3_78 rfl dX7_goTo_73 (rf w 15) rfl ?_
      refine r_iload_n hX dX7_goTo_76 rfl 2 rfl ?_
      refine r_aload_n hX dX7_goTo_77 rfl 0 rfl ?_
      refine r_get hX cls7 (MK0 hW) (by decide) (ce8 (MK0 hW)) 8 (by decide) g3_69 rfl dX7_goTo_78 (rf w 7) rfl ?_
      refine r_iload_n hX dX7_goTo_81 rfl 2 rfl ?_
      obtain ⟨hi2, hf⟩ := grd_some hf
      refine r_iald hX (MK7 hW) (ML7 hW) hi2 dX7_goTo_82 ?_
      obtain ⟨hi1, hf⟩ := grd_some hf
      refine r_iast hX (MK15 hW) (ML15 hW) hi1 dX7_goTo_83 ?_
      exact J.sub [0, 1, 2] rfl (wX7_goTo_b84 hX hW ih  hf)
set_option maxRecDepth 20000 in
set_option maxHeartbeats 2000000 in
theorem wX7_goTo_L2 {X : Cx} {w : Wp} {σ' : St}  (hX : OK X w cX7_goTo 4 RX7 none (rmz 2 45) (Qv w σ')) (hW : MW w)  : ∀ (n : Nat) (σ : St) (x1 : Int32) (x2 : Int32), fX7_goTo_L2 n σ x1 x2 = some σ' → J X w 4 σ 2 [(0, rf w 0), (1, .int x1), (2, .int x2)] [] := by
  intro n
  induction n with
  | zero =>
    intro σ x1 x2 hf
    cases hf
  | succ n ih =>
    intro σ x1 x2 hf
    rw [fX7_goTo_L2] at hf
    refine r_iload_n hX dX7_goTo_2 rfl 2 rfl ?_
    refine r_aload_n hX dX7_goTo_3 rfl 0 rfl ?_
    refine r_get hX cls7 (MK0 hW) (by decide) (ce8 (MK0 hW)) 1 (by decide) g3_62 rfl dX7_goTo_4 (.int (σ.1 0 1)) rfl ?_
    refine r_icmp_ge hX dX7_goTo_7 (tgt := 64) (by decide) (fun h => ?_) (fun h => ?_)
    · have hf := ite_t h hf
      refine r_iconst hX dX7_goTo_64 (v := (0 : Int32)) (by decide) ?_
      refine r_istore_n hX (i := 2) dX7_goTo_65 rfl (by decide) rfl ?_
      exact J.sub [1, 2, 0] rfl (wX7_goTo_L66 hX hW  _ _ _ _  hf)
    · have hf := ite_f h hf
      refine r_aload_n hX dX7_goTo_10 rfl 0 rfl ?_
      refine r_get hX cls7 (MK0 hW) (by decide) (ce8 (MK0 hW)) 18 (by decide) g3_79 rfl dX7_goTo_11 (rf w 16) rfl ?_
      refine r_bipush hX dX7_goTo_14 (v := (9 : Int32)) (by decide) ?_
      refine r_iload_n hX dX7_goTo_16 rfl 2 rfl ?_
      refine r_imul hX dX7_goTo_17 ?_
      refine r_aload_n hX dX7_goTo_18 rfl 0 rfl ?_
      refine r_get hX cls7 (MK0 hW) (by decide) (ce8 (MK0 hW)) 2 (by decide) g3_63 rfl dX7_goTo_19 (rf w 1) rfl ?_
      refine r_iload_n hX dX7_goTo_22 rfl 2 rfl ?_
      obtain ⟨hi2, hf⟩ := grd_some hf
      refine r_iald hX (MK1 hW) (ML1 hW) hi2 dX7_goTo_23 ?_
      refine r_i2l hX dX7_goTo_24 ?_
      obtain ⟨hi1, hf⟩ := grd_some hf
      refine r_last hX (MK16 hW) (ML16 hW) hi1 dX7_goTo_25 ?_
      exact J.sub [0, 1, 2] rfl (wX7_goTo_b26 hX hW ih  hf)
set_option maxRecDepth 20000 in
set_option maxHeartbeats 2000000 in
theorem wX7_goTo_b0 {X : Cx} {w : Wp} {σ : St} {σ' : St}  {x1 : Int32} (hX : OK X w cX7_goTo 4 RX7 none (rmz 2 45) (Qv w σ')) (hW : MW w)   (hf : fX7_goTo σ x1 = some σ') : J X w 4 σ 0 [(0, rf w 0), (1, .int x1)] [] := by
  rw [fX7_goTo] at hf
  refine r_iconst hX dX7_goTo_0 (v := (0 : Int32)) (by decide) ?_
  refine r_istore_n hX (i := 2) dX7_goTo_1 rfl (by decide) rfl ?_
  exact J.sub [1, 2, 0] rfl (wX7_goTo_L2 hX hW  _ _ _ _  hf)
theorem miX7_goTo : MI yX7_goTo cX7_goTo 4 none 1 := ⟨g3_201, ⟨by decide, by decide, by decide +kernel⟩, g1_6, by decide +kernel⟩
theorem cX7_goTo_ok (l : Launch) {w : Wp} {σ : St} {σ' : St} {x1 : Int32} (hW : MW w)  (hf : fX7_goTo σ x1 = some σ') : CM l w yX7_goTo cX7_goTo 4 none (rmz 2 45) [rf w 0, .int x1] σ (Qv w σ') := CM.of miX7_goTo.2.2.2 (Nat.le_of_ble_eq_true rfl) (fun X hcl hX => J.sub [0, 1] rfl (wX7_goTo_b0 hX hW  hf))
