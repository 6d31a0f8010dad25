-- X7_bestScene
set_option maxRecDepth 20000 in
set_option maxHeartbeats 2000000 in
theorem wX7_bestScene_b0 {X : Cx} {w : Wp} {σ : St} {r : Int32} {σ' : St}  {x1 : Int32} (hX : OK X w cX7_bestScene 2 RX7 (some .int) (rmz 3 72) (Qi w σ' r)) (hW : MW w)   (hf : fX7_bestScene σ x1 = some (r, σ')) : J X w 2 σ 0 [(0, rf w 0), (1, .int x1)] [] := by
  rw [fX7_bestScene] at hf
  refine r_iload_n hX dX7_bestScene_0 rfl 1 rfl ?_
  refine r_if_ge hX dX7_bestScene_1 (tgt := 7) (by decide) (fun h => ?_) (fun h => ?_)
  · have hf := ite_t h hf
    refine r_aload_n hX dX7_bestScene_7 rfl 0 rfl ?_
    obtain ⟨r1, σ2, hr3, hf⟩ := bd2_s hf
    refine J.calli (fun H locs ls a b c => runV hX miX7_findOrder (As := []) (cX7_findOrder_ok (xl X) hW  hr3) g4_109 g4_111 gs_37 cls7 (MK0 hW) (by decide) (ce8 (MK0 hW)) ⟨Nat.le_of_ble_eq_true rfl, Nat.le_of_ble_eq_true rfl⟩ dX7_bestScene_8 rfl (rest := []) rfl (Nat.le_of_ble_eq_true rfl) a b c) ?_
    refine r_pop hX dX7_bestScene_11 rfl ?_
    refine r_iload_n hX dX7_bestScene_12 rfl 1 rfl ?_
    refine r_aload_n hX dX7_bestScene_13 rfl 0 rfl ?_
    refine r_get hX cls7 (MK0 hW) (by decide) (ce8 (MK0 hW)) 23 (by decide) g3_84 rfl dX7_bestScene_14 (.int (σ2.1 0 23)) rfl ?_
    refine r_icmp_ge hX dX7_bestScene_17 (tgt := 29) (by decide) (fun h => ?_) (fun h => ?_)
    · have hf := ite_t h hf
      refine r_bipush hX dX7_bestScene_29 (v := (-5 : Int32)) (by decide) ?_
      cases hf
      exact r_iret hX dX7_bestScene_31
    · have hf := ite_f h hf
      refine r_aload_n hX dX7_bestScene_20 rfl 0 rfl ?_
      refine r_get hX cls7 (MK0 hW) (by decide) (ce8 (MK0 hW)) 26 (by decide) g3_87 rfl dX7_bestScene_21 (rf w 23) rfl ?_
      refine r_iload_n hX dX7_bestScene_24 rfl 1 rfl ?_
      obtain ⟨hi4, hf⟩ := grd_some hf
      refine r_iald hX (MK23 hW) (ML23 hW) hi4 dX7_bestScene_25 ?_
      refine r_goto hX dX7_bestScene_26 (tgt := 31) (by decide) ?_
      cases hf
      exact r_iret hX dX7_bestScene_31
  · have hf := ite_f h hf
    refine r_bipush hX dX7_bestScene_4 (v := (-3 : Int32)) (by decide) ?_
    cases hf
    exact r_iret hX dX7_bestScene_6
theorem miX7_bestScene : MI yX7_bestScene cX7_bestScene 2 (some .int) 1 := ⟨g4_108, ⟨by decide, by decide, by decide +kernel⟩, g1_6, by decide +kernel⟩
theorem cX7_bestScene_ok (l : Launch) {w : Wp} {σ : St} {r : Int32} {σ' : St} {x1 : Int32} (hW : MW w)  (hf : fX7_bestScene σ x1 = some (r, σ')) : CM l w yX7_bestScene cX7_bestScene 2 (some .int) (rmz 3 72) [rf w 0, .int x1] σ (Qi w σ' r) := CM.of miX7_bestScene.2.2.2 (Nat.le_of_ble_eq_true rfl) (fun X hcl hX => J.sub [0, 1] rfl (wX7_bestScene_b0 hX hW  hf))
-- X7_bestCost
set_option maxRecDepth 20000 in
set_option maxHeartbeats 2000000 in
theorem wX7_bestCost_b0 {X : Cx} {w : Wp} {σ : St} {r : Int32} {σ' : St}   (hX : OK X w cX7_bestCost 1 RX7 (some .int) (rmz 3 72) (Qi w σ' r)) (hW : MW w)   (hf : fX7_bestCost σ = some (r, σ')) : J X w 1 σ 0 [(0, rf w 0)] [] := by
  rw [fX7_bestCost] at hf
  refine r_aload_n hX dX7_bestCost_0 rfl 0 rfl ?_
  obtain ⟨r1, σ2, hr3, hf⟩ := bd2_s hf
  refine J.calli (fun H locs ls a b c => runV hX miX7_findOrder (As := []) (cX7_findOrder_ok (xl X) hW  hr3) g4_109 g4_111 gs_37 cls7 (MK0 hW) (by decide) (ce8 (MK0 hW)) ⟨Nat.le_of_ble_eq_true rfl, Nat.le_of_ble_eq_true rfl⟩ dX7_bestCost_1 rfl (rest := []) rfl (Nat.le_of_ble_eq_true rfl) a b c) ?_
  cases hf
  exact r_iret hX dX7_bestCost_4
theorem miX7_bestCost : MI yX7_bestCost cX7_bestCost 1 (some .int) 0 := ⟨g4_128, ⟨by decide, by decide, by decide +kernel⟩, g1_6, by decide +kernel⟩
theorem cX7_bestCost_ok (l : Launch) {w : Wp} {σ : St} {r : Int32} {σ' : St}  (hW : MW w)  (hf : fX7_bestCost σ = some (r, σ')) : CM l w yX7_bestCost cX7_bestCost 1 (some .int) (rmz 3 72) [rf w 0] σ (Qi w σ' r) := CM.of miX7_bestCost.2.2.2 (Nat.le_of_ble_eq_true rfl) (fun X hcl hX => J.sub [0] rfl (wX7_bestCost_b0 hX hW  hf))
