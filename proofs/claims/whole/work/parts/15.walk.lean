-- X7_crossings
set_option maxRecDepth 20000 in
set_option maxHeartbeats 2000000 in
theorem wX7_crossings_b0 {X : Cx} {w : Wp} {σ : St} {r : Int32} {σ' : St}  {x1 : Int32} {x2 : Int32} {x3 : Int32} (hX : OK X w cX7_crossings 5 RX7 (some .int) (rmz 6 147) (Qi w σ' r)) (hW : MW w)   (hf : fX7_crossings σ x1 x2 x3 = some (r, σ')) : J X w 5 σ 0 [(0, rf w 0), (1, .int x1), (2, .int x2), (3, .int x3)] [] := by
  rw [fX7_crossings] at hf
  refine r_aload_n hX dX7_crossings_0 rfl 0 rfl ?_
  refine r_iload_n hX dX7_crossings_1 rfl 1 rfl ?_
  refine r_iload_n hX dX7_crossings_2 rfl 2 rfl ?_
  refine r_iload_n hX dX7_crossings_3 rfl 3 rfl ?_
  refine J.calli (fun H locs ls a b c => runV hX miX7_twoBarred (As := [.int x1, .int x2, .int x3]) (cX7_twoBarred_ok (xl X) hW  rfl) g4_16 g4_18 gs_27 cls7 (MK0 hW) (by decide) (ce8 (MK0 hW)) ⟨Nat.le_of_ble_eq_true rfl, Nat.le_of_ble_eq_true rfl⟩ dX7_crossings_4 rfl (rest := []) rfl (Nat.le_of_ble_eq_true rfl) a b c) ?_
  refine r_istore hX (i := 4) dX7_crossings_7 (by decide) rfl ?_
  refine r_iload hX dX7_crossings_9 0 rfl ?_
  refine r_if_ge hX dX7_crossings_11 (tgt := 17) (by decide) (fun h => ?_) (fun h => ?_)
  · have hf := ite_t h hf
    refine r_aload_n hX dX7_crossings_17 rfl 1 rfl ?_
    refine r_iload_n hX dX7_crossings_18 rfl 4 rfl ?_
    obtain ⟨σ1, hr2, hf⟩ := bd_s hf
    refine J.callv (fun H locs ls a b c => runV hX miX7_goTo (As := [.int x3]) (cX7_goTo_ok (xl X) hW  hr2) g3_198 g3_200 gs_20 cls7 (MK0 hW) (by decide) (ce8 (MK0 hW)) ⟨Nat.le_of_ble_eq_true rfl, Nat.le_of_ble_eq_true rfl⟩ dX7_crossings_19 rfl (rest := []) rfl (Nat.le_of_ble_eq_true rfl) a b c) ?_
    refine r_aload_n hX dX7_crossings_22 rfl 1 rfl ?_
    refine r_iload_n hX dX7_crossings_23 rfl 2 rfl ?_
    refine r_iload_n hX dX7_crossings_24 rfl 3 rfl ?_
    obtain ⟨r3, σ4, hr5, hf⟩ := bd2_s hf
    refine J.calli (fun H locs ls a b c => runV hX miX7_crossingsNow (As := [.int x1, .int x2]) (cX7_crossingsNow_ok (xl X) hW  hr5) g4_20 g4_22 gs_28 cls7 (MK0 hW) (by decide) (ce8 (MK0 hW)) ⟨Nat.le_of_ble_eq_true rfl, Nat.le_of_ble_eq_true rfl⟩ dX7_crossings_25 rfl (rest := []) rfl (Nat.le_of_ble_eq_true rfl) a b c) ?_
    cases hf
    exact r_iret hX dX7_crossings_28
  · have hf := ite_f h hf
    refine r_iload hX dX7_crossings_14 0 rfl ?_
    cases hf
    exact r_iret hX dX7_crossings_16
theorem miX7_crossings : MI yX7_crossings cX7_crossings 5 (some .int) 3 := ⟨g4_15, ⟨by decide, by decide, by decide +kernel⟩, g1_6, by decide +kernel⟩
theorem cX7_crossings_ok (l : Launch) {w : Wp} {σ : St} {r : Int32} {σ' : St} {x1 : Int32} {x2 : Int32} {x3 : Int32} (hW : MW w)  (hf : fX7_crossings σ x1 x2 x3 = some (r, σ')) : CM l w yX7_crossings cX7_crossings 5 (some .int) (rmz 6 147) [rf w 0, .int x1, .int x2, .int x3] σ (Qi w σ' r) := CM.of miX7_crossings.2.2.2 (Nat.le_of_ble_eq_true rfl) (fun X hcl hX => J.sub [0, 1, 2, 3] rfl (wX7_crossings_b0 hX hW  hf))
-- X7_nextCrossing
set_option maxRecDepth 20000 in
set_option maxHeartbeats 2000000 in
theorem wX7_nextCrossing_L20 {X : Cx} {w : Wp} {r : Int32} {σ' : St}  (hX : OK X w cX7_nextCrossing 6 RX7 (some .int) (rmz 6 147) (Qi w σ' r)) (hW : MW w)  : ∀ (n : Nat) (σ : St) (x1 : Int32) (x2 : Int32) (x5 : Int32), fX7_nextCrossing_L20 n σ x1 x2 x5 = some (r, σ') → J X w 6 σ 20 [(0, rf w 0), (1, .int x1), (2, .int x2), (5, .int x5)] [] := by
  intro n
  induction n with
  | zero =>
    intro σ x1 x2 x5 hf
    cases hf
  | succ n ih =>
    intro σ x1 x2 x5 hf
    rw [fX7_nextCrossing_L20] at hf
    refine r_iload hX dX7_nextCrossing_20 3 rfl ?_
    refine r_bipush hX dX7_nextCrossing_22 (v := (100 : Int32)) (by decide) ?_
    refine r_icmp_ge hX dX7_nextCrossing_24 (tgt := 51) (by decide) (fun h => ?_) (fun h => ?_)
    · have hf := ite_t h hf
      refine r_bipush hX dX7_nextCrossing_51 (v := (-5 : Int32)) (by decide) ?_
      cases hf
      exact r_iret hX dX7_nextCrossing_53
    · have hf := ite_f h hf
      refine r_aload_n hX dX7_nextCrossing_27 rfl 0 rfl ?_
      refine r_iload hX dX7_nextCrossing_28 3 rfl ?_
      obtain ⟨σ1, hr2, hf⟩ := bd_s hf
      refine J.callv (fun H locs ls a b c => runV hX miX7_goTo (As := [.int x5]) (cX7_goTo_ok (xl X) hW  hr2) g3_198 g3_200 gs_20 cls7 (MK0 hW) (by decide) (ce8 (MK0 hW)) ⟨Nat.le_of_ble_eq_true rfl, Nat.le_of_ble_eq_true rfl⟩ dX7_nextCrossing_30 rfl (rest := []) rfl (Nat.le_of_ble_eq_true rfl) a b c) ?_
      refine r_aload_n hX dX7_nextCrossing_33 rfl 0 rfl ?_
      refine r_iload_n hX dX7_nextCrossing_34 rfl 1 rfl ?_
      refine r_iload_n hX dX7_nextCrossing_35 rfl 2 rfl ?_
      obtain ⟨r3, σ4, hr5, hf⟩ := bd2_s hf
      refine J.calli (fun H locs ls a b c => runV hX miX7_crossingsNow (As := [.int x1, .int x2]) (cX7_crossingsNow_ok (xl X) hW  hr5) g4_20 g4_22 gs_28 cls7 (MK0 hW) (by decide) (ce8 (MK0 hW)) ⟨Nat.le_of_ble_eq_true rfl, Nat.le_of_ble_eq_true rfl⟩ dX7_nextCrossing_36 rfl (rest := []) rfl (Nat.le_of_ble_eq_true rfl) a b c) ?_
      refine r_if_le hX dX7_nextCrossing_39 (tgt := 45) (by decide) (fun h => ?_) (fun h => ?_)
      · have hf := ite_t h hf
        refine r_iincC hX dX7_nextCrossing_45 3 rfl (d := (1 : Int32)) (by decide) (by decide) rfl ?_
        refine r_goto hX dX7_nextCrossing_48 (tgt := 20) (by decide) ?_
        exact J.sub [1, 2, 3, 0] rfl (ih _ _ _ _  hf)
      · have hf := ite_f h hf
        refine r_iload hX dX7_nextCrossing_42 3 rfl ?_
        cases hf
        exact r_iret hX dX7_nextCrossing_44
set_option maxRecDepth 20000 in
set_option maxHeartbeats 2000000 in
theorem wX7_nextCrossing_b0 {X : Cx} {w : Wp} {σ : St} {r : Int32} {σ' : St}  {x1 : Int32} {x2 : Int32} {x3 : Int32} (hX : OK X w cX7_nextCrossing 6 RX7 (some .int) (rmz 6 147) (Qi w σ' r)) (hW : MW w)   (hf : fX7_nextCrossing σ x1 x2 x3 = some (r, σ')) : J X w 6 σ 0 [(0, rf w 0), (1, .int x1), (2, .int x2), (3, .int x3)] [] := by
  rw [fX7_nextCrossing] at hf
  refine r_aload_n hX dX7_nextCrossing_0 rfl 0 rfl ?_
  refine r_iload_n hX dX7_nextCrossing_1 rfl 1 rfl ?_
  refine r_iload_n hX dX7_nextCrossing_2 rfl 2 rfl ?_
  refine r_iload_n hX dX7_nextCrossing_3 rfl 3 rfl ?_
  refine J.calli (fun H locs ls a b c => runV hX miX7_twoBarred (As := [.int x1, .int x2, .int x3]) (cX7_twoBarred_ok (xl X) hW  rfl) g4_16 g4_18 gs_27 cls7 (MK0 hW) (by decide) (ce8 (MK0 hW)) ⟨Nat.le_of_ble_eq_true rfl, Nat.le_of_ble_eq_true rfl⟩ dX7_nextCrossing_4 rfl (rest := []) rfl (Nat.le_of_ble_eq_true rfl) a b c) ?_
  refine r_istore hX (i := 4) dX7_nextCrossing_7 (by decide) rfl ?_
  refine r_iload hX dX7_nextCrossing_9 0 rfl ?_
  refine r_if_ge hX dX7_nextCrossing_11 (tgt := 17) (by decide) (fun h => ?_) (fun h => ?_)
  · have hf := ite_t h hf
    refine r_iload_n hX dX7_nextCrossing_17 rfl 4 rfl ?_
    refine r_istore hX (i := 5) dX7_nextCrossing_18 (by decide) rfl ?_
    exact J.sub [2, 3, 4, 0] rfl (wX7_nextCrossing_L20 hX hW  _ _ _ _ _  hf)
  · have hf := ite_f h hf
    refine r_iload hX dX7_nextCrossing_14 0 rfl ?_
    cases hf
    exact r_iret hX dX7_nextCrossing_16
theorem miX7_nextCrossing : MI yX7_nextCrossing cX7_nextCrossing 6 (some .int) 3 := ⟨g4_52, ⟨by decide, by decide, by decide +kernel⟩, g1_6, by decide +kernel⟩
theorem cX7_nextCrossing_ok (l : Launch) {w : Wp} {σ : St} {r : Int32} {σ' : St} {x1 : Int32} {x2 : Int32} {x3 : Int32} (hW : MW w)  (hf : fX7_nextCrossing σ x1 x2 x3 = some (r, σ')) : CM l w yX7_nextCrossing cX7_nextCrossing 6 (some .int) (rmz 6 147) [rf w 0, .int x1, .int x2, .int x3] σ (Qi w σ' r) := CM.of miX7_nextCrossing.2.2.2 (Nat.le_of_ble_eq_true rfl) (fun X hcl hX => J.sub [0, 1, 2, 3] rfl (wX7_nextCrossing_b0 hX hW  hf))
-- X7_isWithin
set_option maxRecDepth 20000 in
set_option maxHeartbeats 2000000 in
theorem wX7_isWithin_b0 {X : Cx} {w : Wp} {σ : St} {r : Int32}  {x1 : Int32} {x2 : Int64} {x4 : Int64} (hX : OK X w cX7_isWithin 10 RX7 (some .boolean) (rmz 3 71) (Qz w σ r)) (hW : MW w)   (hf : fX7_isWithin σ x1 x2 x4 = some r) : J X w 10 σ 0 [(0, rf w 0), (1, .int x1), (2, .long x2), (4, .long x4)] [] := by
  rw [fX7_isWithin] at hf
  refine r_aload_n hX dX7_isWithin_0 rfl 0 rfl ?_
  refine r_iload_n hX dX7_isWithin_1 rfl 1 rfl ?_
  refine r_iconst hX dX7_isWithin_2 (v := (1 : Int32)) (by decide) ?_
  obtain ⟨r1, hr2, hf⟩ := bd_s hf
  refine J.calll (fun H locs ls a b c => runV hX miX7_measure (As := [.int x1, .int (1 : Int32)]) (cX7_measure_ok (xl X) hW  hr2) g3_224 g3_226 gs_24 cls7 (MK0 hW) (by decide) (ce8 (MK0 hW)) ⟨Nat.le_of_ble_eq_true rfl, Nat.le_of_ble_eq_true rfl⟩ dX7_isWithin_3 rfl (rest := []) rfl (Nat.le_of_ble_eq_true rfl) a b c) ?_
  refine r_aload_n hX dX7_isWithin_6 rfl 0 rfl ?_
  refine r_iload_n hX dX7_isWithin_7 rfl 1 rfl ?_
  refine r_iconst hX dX7_isWithin_8 (v := (0 : Int32)) (by decide) ?_
  obtain ⟨r3, hr4, hf⟩ := bd_s hf
  refine J.calll (fun H locs ls a b c => runV hX miX7_measure (As := [.int x1, .int (0 : Int32)]) (cX7_measure_ok (xl X) hW  hr4) g3_224 g3_226 gs_24 cls7 (MK0 hW) (by decide) (ce8 (MK0 hW)) ⟨Nat.le_of_ble_eq_true rfl, Nat.le_of_ble_eq_true rfl⟩ dX7_isWithin_9 rfl (rest := [.long r1]) rfl (Nat.le_of_ble_eq_true rfl) a b c) ?_
  refine r_lneg hX dX7_isWithin_12 ?_
  refine J.calll (fun H locs ls a b c => runS hX miX7_most (cX7_most_ok (xl X)  rfl) g3_232 g3_233 ⟨Nat.le_of_ble_eq_true rfl, Nat.le_of_ble_eq_true rfl⟩ dX7_isWithin_13 rfl (As := [.long r1, .long (-r3)]) (rest := []) rfl (Nat.le_of_ble_eq_true rfl) a b c) ?_
  refine r_lstore hX (i := 6) dX7_isWithin_16 (by decide) rfl ?_
  refine r_aload_n hX dX7_isWithin_18 rfl 1 rfl ?_
  refine r_iload_n hX dX7_isWithin_19 rfl 2 rfl ?_
  refine r_iconst hX dX7_isWithin_20 (v := (3 : Int32)) (by decide) ?_
  obtain ⟨r5, hr6, hf⟩ := bd_s hf
  refine J.calll (fun H locs ls a b c => runV hX miX7_measure (As := [.int x1, .int (3 : Int32)]) (cX7_measure_ok (xl X) hW  hr6) g3_224 g3_226 gs_24 cls7 (MK0 hW) (by decide) (ce8 (MK0 hW)) ⟨Nat.le_of_ble_eq_true rfl, Nat.le_of_ble_eq_true rfl⟩ dX7_isWithin_21 rfl (rest := []) rfl (Nat.le_of_ble_eq_true rfl) a b c) ?_
  refine r_aload_n hX dX7_isWithin_24 rfl 1 rfl ?_
  refine r_iload_n hX dX7_isWithin_25 rfl 2 rfl ?_
  refine r_iconst hX dX7_isWithin_26 (v := (2 : Int32)) (by decide) ?_
  obtain ⟨r7, hr8, hf⟩ := bd_s hf
  refine J.calll (fun H locs ls a b c => runV hX miX7_measure (As := [.int x1, .int (2 : Int32)]) (cX7_measure_ok (xl X) hW  hr8) g3_224 g3_226 gs_24 cls7 (MK0 hW) (by decide) (ce8 (MK0 hW)) ⟨Nat.le_of_ble_eq_true rfl, Nat.le_of_ble_eq_true rfl⟩ dX7_isWithin_27 rfl (rest := [.long r5]) rfl (Nat.le_of_ble_eq_true rfl) a b c) ?_
  refine r_lneg hX dX7_isWithin_30 ?_
  refine J.calll (fun H locs ls a b c => runS hX miX7_most (cX7_most_ok (xl X)  rfl) g3_232 g3_233 ⟨Nat.le_of_ble_eq_true rfl, Nat.le_of_ble_eq_true rfl⟩ dX7_isWithin_31 rfl (As := [.long r5, .long (-r7)]) (rest := []) rfl (Nat.le_of_ble_eq_true rfl) a b c) ?_
  refine r_lstore hX (i := 8) dX7_isWithin_34 (by decide) rfl ?_
  refine r_lload hX dX7_isWithin_36 1 rfl ?_
  refine r_aload_n hX dX7_isWithin_38 rfl 2 rfl ?_
  refine r_get hX cls7 (MK0 hW) (by decide) (ce8 (MK0 hW)) 0 (by decide) g3_61 rfl dX7_isWithin_39 (.int (σ.1 0 0)) rfl ?_
  refine r_i2l hX dX7_isWithin_42 ?_
  refine r_lmul hX dX7_isWithin_43 ?_
  refine r_lload_n hX dX7_isWithin_44 rfl 4 rfl ?_
  refine r_aload_n hX dX7_isWithin_45 rfl 2 rfl ?_
  refine r_get hX cls7 (MK0 hW) (by decide) (ce8 (MK0 hW)) 16 (by decide) g3_77 rfl dX7_isWithin_46 (rf w 14) rfl ?_
  refine r_iload_n hX dX7_isWithin_49 rfl 3 rfl ?_
  obtain ⟨hi10, hf⟩ := grd_some hf
  refine r_iald hX (MK14 hW) (ML14 hW) hi10 dX7_isWithin_50 ?_
  refine r_i2l hX dX7_isWithin_51 ?_
  refine r_lmul hX dX7_isWithin_52 ?_
  refine r_lcmp_gt hX dX7_isWithin_53 dX7_isWithin_54 (tgt := 83) (by decide) (fun h => ?_) (fun h => ?_)
  · have hf := ite_t h hf
    refine r_iconst hX dX7_isWithin_83 (v := (0 : Int32)) (by decide) ?_
    cases hf
    exact r_zret hX bz0 dX7_isWithin_84
  · have hf := ite_f h hf
    refine r_lload hX dX7_isWithin_57 0 rfl ?_
    refine r_aload_n hX dX7_isWithin_59 rfl 2 rfl ?_
    refine r_get hX cls7 (MK0 hW) (by decide) (ce8 (MK0 hW)) 0 (by decide) g3_61 rfl dX7_isWithin_60 (.int (σ.1 0 0)) rfl ?_
    refine r_i2l hX dX7_isWithin_63 ?_
    refine r_lmul hX dX7_isWithin_64 ?_
    refine r_lload hX dX7_isWithin_65 5 rfl ?_
    refine r_aload_n hX dX7_isWithin_67 rfl 2 rfl ?_
    refine r_get hX cls7 (MK0 hW) (by decide) (ce8 (MK0 hW)) 16 (by decide) g3_77 rfl dX7_isWithin_68 (rf w 14) rfl ?_
    refine r_iload_n hX dX7_isWithin_71 rfl 3 rfl ?_
    obtain ⟨hi9, hf⟩ := grd_some hf
    refine r_iald hX (MK14 hW) (ML14 hW) hi9 dX7_isWithin_72 ?_
    refine r_i2l hX dX7_isWithin_73 ?_
    refine r_lmul hX dX7_isWithin_74 ?_
    refine r_lcmp_gt hX dX7_isWithin_75 dX7_isWithin_76 (tgt := 83) (by decide) (fun h => ?_) (fun h => ?_)
    · have hf := ite_t h hf
      refine r_iconst hX dX7_isWithin_83 (v := (0 : Int32)) (by decide) ?_
      cases hf
      exact r_zret hX bz0 dX7_isWithin_84
    · have hf := ite_f h hf
      refine r_iconst hX dX7_isWithin_79 (v := (1 : Int32)) (by decide) ?_
      refine r_goto hX dX7_isWithin_80 (tgt := 84) (by decide) ?_
      cases hf
      exact r_zret hX bz1 dX7_isWithin_84
theorem miX7_isWithin : MI yX7_isWithin cX7_isWithin 10 (some .boolean) 3 := ⟨g4_60, ⟨by decide, by decide, by decide +kernel⟩, g1_6, by decide +kernel⟩
theorem cX7_isWithin_ok (l : Launch) {w : Wp} {σ : St} {r : Int32} {x1 : Int32} {x2 : Int64} {x4 : Int64} (hW : MW w)  (hf : fX7_isWithin σ x1 x2 x4 = some r) : CM l w yX7_isWithin cX7_isWithin 10 (some .boolean) (rmz 3 71) [rf w 0, .int x1, .long x2, .long x4] σ (Qz w σ r) := CM.of miX7_isWithin.2.2.2 (Nat.le_of_ble_eq_true rfl) (fun X hcl hX => J.sub [0, 1, 2, 3] rfl (wX7_isWithin_b0 hX hW  hf))
-- X7_within
set_option maxRecDepth 20000 in
set_option maxHeartbeats 2000000 in
theorem wX7_within_b75 {X : Cx} {w : Wp} {σ : St} {r : Int32} {σ' : St} {k43 : St → Int32 → Int32 → Int32 → Int32 → Option (Int32 × St)} {x1 : Int32} {x2 : Int32} {x5 : Int32} {xs0 : Int32} {xs1 : Int32} (hX : OK X w cX7_within 6 RX7 (some .int) (rmz 4 100) (Qi w σ' r)) (hW : MW w) (hk43 : ∀ (σ : St) (x1 : Int32) (x2 : Int32) (x4 : Int32) (x5 : Int32), k43 σ x1 x2 x4 x5 = some (r, σ') → J X w 6 σ 43 [(0, rf w 0), (1, .int x1), (2, .int x2), (4, .int x4), (5, .int x5)] [])  (hf : fX7_within_b75 k43 σ x1 x2 x5 xs0 xs1 = some (r, σ')) : J X w 6 σ 75 [(0, rf w 0), (1, .int x1), (2, .int x2), (5, .int x5)] [.int xs1, .int xs0] := by
  rw [fX7_within_b75] at hf
  refine r_ior hX dX7_within_75 ?_
  refine r_istore hX (i := 4) dX7_within_76 (by decide) rfl ?_
  refine r_iincC hX dX7_within_78 4 rfl (d := (1 : Int32)) (by decide) (by decide) rfl ?_
  refine r_goto hX dX7_within_81 (tgt := 43) (by decide) ?_
  exact J.sub [2, 3, 4, 1, 0] rfl (hk43 _ _ _ _ _  hf)
set_option maxRecDepth 20000 in
set_option maxHeartbeats 2000000 in
theorem wX7_within_L43 {X : Cx} {w : Wp} {r : Int32} {σ' : St}  (hX : OK X w cX7_within 6 RX7 (some .int) (rmz 4 100) (Qi w σ' r)) (hW : MW w)  : ∀ (n : Nat) (σ : St) (x1 : Int32) (x2 : Int32) (x4 : Int32) (x5 : Int32), fX7_within_L43 n σ x1 x2 x4 x5 = some (r, σ') → J X w 6 σ 43 [(0, rf w 0), (1, .int x1), (2, .int x2), (4, .int x4), (5, .int x5)] [] := by
  intro n
  induction n with
  | zero =>
    intro σ x1 x2 x4 x5 hf
    cases hf
  | succ n ih =>
    intro σ x1 x2 x4 x5 hf
    rw [fX7_within_L43] at hf
    refine r_iload hX dX7_within_43 4 rfl ?_
    refine r_aload_n hX dX7_within_45 rfl 0 rfl ?_
    refine r_get hX cls7 (MK0 hW) (by decide) (ce8 (MK0 hW)) 1 (by decide) g3_62 rfl dX7_within_46 (.int (σ.1 0 1)) rfl ?_
    refine r_icmp_ge hX dX7_within_49 (tgt := 84) (by decide) (fun h => ?_) (fun h => ?_)
    · have hf := ite_t h hf
      refine r_iload hX dX7_within_84 3 rfl ?_
      cases hf
      exact r_iret hX dX7_within_86
    · have hf := ite_f h hf
      refine r_iload hX dX7_within_52 3 rfl ?_
      refine r_aload_n hX dX7_within_54 rfl 0 rfl ?_
      refine r_iload hX dX7_within_55 4 rfl ?_
      refine r_iload_n hX dX7_within_57 rfl 1 rfl ?_
      refine r_i2l hX dX7_within_58 ?_
      refine r_iload_n hX dX7_within_59 rfl 2 rfl ?_
      refine r_i2l hX dX7_within_60 ?_
      obtain ⟨r1, hr3, hf⟩ := bd_s hf
      refine J.callz (fun H locs ls a b c => runV hX miX7_isWithin (As := [.int x5, .long ((x1).toInt64), .long ((x2).toInt64)]) (cX7_isWithin_ok (xl X) hW  hr3) g4_57 g4_59 gs_33 cls7 (MK0 hW) (by decide) (ce8 (MK0 hW)) ⟨Nat.le_of_ble_eq_true rfl, Nat.le_of_ble_eq_true rfl⟩ dX7_within_61 rfl (rest := [.int x4]) rfl (Nat.le_of_ble_eq_true rfl) a b c) (fun hz2 => ?_)
      refine r_if_eq hX dX7_within_64 (tgt := 74) (by decide) (fun h => ?_) (fun h => ?_)
      · have hf := ite_t h hf
        refine r_iconst hX dX7_within_74 (v := (0 : Int32)) (by decide) ?_
        exact J.sub [0, 1, 2, 4] rfl (wX7_within_b75 hX hW ih  hf)
      · have hf := ite_f h hf
        refine r_iconst hX dX7_within_67 (v := (1 : Int32)) (by decide) ?_
        refine r_iload hX dX7_within_68 4 rfl ?_
        refine r_ishl hX dX7_within_70 ?_
        refine r_goto hX dX7_within_71 (tgt := 75) (by decide) ?_
        exact J.sub [0, 1, 2, 4] rfl (wX7_within_b75 hX hW ih  hf)
set_option maxRecDepth 20000 in
set_option maxHeartbeats 2000000 in
theorem wX7_within_b0 {X : Cx} {w : Wp} {σ : St} {r : Int32} {σ' : St}  {x1 : Int32} {x2 : Int32} {x3 : Int32} (hX : OK X w cX7_within 6 RX7 (some .int) (rmz 4 100) (Qi w σ' r)) (hW : MW w)   (hf : fX7_within σ x1 x2 x3 = some (r, σ')) : J X w 6 σ 0 [(0, rf w 0), (1, .int x1), (2, .int x2), (3, .int x3)] [] := by
  rw [fX7_within] at hf
  refine r_iload_n hX dX7_within_0 rfl 1 rfl ?_
  refine r_iconst hX dX7_within_1 (v := (0 : Int32)) (by decide) ?_
  refine r_sipush hX dX7_within_2 (v := (20000 : Int32)) (by decide) ?_
  refine J.callz (fun H locs ls a b c => runS hX miX7_in (cX7_in_ok (xl X)  rfl) g3_148 g3_149 ⟨Nat.le_of_ble_eq_true rfl, Nat.le_of_ble_eq_true rfl⟩ dX7_within_5 rfl (As := [.int x1, .int (0 : Int32), .int (20000 : Int32)]) (rest := []) rfl (Nat.le_of_ble_eq_true rfl) a b c) (fun hz1 => ?_)
  refine r_if_eq hX dX7_within_8 (tgt := 29) (by decide) (fun h => ?_) (fun h => ?_)
  · have hf := ite_t h hf
    refine r_bipush hX dX7_within_29 (v := (-3 : Int32)) (by decide) ?_
    cases hf
    exact r_iret hX dX7_within_31
  · have hf := ite_f h hf
    refine r_iload_n hX dX7_within_11 rfl 2 rfl ?_
    refine r_iconst hX dX7_within_12 (v := (0 : Int32)) (by decide) ?_
    refine r_sipush hX dX7_within_13 (v := (20000 : Int32)) (by decide) ?_
    refine J.callz (fun H locs ls a b c => runS hX miX7_in (cX7_in_ok (xl X)  rfl) g3_148 g3_149 ⟨Nat.le_of_ble_eq_true rfl, Nat.le_of_ble_eq_true rfl⟩ dX7_within_16 rfl (As := [.int x2, .int (0 : Int32), .int (20000 : Int32)]) (rest := []) rfl (Nat.le_of_ble_eq_true rfl) a b c) (fun hz2 => ?_)
    refine r_if_eq hX dX7_within_19 (tgt := 29) (by decide) (fun h => ?_) (fun h => ?_)
    · have hf := ite_t h hf
      refine r_bipush hX dX7_within_29 (v := (-3 : Int32)) (by decide) ?_
      cases hf
      exact r_iret hX dX7_within_31
    · have hf := ite_f h hf
      refine r_iload_n hX dX7_within_22 rfl 3 rfl ?_
      refine J.callz (fun H locs ls a b c => runS hX miX7_isBeat (cX7_isBeat_ok (xl X)  rfl) g3_175 g3_176 ⟨Nat.le_of_ble_eq_true rfl, Nat.le_of_ble_eq_true rfl⟩ dX7_within_23 rfl (As := [.int x3]) (rest := []) rfl (Nat.le_of_ble_eq_true rfl) a b c) (fun hz3 => ?_)
      refine r_if_ne hX dX7_within_26 (tgt := 32) (by decide) (fun h => ?_) (fun h => ?_)
      · have hf := ite_f h hf
        refine r_aload_n hX dX7_within_32 rfl 0 rfl ?_
        refine r_iload_n hX dX7_within_33 rfl 3 rfl ?_
        obtain ⟨σ4, hr5, hf⟩ := bd_s hf
        refine J.callv (fun H locs ls a b c => runV hX miX7_goTo (As := [.int x3]) (cX7_goTo_ok (xl X) hW  hr5) g3_198 g3_200 gs_20 cls7 (MK0 hW) (by decide) (ce8 (MK0 hW)) ⟨Nat.le_of_ble_eq_true rfl, Nat.le_of_ble_eq_true rfl⟩ dX7_within_34 rfl (rest := []) rfl (Nat.le_of_ble_eq_true rfl) a b c) ?_
        refine r_iconst hX dX7_within_37 (v := (0 : Int32)) (by decide) ?_
        refine r_istore hX (i := 4) dX7_within_38 (by decide) rfl ?_
        refine r_iconst hX dX7_within_40 (v := (0 : Int32)) (by decide) ?_
        refine r_istore hX (i := 5) dX7_within_41 (by decide) rfl ?_
        exact J.sub [2, 3, 4, 1, 0] rfl (wX7_within_L43 hX hW  _ _ _ _ _ _  hf)
      · have hf := ite_t h hf
        refine r_bipush hX dX7_within_29 (v := (-3 : Int32)) (by decide) ?_
        cases hf
        exact r_iret hX dX7_within_31
theorem miX7_within : MI yX7_within cX7_within 6 (some .int) 3 := ⟨g4_56, ⟨by decide, by decide, by decide +kernel⟩, g1_6, by decide +kernel⟩
theorem cX7_within_ok (l : Launch) {w : Wp} {σ : St} {r : Int32} {σ' : St} {x1 : Int32} {x2 : Int32} {x3 : Int32} (hW : MW w)  (hf : fX7_within σ x1 x2 x3 = some (r, σ')) : CM l w yX7_within cX7_within 6 (some .int) (rmz 4 100) [rf w 0, .int x1, .int x2, .int x3] σ (Qi w σ' r) := CM.of miX7_within.2.2.2 (Nat.le_of_ble_eq_true rfl) (fun X hcl hX => J.sub [0, 1, 2, 3] rfl (wX7_within_b0 hX hW  hf))
-- X7_highest
set_option maxRecDepth 20000 in
set_option maxHeartbeats 2000000 in
theorem wX7_highest_b81 {X : Cx} {w : Wp} {σ : St} {r : Int32} {σ' : St} {k20 : St → Int32 → Int32 → Option (Int32 × St)} {x3 : Int32} {xs0 : Int32} (hX : OK X w cX7_highest 5 RX7 (some .int) (rmz 3 71) (Qi w σ' r)) (hW : MW w) (hk20 : ∀ (σ : St) (x2 : Int32) (x3 : Int32), k20 σ x2 x3 = some (r, σ') → J X w 5 σ 20 [(0, rf w 0), (2, .int x2), (3, .int x3)] [])  (hf : fX7_highest_b81 k20 σ x3 xs0 = some (r, σ')) : J X w 5 σ 81 [(0, rf w 0), (3, .int x3)] [.int xs0] := by
  rw [fX7_highest_b81] at hf
  refine r_istore_n hX (i := 2) dX7_highest_81 rfl (by decide) rfl ?_
  refine r_iincC hX dX7_highest_82 2 rfl (d := (1 : Int32)) (by decide) (by decide) rfl ?_
  refine r_goto hX dX7_highest_85 (tgt := 20) (by decide) ?_
  exact J.sub [2, 1, 0] rfl (hk20 _ _ _  hf)
set_option maxRecDepth 20000 in
set_option maxHeartbeats 2000000 in
theorem wX7_highest_b69 {X : Cx} {w : Wp} {σ : St} {r : Int32} {σ' : St} {k20 : St → Int32 → Int32 → Option (Int32 × St)} {x2 : Int32} {x3 : Int32} {xs0 : Int32} (hX : OK X w cX7_highest 5 RX7 (some .int) (rmz 3 71) (Qi w σ' r)) (hW : MW w) (hk20 : ∀ (σ : St) (x2 : Int32) (x3 : Int32), k20 σ x2 x3 = some (r, σ') → J X w 5 σ 20 [(0, rf w 0), (2, .int x2), (3, .int x3)] [])  (hf : fX7_highest_b69 k20 σ x2 x3 xs0 = some (r, σ')) : J X w 5 σ 69 [(0, rf w 0), (2, .int x2), (3, .int x3)] [.int xs0] := by
  rw [fX7_highest_b69] at hf
  refine r_istore hX (i := 4) dX7_highest_69 (by decide) rfl ?_
  refine r_iload hX dX7_highest_71 0 rfl ?_
  refine r_if_eq hX dX7_highest_73 (tgt := 80) (by decide) (fun h => ?_) (fun h => ?_)
  · have hf := ite_t h hf
    refine r_iload_n hX dX7_highest_80 rfl 2 rfl ?_
    exact J.sub [1, 3] rfl (wX7_highest_b81 hX hW hk20  hf)
  · have hf := ite_f h hf
    refine r_iload_n hX dX7_highest_76 rfl 3 rfl ?_
    refine r_goto hX dX7_highest_77 (tgt := 81) (by decide) ?_
    exact J.sub [1, 3] rfl (wX7_highest_b81 hX hW hk20  hf)
set_option maxRecDepth 20000 in
set_option maxHeartbeats 2000000 in
theorem wX7_highest_b64 {X : Cx} {w : Wp} {σ : St} {r : Int32} {σ' : St} {k20 : St → Int32 → Int32 → Option (Int32 × St)} {x2 : Int32} {x3 : Int32} (hX : OK X w cX7_highest 5 RX7 (some .int) (rmz 3 71) (Qi w σ' r)) (hW : MW w) (hk20 : ∀ (σ : St) (x2 : Int32) (x3 : Int32), k20 σ x2 x3 = some (r, σ') → J X w 5 σ 20 [(0, rf w 0), (2, .int x2), (3, .int x3)] [])  (hf : fX7_highest_b64 k20 σ x2 x3 = some (r, σ')) : J X w 5 σ 64 [(0, rf w 0), (2, .int x2), (3, .int x3)] [] := by
  rw [fX7_highest_b64] at hf
  refine r_iconst hX dX7_highest_64 (v := (1 : Int32)) (by decide) ?_
  refine r_goto hX dX7_highest_65 (tgt := 69) (by decide) ?_
  exact J.sub [0, 1, 2] rfl (wX7_highest_b69 hX hW hk20  hf)
set_option maxRecDepth 20000 in
set_option maxHeartbeats 2000000 in
theorem wX7_highest_L20 {X : Cx} {w : Wp} {r : Int32} {σ' : St}  (hX : OK X w cX7_highest 5 RX7 (some .int) (rmz 3 71) (Qi w σ' r)) (hW : MW w)  : ∀ (n : Nat) (σ : St) (x2 : Int32) (x3 : Int32), fX7_highest_L20 n σ x2 x3 = some (r, σ') → J X w 5 σ 20 [(0, rf w 0), (2, .int x2), (3, .int x3)] [] := by
  intro n
  induction n with
  | zero =>
    intro σ x2 x3 hf
    cases hf
  | succ n ih =>
    intro σ x2 x3 hf
    rw [fX7_highest_L20] at hf
    refine r_iload_n hX dX7_highest_20 rfl 2 rfl ?_
    refine r_aload_n hX dX7_highest_21 rfl 0 rfl ?_
    refine r_get hX cls7 (MK0 hW) (by decide) (ce8 (MK0 hW)) 1 (by decide) g3_62 rfl dX7_highest_22 (.int (σ.1 0 1)) rfl ?_
    refine r_icmp_ge hX dX7_highest_25 (tgt := 88) (by decide) (fun h => ?_) (fun h => ?_)
    · have hf := ite_t h hf
      refine r_iload_n hX dX7_highest_88 rfl 1 rfl ?_
      cases hf
      exact r_iret hX dX7_highest_89
    · have hf := ite_f h hf
      refine r_iload_n hX dX7_highest_28 rfl 1 rfl ?_
      refine r_if_lt hX dX7_highest_29 (tgt := 64) (by decide) (fun h => ?_) (fun h => ?_)
      · have hf := ite_t h hf
        exact J.sub [0, 1, 2] rfl (wX7_highest_b64 hX hW ih  hf)
      · have hf := ite_f h hf
        refine r_aload_n hX dX7_highest_32 rfl 0 rfl ?_
        refine r_iload_n hX dX7_highest_33 rfl 2 rfl ?_
        refine r_iconst hX dX7_highest_34 (v := (5 : Int32)) (by decide) ?_
        obtain ⟨r1, hr2, hf⟩ := bd_s hf
        refine J.calll (fun H locs ls a b c => runV hX miX7_measure (As := [.int x3, .int (5 : Int32)]) (cX7_measure_ok (xl X) hW  hr2) g3_224 g3_226 gs_24 cls7 (MK0 hW) (by decide) (ce8 (MK0 hW)) ⟨Nat.le_of_ble_eq_true rfl, Nat.le_of_ble_eq_true rfl⟩ dX7_highest_35 rfl (rest := []) rfl (Nat.le_of_ble_eq_true rfl) a b c) ?_
        refine r_aload_n hX dX7_highest_38 rfl 0 rfl ?_
        refine r_get hX cls7 (MK0 hW) (by decide) (ce8 (MK0 hW)) 16 (by decide) g3_77 rfl dX7_highest_39 (rf w 14) rfl ?_
        refine r_iload_n hX dX7_highest_42 rfl 1 rfl ?_
        obtain ⟨hi6, hf⟩ := grd_some hf
        refine r_iald hX (MK14 hW) (ML14 hW) hi6 dX7_highest_43 ?_
        refine r_i2l hX dX7_highest_44 ?_
        refine r_lmul hX dX7_highest_45 ?_
        refine r_aload_n hX dX7_highest_46 rfl 0 rfl ?_
        refine r_iload_n hX dX7_highest_47 rfl 1 rfl ?_
        refine r_iconst hX dX7_highest_48 (v := (5 : Int32)) (by decide) ?_
        obtain ⟨r3, hr4, hf⟩ := bd_s hf
        refine J.calll (fun H locs ls a b c => runV hX miX7_measure (As := [.int x2, .int (5 : Int32)]) (cX7_measure_ok (xl X) hW  hr4) g3_224 g3_226 gs_24 cls7 (MK0 hW) (by decide) (ce8 (MK0 hW)) ⟨Nat.le_of_ble_eq_true rfl, Nat.le_of_ble_eq_true rfl⟩ dX7_highest_49 rfl (rest := [.long (r1 * ((σ.1 14 (ix x2))).toInt64)]) rfl (Nat.le_of_ble_eq_true rfl) a b c) ?_
        refine r_aload_n hX dX7_highest_52 rfl 0 rfl ?_
        refine r_get hX cls7 (MK0 hW) (by decide) (ce8 (MK0 hW)) 16 (by decide) g3_77 rfl dX7_highest_53 (rf w 14) rfl ?_
        refine r_iload_n hX dX7_highest_56 rfl 2 rfl ?_
        obtain ⟨hi5, hf⟩ := grd_some hf
        refine r_iald hX (MK14 hW) (ML14 hW) hi5 dX7_highest_57 ?_
        refine r_i2l hX dX7_highest_58 ?_
        refine r_lmul hX dX7_highest_59 ?_
        refine r_lcmp_le hX dX7_highest_60 dX7_highest_61 (tgt := 68) (by decide) (fun h => ?_) (fun h => ?_)
        · have hf := ite_t h hf
          refine r_iconst hX dX7_highest_68 (v := (0 : Int32)) (by decide) ?_
          exact J.sub [0, 1, 2] rfl (wX7_highest_b69 hX hW ih  hf)
        · have hf := ite_f h hf
          exact J.sub [0, 1, 2] rfl (wX7_highest_b64 hX hW ih  hf)
set_option maxRecDepth 20000 in
set_option maxHeartbeats 2000000 in
theorem wX7_highest_b0 {X : Cx} {w : Wp} {σ : St} {r : Int32} {σ' : St}  {x1 : Int32} (hX : OK X w cX7_highest 5 RX7 (some .int) (rmz 3 71) (Qi w σ' r)) (hW : MW w)   (hf : fX7_highest σ x1 = some (r, σ')) : J X w 5 σ 0 [(0, rf w 0), (1, .int x1)] [] := by
  rw [fX7_highest] at hf
  refine r_iload_n hX dX7_highest_0 rfl 1 rfl ?_
  refine J.callz (fun H locs ls a b c => runS hX miX7_isBeat (cX7_isBeat_ok (xl X)  rfl) g3_175 g3_176 ⟨Nat.le_of_ble_eq_true rfl, Nat.le_of_ble_eq_true rfl⟩ dX7_highest_1 rfl (As := [.int x1]) (rest := []) rfl (Nat.le_of_ble_eq_true rfl) a b c) (fun hz1 => ?_)
  refine r_if_ne hX dX7_highest_4 (tgt := 10) (by decide) (fun h => ?_) (fun h => ?_)
  · have hf := ite_f h hf
    refine r_aload_n hX dX7_highest_10 rfl 0 rfl ?_
    refine r_iload_n hX dX7_highest_11 rfl 1 rfl ?_
    obtain ⟨σ2, hr3, hf⟩ := bd_s hf
    refine J.callv (fun H locs ls a b c => runV hX miX7_goTo (As := [.int x1]) (cX7_goTo_ok (xl X) hW  hr3) g3_198 g3_200 gs_20 cls7 (MK0 hW) (by decide) (ce8 (MK0 hW)) ⟨Nat.le_of_ble_eq_true rfl, Nat.le_of_ble_eq_true rfl⟩ dX7_highest_12 rfl (rest := []) rfl (Nat.le_of_ble_eq_true rfl) a b c) ?_
    refine r_bipush hX dX7_highest_15 (v := (-5 : Int32)) (by decide) ?_
    refine r_istore_n hX (i := 2) dX7_highest_17 rfl (by decide) rfl ?_
    refine r_iconst hX dX7_highest_18 (v := (0 : Int32)) (by decide) ?_
    refine r_istore_n hX (i := 3) dX7_highest_19 rfl (by decide) rfl ?_
    exact J.sub [2, 1, 0] rfl (wX7_highest_L20 hX hW  _ _ _ _  hf)
  · have hf := ite_t h hf
    refine r_bipush hX dX7_highest_7 (v := (-3 : Int32)) (by decide) ?_
    cases hf
    exact r_iret hX dX7_highest_9
theorem miX7_highest : MI yX7_highest cX7_highest 5 (some .int) 1 := ⟨g4_64, ⟨by decide, by decide, by decide +kernel⟩, g1_6, by decide +kernel⟩
theorem cX7_highest_ok (l : Launch) {w : Wp} {σ : St} {r : Int32} {σ' : St} {x1 : Int32} (hW : MW w)  (hf : fX7_highest σ x1 = some (r, σ')) : CM l w yX7_highest cX7_highest 5 (some .int) (rmz 3 71) [rf w 0, .int x1] σ (Qi w σ' r) := CM.of miX7_highest.2.2.2 (Nat.le_of_ble_eq_true rfl) (fun X hcl hX => J.sub [0, 1] rfl (wX7_highest_b0 hX hW  hf))
-- X7_planeFor
set_option maxRecDepth 20000 in
set_option maxHeartbeats 2000000 in
theorem wX7_planeFor_L55 {X : Cx} {w : Wp} {r : Int32} {σ' : St}  (hX : OK X w cX7_planeFor 7 RX7 (some .int) (rmz 3 71) (Qi w σ' r)) (hW : MW w)  : ∀ (n : Nat) (σ : St) (x3 : Int32) (x4 : Int64) (x6 : Int32), fX7_planeFor_L55 n σ x3 x4 x6 = some (r, σ') → J X w 7 σ 55 [(3, .int x3), (4, .long x4), (6, .int x6)] [] := by
  intro n
  induction n with
  | zero =>
    intro σ x3 x4 x6 hf
    cases hf
  | succ n ih =>
    intro σ x3 x4 x6 hf
    rw [fX7_planeFor_L55] at hf
    refine r_iload hX dX7_planeFor_55 2 rfl ?_
    refine r_if_le hX dX7_planeFor_57 (tgt := 81) (by decide) (fun h => ?_) (fun h => ?_)
    · have hf := ite_t h hf
      refine r_bipush hX dX7_planeFor_81 (v := (-5 : Int32)) (by decide) ?_
      cases hf
      exact r_iret hX dX7_planeFor_83
    · have hf := ite_f h hf
      refine r_lload hX dX7_planeFor_60 1 rfl ?_
      refine r_iload_n hX dX7_planeFor_62 rfl 0 rfl ?_
      refine r_i2l hX dX7_planeFor_63 ?_
      refine r_iload hX dX7_planeFor_64 2 rfl ?_
      refine r_i2l hX dX7_planeFor_66 ?_
      refine r_lmul hX dX7_planeFor_67 ?_
      refine r_lcmp_lt hX dX7_planeFor_68 dX7_planeFor_69 (tgt := 75) (by decide) (fun h => ?_) (fun h => ?_)
      · have hf := ite_t h hf
        refine r_iincC hX dX7_planeFor_75 2 rfl (d := (-1 : Int32)) (by decide) (by decide) rfl ?_
        refine r_goto hX dX7_planeFor_78 (tgt := 55) (by decide) ?_
        exact J.sub [1, 2, 0] rfl (ih _ _ _ _  hf)
      · have hf := ite_f h hf
        refine r_iload hX dX7_planeFor_72 2 rfl ?_
        cases hf
        exact r_iret hX dX7_planeFor_74
set_option maxRecDepth 20000 in
set_option maxHeartbeats 2000000 in
theorem wX7_planeFor_b0 {X : Cx} {w : Wp} {σ : St} {r : Int32} {σ' : St}  {x1 : Int32} {x2 : Int32} {x3 : Int32} (hX : OK X w cX7_planeFor 7 RX7 (some .int) (rmz 3 71) (Qi w σ' r)) (hW : MW w)   (hf : fX7_planeFor σ x1 x2 x3 = some (r, σ')) : J X w 7 σ 0 [(0, rf w 0), (1, .int x1), (2, .int x2), (3, .int x3)] [] := by
  rw [fX7_planeFor] at hf
  refine r_aload_n hX dX7_planeFor_0 rfl 0 rfl ?_
  refine r_iload_n hX dX7_planeFor_1 rfl 1 rfl ?_
  refine J.callz (fun H locs ls a b c => runV hX miX7_noFigure (As := [.int x1]) (cX7_noFigure_ok (xl X) hW  rfl) g3_159 g3_161 gs_17 cls7 (MK0 hW) (by decide) (ce8 (MK0 hW)) ⟨Nat.le_of_ble_eq_true rfl, Nat.le_of_ble_eq_true rfl⟩ dX7_planeFor_2 rfl (rest := []) rfl (Nat.le_of_ble_eq_true rfl) a b c) (fun hz1 => ?_)
  refine r_if_eq hX dX7_planeFor_5 (tgt := 10) (by decide) (fun h => ?_) (fun h => ?_)
  · have hf := ite_t h hf
    refine r_iload_n hX dX7_planeFor_10 rfl 2 rfl ?_
    refine J.callz (fun H locs ls a b c => runS hX miX7_isBeat (cX7_isBeat_ok (xl X)  rfl) g3_175 g3_176 ⟨Nat.le_of_ble_eq_true rfl, Nat.le_of_ble_eq_true rfl⟩ dX7_planeFor_11 rfl (As := [.int x2]) (rest := []) rfl (Nat.le_of_ble_eq_true rfl) a b c) (fun hz2 => ?_)
    refine r_if_eq hX dX7_planeFor_14 (tgt := 27) (by decide) (fun h => ?_) (fun h => ?_)
    · have hf := ite_t h hf
      refine r_bipush hX dX7_planeFor_27 (v := (-3 : Int32)) (by decide) ?_
      cases hf
      exact r_iret hX dX7_planeFor_29
    · have hf := ite_f h hf
      refine r_iload_n hX dX7_planeFor_17 rfl 3 rfl ?_
      refine r_iconst hX dX7_planeFor_18 (v := (0 : Int32)) (by decide) ?_
      refine r_ldc hX (v := (100000 : Int32)) g4_69 dX7_planeFor_19 ?_
      refine J.callz (fun H locs ls a b c => runS hX miX7_in (cX7_in_ok (xl X)  rfl) g3_148 g3_149 ⟨Nat.le_of_ble_eq_true rfl, Nat.le_of_ble_eq_true rfl⟩ dX7_planeFor_21 rfl (As := [.int x3, .int (0 : Int32), .int (100000 : Int32)]) (rest := []) rfl (Nat.le_of_ble_eq_true rfl) a b c) (fun hz3 => ?_)
      refine r_if_ne hX dX7_planeFor_24 (tgt := 30) (by decide) (fun h => ?_) (fun h => ?_)
      · have hf := ite_f h hf
        refine r_aload_n hX dX7_planeFor_30 rfl 0 rfl ?_
        refine r_iload_n hX dX7_planeFor_31 rfl 2 rfl ?_
        obtain ⟨σ4, hr5, hf⟩ := bd_s hf
        refine J.callv (fun H locs ls a b c => runV hX miX7_goTo (As := [.int x2]) (cX7_goTo_ok (xl X) hW  hr5) g3_198 g3_200 gs_20 cls7 (MK0 hW) (by decide) (ce8 (MK0 hW)) ⟨Nat.le_of_ble_eq_true rfl, Nat.le_of_ble_eq_true rfl⟩ dX7_planeFor_32 rfl (rest := []) rfl (Nat.le_of_ble_eq_true rfl) a b c) ?_
        refine r_aload_n hX dX7_planeFor_35 rfl 0 rfl ?_
        refine r_iload_n hX dX7_planeFor_36 rfl 1 rfl ?_
        refine r_iconst hX dX7_planeFor_37 (v := (5 : Int32)) (by decide) ?_
        obtain ⟨r6, hr7, hf⟩ := bd_s hf
        refine J.calll (fun H locs ls a b c => runV hX miX7_measure (As := [.int x1, .int (5 : Int32)]) (cX7_measure_ok (xl X) hW  hr7) g3_224 g3_226 gs_24 cls7 (MK0 hW) (by decide) (ce8 (MK0 hW)) ⟨Nat.le_of_ble_eq_true rfl, Nat.le_of_ble_eq_true rfl⟩ dX7_planeFor_38 rfl (rest := []) rfl (Nat.le_of_ble_eq_true rfl) a b c) ?_
        refine r_aload_n hX dX7_planeFor_41 rfl 0 rfl ?_
        refine r_get hX cls7 (MK0 hW) (by decide) (ce8 (MK0 hW)) 0 (by decide) g3_61 rfl dX7_planeFor_42 (.int (σ4.1 0 0)) rfl ?_
        refine r_i2l hX dX7_planeFor_45 ?_
        refine r_lmul hX dX7_planeFor_46 ?_
        refine r_lstore hX (i := 4) dX7_planeFor_47 (by decide) rfl ?_
        refine r_aload_n hX dX7_planeFor_49 rfl 1 rfl ?_
        refine r_get hX cls7 (MK0 hW) (by decide) (ce8 (MK0 hW)) 0 (by decide) g3_61 rfl dX7_planeFor_50 (.int (σ4.1 0 0)) rfl ?_
        refine r_istore hX (i := 6) dX7_planeFor_53 (by decide) rfl ?_
        exact J.sub [5, 1, 0] rfl (wX7_planeFor_L55 hX hW  _ _ _ _ _  hf)
      · have hf := ite_t h hf
        refine r_bipush hX dX7_planeFor_27 (v := (-3 : Int32)) (by decide) ?_
        cases hf
        exact r_iret hX dX7_planeFor_29
  · have hf := ite_f h hf
    refine r_iconst hX dX7_planeFor_8 (v := (-1 : Int32)) (by decide) ?_
    cases hf
    exact r_iret hX dX7_planeFor_9
theorem miX7_planeFor : MI yX7_planeFor cX7_planeFor 7 (some .int) 3 := ⟨g4_68, ⟨by decide, by decide, by decide +kernel⟩, g1_6, by decide +kernel⟩
theorem cX7_planeFor_ok (l : Launch) {w : Wp} {σ : St} {r : Int32} {σ' : St} {x1 : Int32} {x2 : Int32} {x3 : Int32} (hW : MW w)  (hf : fX7_planeFor σ x1 x2 x3 = some (r, σ')) : CM l w yX7_planeFor cX7_planeFor 7 (some .int) (rmz 3 71) [rf w 0, .int x1, .int x2, .int x3] σ (Qi w σ' r) := CM.of miX7_planeFor.2.2.2 (Nat.le_of_ble_eq_true rfl) (fun X hcl hX => J.sub [0, 1, 2, 3] rfl (wX7_planeFor_b0 hX hW  hf))
-- X7_activeOf
set_option maxRecDepth 20000 in
set_option maxHeartbeats 2000000 in
theorem wX7_activeOf_b78 {X : Cx} {w : Wp} {σ : St} {r : Int32} {k5 : Int32 → Int32 → Int32 → Int32 → Option Int32} {x1 : Int32} {x2 : Int32} {x4 : Int32} {xs0 : Int32} {xs1 : Int32} (hX : OK X w cX7_activeOf 6 RX7 (some .int) (rmz 0 0) (Qi w σ r)) (hW : MW w) (hk5 : ∀ (x1 : Int32) (x2 : Int32) (x3 : Int32) (x4 : Int32), k5 x1 x2 x3 x4 = some r → J X w 6 σ 5 [(0, rf w 0), (1, .int x1), (2, .int x2), (3, .int x3), (4, .int x4)] [])  (hf : fX7_activeOf_b78 σ k5 x1 x2 x4 xs0 xs1 = some r) : J X w 6 σ 78 [(0, rf w 0), (1, .int x1), (2, .int x2), (4, .int x4)] [.int xs1, .int xs0] := by
  rw [fX7_activeOf_b78] at hf
  refine r_ior hX dX7_activeOf_78 ?_
  refine r_istore_n hX (i := 3) dX7_activeOf_79 rfl (by decide) rfl ?_
  refine r_iincC hX dX7_activeOf_80 4 rfl (d := (1 : Int32)) (by decide) (by decide) rfl ?_
  refine r_goto hX dX7_activeOf_83 (tgt := 5) (by decide) ?_
  exact J.sub [2, 3, 4, 1, 0] rfl (hk5 _ _ _ _  hf)
set_option maxRecDepth 20000 in
set_option maxHeartbeats 2000000 in
theorem wX7_activeOf_b41 {X : Cx} {w : Wp} {σ : St} {r : Int32} {k5 : Int32 → Int32 → Int32 → Int32 → Option Int32} {x1 : Int32} {x2 : Int32} {x3 : Int32} {x4 : Int32} {xs0 : Int32} (hX : OK X w cX7_activeOf 6 RX7 (some .int) (rmz 0 0) (Qi w σ r)) (hW : MW w) (hk5 : ∀ (x1 : Int32) (x2 : Int32) (x3 : Int32) (x4 : Int32), k5 x1 x2 x3 x4 = some r → J X w 6 σ 5 [(0, rf w 0), (1, .int x1), (2, .int x2), (3, .int x3), (4, .int x4)] [])  (hf : fX7_activeOf_b41 σ k5 x1 x2 x3 x4 xs0 = some r) : J X w 6 σ 41 [(0, rf w 0), (1, .int x1), (2, .int x2), (3, .int x3), (4, .int x4)] [.int xs0] := by
  rw [fX7_activeOf_b41] at hf
  refine r_istore hX (i := 5) dX7_activeOf_41 (by decide) rfl ?_
  refine r_iload_n hX dX7_activeOf_43 rfl 4 rfl ?_
  refine r_iload hX dX7_activeOf_44 0 rfl ?_
  refine r_if_ne hX dX7_activeOf_46 (tgt := 53) (by decide) (fun h => ?_) (fun h => ?_)
  · have hf := ite_f h hf
    refine r_aload_n hX dX7_activeOf_53 rfl 1 rfl ?_
    refine r_get hX cls7 (MK0 hW) (by decide) (ce8 (MK0 hW)) 12 (by decide) g3_73 rfl dX7_activeOf_54 (rf w 10) rfl ?_
    refine r_iload hX dX7_activeOf_57 5 rfl ?_
    obtain ⟨hi2, hf⟩ := grd_some hf
    refine r_iald hX (MK10 hW) (ML10 hW) hi2 dX7_activeOf_59 ?_
    refine r_if_ge hX dX7_activeOf_60 (tgt := 69) (by decide) (fun h => ?_) (fun h => ?_)
    · have hf := ite_t h hf
      refine r_iconst hX dX7_activeOf_69 (v := (1 : Int32)) (by decide) ?_
      refine r_aload_n hX dX7_activeOf_70 rfl 1 rfl ?_
      refine r_get hX cls7 (MK0 hW) (by decide) (ce8 (MK0 hW)) 12 (by decide) g3_73 rfl dX7_activeOf_71 (rf w 10) rfl ?_
      refine r_iload hX dX7_activeOf_74 5 rfl ?_
      obtain ⟨hi1, hf⟩ := grd_some hf
      refine r_iald hX (MK10 hW) (ML10 hW) hi1 dX7_activeOf_76 ?_
      refine r_ishl hX dX7_activeOf_77 ?_
      exact J.sub [1, 2, 3, 5] rfl (wX7_activeOf_b78 hX hW hk5  hf)
    · have hf := ite_f h hf
      refine r_sipush hX dX7_activeOf_63 (v := (256 : Int32)) (by decide) ?_
      refine r_goto hX dX7_activeOf_66 (tgt := 78) (by decide) ?_
      exact J.sub [1, 2, 3, 5] rfl (wX7_activeOf_b78 hX hW hk5  hf)
  · have hf := ite_t h hf
    refine r_iconst hX dX7_activeOf_49 (v := (0 : Int32)) (by decide) ?_
    refine r_goto hX dX7_activeOf_50 (tgt := 78) (by decide) ?_
    exact J.sub [1, 2, 3, 5] rfl (wX7_activeOf_b78 hX hW hk5  hf)
set_option maxRecDepth 20000 in
set_option maxHeartbeats 2000000 in
theorem wX7_activeOf_b40 {X : Cx} {w : Wp} {σ : St} {r : Int32} {k5 : Int32 → Int32 → Int32 → Int32 → Option Int32} {x1 : Int32} {x2 : Int32} {x3 : Int32} {x4 : Int32} (hX : OK X w cX7_activeOf 6 RX7 (some .int) (rmz 0 0) (Qi w σ r)) (hW : MW w) (hk5 : ∀ (x1 : Int32) (x2 : Int32) (x3 : Int32) (x4 : Int32), k5 x1 x2 x3 x4 = some r → J X w 6 σ 5 [(0, rf w 0), (1, .int x1), (2, .int x2), (3, .int x3), (4, .int x4)] [])  (hf : fX7_activeOf_b40 σ k5 x1 x2 x3 x4 = some r) : J X w 6 σ 40 [(0, rf w 0), (1, .int x1), (2, .int x2), (3, .int x3), (4, .int x4)] [] := by
  rw [fX7_activeOf_b40] at hf
  refine r_iconst hX dX7_activeOf_40 (v := (0 : Int32)) (by decide) ?_
  exact J.sub [0, 1, 2, 3, 4] rfl (wX7_activeOf_b41 hX hW hk5  hf)
set_option maxRecDepth 20000 in
set_option maxHeartbeats 2000000 in
theorem wX7_activeOf_L5 {X : Cx} {w : Wp} {σ : St} {r : Int32}  (hX : OK X w cX7_activeOf 6 RX7 (some .int) (rmz 0 0) (Qi w σ r)) (hW : MW w)  : ∀ (n : Nat) (x1 : Int32) (x2 : Int32) (x3 : Int32) (x4 : Int32), fX7_activeOf_L5 σ n x1 x2 x3 x4 = some r → J X w 6 σ 5 [(0, rf w 0), (1, .int x1), (2, .int x2), (3, .int x3), (4, .int x4)] [] := by
  intro n
  induction n with
  | zero =>
    intro x1 x2 x3 x4 hf
    cases hf
  | succ n ih =>
    intro x1 x2 x3 x4 hf
    rw [fX7_activeOf_L5] at hf
    refine r_iload hX dX7_activeOf_5 4 rfl ?_
    refine r_aload_n hX dX7_activeOf_7 rfl 0 rfl ?_
    refine r_get hX cls7 (MK0 hW) (by decide) (ce8 (MK0 hW)) 9 (by decide) g3_70 rfl dX7_activeOf_8 (.int (σ.1 0 9)) rfl ?_
    refine r_icmp_ge hX dX7_activeOf_11 (tgt := 86) (by decide) (fun h => ?_) (fun h => ?_)
    · have hf := ite_t h hf
      refine r_iload_n hX dX7_activeOf_86 rfl 3 rfl ?_
      cases hf
      exact r_iret hX dX7_activeOf_87
    · have hf := ite_f h hf
      refine r_aload_n hX dX7_activeOf_14 rfl 0 rfl ?_
      refine r_get hX cls7 (MK0 hW) (by decide) (ce8 (MK0 hW)) 10 (by decide) g3_71 rfl dX7_activeOf_15 (rf w 8) rfl ?_
      refine r_iload hX dX7_activeOf_18 4 rfl ?_
      obtain ⟨hi2, hf⟩ := grd_some hf
      refine r_iald hX (MK8 hW) (ML8 hW) hi2 dX7_activeOf_20 ?_
      refine r_iload_n hX dX7_activeOf_21 rfl 2 rfl ?_
      refine r_icmp_ne hX dX7_activeOf_22 (tgt := 40) (by decide) (fun h => ?_) (fun h => ?_)
      · have hf := ite_f h hf
        exact J.sub [0, 1, 2, 3, 4] rfl (wX7_activeOf_b40 hX hW ih  hf)
      · have hf := ite_t h hf
        refine r_aload_n hX dX7_activeOf_25 rfl 0 rfl ?_
        refine r_get hX cls7 (MK0 hW) (by decide) (ce8 (MK0 hW)) 11 (by decide) g3_72 rfl dX7_activeOf_26 (rf w 9) rfl ?_
        refine r_iload hX dX7_activeOf_29 4 rfl ?_
        obtain ⟨hi1, hf⟩ := grd_some hf
        refine r_iald hX (MK9 hW) (ML9 hW) hi1 dX7_activeOf_31 ?_
        refine r_iload_n hX dX7_activeOf_32 rfl 1 rfl ?_
        refine r_icmp_ne hX dX7_activeOf_33 (tgt := 40) (by decide) (fun h => ?_) (fun h => ?_)
        · have hf := ite_f h hf
          exact J.sub [0, 1, 2, 3, 4] rfl (wX7_activeOf_b40 hX hW ih  hf)
        · have hf := ite_t h hf
          refine r_iconst hX dX7_activeOf_36 (v := (1 : Int32)) (by decide) ?_
          refine r_goto hX dX7_activeOf_37 (tgt := 41) (by decide) ?_
          exact J.sub [0, 1, 2, 3, 4] rfl (wX7_activeOf_b41 hX hW ih  hf)
set_option maxRecDepth 20000 in
set_option maxHeartbeats 2000000 in
theorem wX7_activeOf_b0 {X : Cx} {w : Wp} {σ : St} {r : Int32}  {x1 : Int32} {x2 : Int32} (hX : OK X w cX7_activeOf 6 RX7 (some .int) (rmz 0 0) (Qi w σ r)) (hW : MW w)   (hf : fX7_activeOf σ x1 x2 = some r) : J X w 6 σ 0 [(0, rf w 0), (1, .int x1), (2, .int x2)] [] := by
  rw [fX7_activeOf] at hf
  refine r_iconst hX dX7_activeOf_0 (v := (0 : Int32)) (by decide) ?_
  refine r_istore_n hX (i := 3) dX7_activeOf_1 rfl (by decide) rfl ?_
  refine r_iconst hX dX7_activeOf_2 (v := (0 : Int32)) (by decide) ?_
  refine r_istore hX (i := 4) dX7_activeOf_3 (by decide) rfl ?_
  exact J.sub [2, 3, 4, 1, 0] rfl (wX7_activeOf_L5 hX hW  _ _ _ _ _  hf)
theorem miX7_activeOf : MI yX7_activeOf cX7_activeOf 6 (some .int) 2 := ⟨g4_85, ⟨by decide, by decide, by decide +kernel⟩, g1_6, by decide +kernel⟩
theorem cX7_activeOf_ok (l : Launch) {w : Wp} {σ : St} {r : Int32} {x1 : Int32} {x2 : Int32} (hW : MW w)  (hf : fX7_activeOf σ x1 x2 = some r) : CM l w yX7_activeOf cX7_activeOf 6 (some .int) (rmz 0 0) [rf w 0, .int x1, .int x2] σ (Qi w σ r) := CM.of miX7_activeOf.2.2.2 (Nat.le_of_ble_eq_true rfl) (fun X hcl hX => J.sub [0, 1, 2] rfl (wX7_activeOf_b0 hX hW  hf))
-- X7_bits
set_option maxRecDepth 20000 in
set_option maxHeartbeats 2000000 in
theorem wX7_bits_L4 {X : Cx} {w : Wp} {σ : St} {r : Int32}  (hX : OK X w cX7_bits 3 RX7 (some .int) (rmz 0 0) (Qi w σ r))   : ∀ (n : Nat) (x1 : Int32) (x2 : Int32), fX7_bits_L4 n x1 x2 = some r → J X w 3 σ 4 [(1, .int x1), (2, .int x2)] [] := by
  intro n
  induction n with
  | zero =>
    intro x1 x2 hf
    cases hf
  | succ n ih =>
    intro x1 x2 hf
    rw [fX7_bits_L4] at hf
    refine r_iload_n hX dX7_bits_4 rfl 1 rfl ?_
    refine r_if_le hX dX7_bits_5 (tgt := 21) (by decide) (fun h => ?_) (fun h => ?_)
    · have hf := ite_t h hf
      refine r_iload_n hX dX7_bits_21 rfl 0 rfl ?_
      cases hf
      exact r_iret hX dX7_bits_22
    · have hf := ite_f h hf
      refine r_iload_n hX dX7_bits_8 rfl 0 rfl ?_
      refine r_iload_n hX dX7_bits_9 rfl 1 rfl ?_
      refine r_iconst hX dX7_bits_10 (v := (1 : Int32)) (by decide) ?_
      refine r_iand hX dX7_bits_11 ?_
      refine r_iadd hX dX7_bits_12 ?_
      refine r_istore_n hX (i := 1) dX7_bits_13 rfl (by decide) rfl ?_
      refine r_iload_n hX dX7_bits_14 rfl 1 rfl ?_
      refine r_iconst hX dX7_bits_15 (v := (1 : Int32)) (by decide) ?_
      refine r_ishr hX dX7_bits_16 ?_
      refine r_istore_n hX (i := 2) dX7_bits_17 rfl (by decide) rfl ?_
      refine r_goto hX dX7_bits_18 (tgt := 4) (by decide) ?_
      exact J.sub [1, 0] rfl (ih _ _  hf)
set_option maxRecDepth 20000 in
set_option maxHeartbeats 2000000 in
theorem wX7_bits_b0 {X : Cx} {w : Wp} {σ : St} {r : Int32}  {x0 : Int32} (hX : OK X w cX7_bits 3 RX7 (some .int) (rmz 0 0) (Qi w σ r))    (hf : fX7_bits x0 = some r) : J X w 3 σ 0 [(0, .int x0)] [] := by
  rw [fX7_bits] at hf
  refine r_iconst hX dX7_bits_0 (v := (0 : Int32)) (by decide) ?_
  refine r_istore_n hX (i := 1) dX7_bits_1 rfl (by decide) rfl ?_
  refine r_iload_n hX dX7_bits_2 rfl 1 rfl ?_
  refine r_istore_n hX (i := 2) dX7_bits_3 rfl (by decide) rfl ?_
  exact J.sub [1, 0] rfl (wX7_bits_L4 hX   _ _ _  hf)
theorem miX7_bits : MI yX7_bits cX7_bits 3 (some .int) 1 := ⟨g4_88, ⟨by decide, by decide, by decide +kernel⟩, g1_6, by decide +kernel⟩
theorem cX7_bits_ok (l : Launch) {w : Wp} {σ : St} {r : Int32} {x0 : Int32}   (hf : fX7_bits x0 = some r) : CM l w yX7_bits cX7_bits 3 (some .int) (rmz 0 0) [.int x0] σ (Qi w σ r) := CM.of miX7_bits.2.2.2 (Nat.le_of_ble_eq_true rfl) (fun X hcl hX => J.sub [0] rfl (wX7_bits_b0 hX   hf))
-- X7_handsOf
set_option maxRecDepth 20000 in
set_option maxHeartbeats 2000000 in
theorem wX7_handsOf_b108 {X : Cx} {w : Wp} {σ : St} {r : Int32} {k23 : Int32 → Int32 → Int32 → Int32 → Int32 → Option Int32} {x1 : Int32} {x3 : Int32} {x4 : Int32} {x6 : Int32} {xs0 : Int32} {xs1 : Int32} (hX : OK X w cX7_handsOf 9 RX7 (some .int) (rmz 1 25) (Qi w σ r)) (hW : MW w) (hk23 : ∀ (x1 : Int32) (x3 : Int32) (x4 : Int32) (x5 : Int32) (x6 : Int32), k23 x1 x3 x4 x5 x6 = some r → J X w 9 σ 23 [(0, rf w 0), (1, .int x1), (3, .int x3), (4, .int x4), (5, .int x5), (6, .int x6)] [])  (hf : fX7_handsOf_b108 σ k23 x1 x3 x4 x6 xs0 xs1 = some r) : J X w 9 σ 108 [(0, rf w 0), (1, .int x1), (3, .int x3), (4, .int x4), (6, .int x6)] [.int xs1, .int xs0] := by
  rw [fX7_handsOf_b108] at hf
  refine r_iadd hX dX7_handsOf_108 ?_
  refine r_istore hX (i := 5) dX7_handsOf_109 (by decide) rfl ?_
  refine r_iincC hX dX7_handsOf_111 5 rfl (d := (-1 : Int32)) (by decide) (by decide) rfl ?_
  refine r_goto hX dX7_handsOf_114 (tgt := 23) (by decide) ?_
  exact J.sub [2, 3, 4, 5, 1, 0] rfl (hk23 _ _ _ _ _  hf)
set_option maxRecDepth 20000 in
set_option maxHeartbeats 2000000 in
theorem wX7_handsOf_b93 {X : Cx} {w : Wp} {σ : St} {r : Int32} {k23 : Int32 → Int32 → Int32 → Int32 → Int32 → Option Int32} {x1 : Int32} {x3 : Int32} {x5 : Int32} {x6 : Int32} {x8 : Int32} {xs0 : Int32} {xs1 : Int32} (hX : OK X w cX7_handsOf 9 RX7 (some .int) (rmz 1 25) (Qi w σ r)) (hW : MW w) (hk23 : ∀ (x1 : Int32) (x3 : Int32) (x4 : Int32) (x5 : Int32) (x6 : Int32), k23 x1 x3 x4 x5 x6 = some r → J X w 9 σ 23 [(0, rf w 0), (1, .int x1), (3, .int x3), (4, .int x4), (5, .int x5), (6, .int x6)] [])  (hf : fX7_handsOf_b93 σ k23 x1 x3 x5 x6 x8 xs0 xs1 = some r) : J X w 9 σ 93 [(0, rf w 0), (1, .int x1), (3, .int x3), (5, .int x5), (6, .int x6), (8, .int x8)] [.int xs1, .int xs0] := by
  rw [fX7_handsOf_b93] at hf
  refine r_iand hX dX7_handsOf_93 ?_
  refine r_istore hX (i := 4) dX7_handsOf_94 (by decide) rfl ?_
  refine r_iload hX dX7_handsOf_96 4 rfl ?_
  refine r_iload hX dX7_handsOf_98 6 rfl ?_
  refine r_if_eq hX dX7_handsOf_100 (tgt := 107) (by decide) (fun h => ?_) (fun h => ?_)
  · have hf := ite_t h hf
    refine r_iconst hX dX7_handsOf_107 (v := (0 : Int32)) (by decide) ?_
    exact J.sub [1, 2, 3, 0, 5] rfl (wX7_handsOf_b108 hX hW hk23  hf)
  · have hf := ite_f h hf
    refine r_iconst hX dX7_handsOf_103 (v := (1 : Int32)) (by decide) ?_
    refine r_goto hX dX7_handsOf_104 (tgt := 108) (by decide) ?_
    exact J.sub [1, 2, 3, 0, 5] rfl (wX7_handsOf_b108 hX hW hk23  hf)
set_option maxRecDepth 20000 in
set_option maxHeartbeats 2000000 in
theorem wX7_handsOf_b74 {X : Cx} {w : Wp} {σ : St} {r : Int32} {k23 : Int32 → Int32 → Int32 → Int32 → Int32 → Option Int32} {x1 : Int32} {x3 : Int32} {x4 : Int32} {x5 : Int32} {x6 : Int32} {x7 : Int32} {xs0 : Int32} (hX : OK X w cX7_handsOf 9 RX7 (some .int) (rmz 1 25) (Qi w σ r)) (hW : MW w) (hk23 : ∀ (x1 : Int32) (x3 : Int32) (x4 : Int32) (x5 : Int32) (x6 : Int32), k23 x1 x3 x4 x5 x6 = some r → J X w 9 σ 23 [(0, rf w 0), (1, .int x1), (3, .int x3), (4, .int x4), (5, .int x5), (6, .int x6)] [])  (hf : fX7_handsOf_b74 σ k23 x1 x3 x4 x5 x6 x7 xs0 = some r) : J X w 9 σ 74 [(0, rf w 0), (1, .int x1), (3, .int x3), (4, .int x4), (5, .int x5), (6, .int x6), (7, .int x7)] [.int xs0] := by
  rw [fX7_handsOf_b74] at hf
  refine r_istore hX (i := 8) dX7_handsOf_74 (by decide) rfl ?_
  refine r_iload hX dX7_handsOf_76 4 rfl ?_
  refine r_iload hX dX7_handsOf_78 0 rfl ?_
  refine r_if_eq hX dX7_handsOf_80 (tgt := 92) (by decide) (fun h => ?_) (fun h => ?_)
  · have hf := ite_t h hf
    refine r_iconst hX dX7_handsOf_92 (v := (-1 : Int32)) (by decide) ?_
    exact J.sub [1, 2, 3, 5, 6, 0] rfl (wX7_handsOf_b93 hX hW hk23  hf)
  · have hf := ite_f h hf
    refine r_iconst hX dX7_handsOf_83 (v := (1 : Int32)) (by decide) ?_
    refine r_iload hX dX7_handsOf_84 7 rfl ?_
    refine r_ishl hX dX7_handsOf_86 ?_
    refine r_iconst hX dX7_handsOf_87 (v := (-1 : Int32)) (by decide) ?_
    refine r_ixor hX dX7_handsOf_88 ?_
    refine r_goto hX dX7_handsOf_89 (tgt := 93) (by decide) ?_
    exact J.sub [1, 2, 3, 5, 6, 0] rfl (wX7_handsOf_b93 hX hW hk23  hf)
set_option maxRecDepth 20000 in
set_option maxHeartbeats 2000000 in
theorem wX7_handsOf_b73 {X : Cx} {w : Wp} {σ : St} {r : Int32} {k23 : Int32 → Int32 → Int32 → Int32 → Int32 → Option Int32} {x1 : Int32} {x3 : Int32} {x4 : Int32} {x5 : Int32} {x6 : Int32} {x7 : Int32} (hX : OK X w cX7_handsOf 9 RX7 (some .int) (rmz 1 25) (Qi w σ r)) (hW : MW w) (hk23 : ∀ (x1 : Int32) (x3 : Int32) (x4 : Int32) (x5 : Int32) (x6 : Int32), k23 x1 x3 x4 x5 x6 = some r → J X w 9 σ 23 [(0, rf w 0), (1, .int x1), (3, .int x3), (4, .int x4), (5, .int x5), (6, .int x6)] [])  (hf : fX7_handsOf_b73 σ k23 x1 x3 x4 x5 x6 x7 = some r) : J X w 9 σ 73 [(0, rf w 0), (1, .int x1), (3, .int x3), (4, .int x4), (5, .int x5), (6, .int x6), (7, .int x7)] [] := by
  rw [fX7_handsOf_b73] at hf
  refine r_iconst hX dX7_handsOf_73 (v := (0 : Int32)) (by decide) ?_
  exact J.sub [0, 1, 2, 3, 4, 5, 6] rfl (wX7_handsOf_b74 hX hW hk23  hf)
set_option maxRecDepth 20000 in
set_option maxHeartbeats 2000000 in
theorem wX7_handsOf_L23 {X : Cx} {w : Wp} {σ : St} {r : Int32}  (hX : OK X w cX7_handsOf 9 RX7 (some .int) (rmz 1 25) (Qi w σ r)) (hW : MW w)  : ∀ (n : Nat) (x1 : Int32) (x3 : Int32) (x4 : Int32) (x5 : Int32) (x6 : Int32), fX7_handsOf_L23 σ n x1 x3 x4 x5 x6 = some r → J X w 9 σ 23 [(0, rf w 0), (1, .int x1), (3, .int x3), (4, .int x4), (5, .int x5), (6, .int x6)] [] := by
  intro n
  induction n with
  | zero =>
    intro x1 x3 x4 x5 x6 hf
    cases hf
  | succ n ih =>
    intro x1 x3 x4 x5 x6 hf
    rw [fX7_handsOf_L23] at hf
    refine r_iload hX dX7_handsOf_23 5 rfl ?_
    refine r_if_lt hX dX7_handsOf_25 (tgt := 117) (by decide) (fun h => ?_) (fun h => ?_)
    · have hf := ite_t h hf
      refine r_iload_n hX dX7_handsOf_117 rfl 2 rfl ?_
      obtain ⟨r1, hr2, hf⟩ := bd_s hf
      refine J.calli (fun H locs ls a b c => runS hX miX7_bits (cX7_bits_ok (xl X)  hr2) g4_86 g4_87 ⟨Nat.le_of_ble_eq_true rfl, Nat.le_of_ble_eq_true rfl⟩ dX7_handsOf_118 rfl (As := [.int x3]) (rest := []) rfl (Nat.le_of_ble_eq_true rfl) a b c) ?_
      refine r_iload hX dX7_handsOf_121 4 rfl ?_
      refine r_isub hX dX7_handsOf_123 ?_
      cases hf
      exact r_iret hX dX7_handsOf_124
    · have hf := ite_f h hf
      refine r_aload_n hX dX7_handsOf_28 rfl 0 rfl ?_
      refine r_get hX cls7 (MK0 hW) (by decide) (ce8 (MK0 hW)) 6 (by decide) g3_67 rfl dX7_handsOf_29 (rf w 5) rfl ?_
      refine r_bipush hX dX7_handsOf_32 (v := (8 : Int32)) (by decide) ?_
      refine r_iload_n hX dX7_handsOf_34 rfl 1 rfl ?_
      refine r_imul hX dX7_handsOf_35 ?_
      refine r_iload hX dX7_handsOf_36 5 rfl ?_
      refine r_iadd hX dX7_handsOf_38 ?_
      obtain ⟨hi3, hf⟩ := grd_some hf
      refine r_iald hX (MK5 hW) (ML5 hW) hi3 dX7_handsOf_39 ?_
      refine r_istore hX (i := 7) dX7_handsOf_40 (by decide) rfl ?_
      refine r_iload hX dX7_handsOf_42 4 rfl ?_
      refine r_iload hX dX7_handsOf_44 6 rfl ?_
      refine r_ishr hX dX7_handsOf_46 ?_
      refine r_iconst hX dX7_handsOf_47 (v := (1 : Int32)) (by decide) ?_
      refine r_iand hX dX7_handsOf_48 ?_
      refine r_iconst hX dX7_handsOf_49 (v := (1 : Int32)) (by decide) ?_
      refine r_icmp_ne hX dX7_handsOf_50 (tgt := 73) (by decide) (fun h => ?_) (fun h => ?_)
      · have hf := ite_f h hf
        exact J.sub [1, 2, 3, 4, 5, 6, 0] rfl (wX7_handsOf_b73 hX hW ih  hf)
      · have hf := ite_t h hf
        refine r_iload hX dX7_handsOf_53 0 rfl ?_
        refine r_if_lt hX dX7_handsOf_55 (tgt := 73) (by decide) (fun h => ?_) (fun h => ?_)
        · have hf := ite_t h hf
          exact J.sub [1, 2, 3, 4, 5, 6, 0] rfl (wX7_handsOf_b73 hX hW ih  hf)
        · have hf := ite_f h hf
          refine r_iload hX dX7_handsOf_58 4 rfl ?_
          refine r_iload hX dX7_handsOf_60 0 rfl ?_
          refine r_ishr hX dX7_handsOf_62 ?_
          refine r_iconst hX dX7_handsOf_63 (v := (1 : Int32)) (by decide) ?_
          refine r_iand hX dX7_handsOf_64 ?_
          refine r_iconst hX dX7_handsOf_65 (v := (1 : Int32)) (by decide) ?_
          refine r_icmp_ne hX dX7_handsOf_66 (tgt := 73) (by decide) (fun h => ?_) (fun h => ?_)
          · have hf := ite_f h hf
            exact J.sub [1, 2, 3, 4, 5, 6, 0] rfl (wX7_handsOf_b73 hX hW ih  hf)
          · have hf := ite_t h hf
            refine r_iconst hX dX7_handsOf_69 (v := (1 : Int32)) (by decide) ?_
            refine r_goto hX dX7_handsOf_70 (tgt := 74) (by decide) ?_
            exact J.sub [1, 2, 3, 4, 5, 6, 0] rfl (wX7_handsOf_b74 hX hW ih  hf)
set_option maxRecDepth 20000 in
set_option maxHeartbeats 2000000 in
theorem wX7_handsOf_b0 {X : Cx} {w : Wp} {σ : St} {r : Int32}  {x1 : Int32} {x2 : Int32} (hX : OK X w cX7_handsOf 9 RX7 (some .int) (rmz 1 25) (Qi w σ r)) (hW : MW w)   (hf : fX7_handsOf σ x1 x2 = some r) : J X w 9 σ 0 [(0, rf w 0), (1, .int x1), (2, .int x2)] [] := by
  rw [fX7_handsOf] at hf
  refine r_aload_n hX dX7_handsOf_0 rfl 0 rfl ?_
  refine r_iload_n hX dX7_handsOf_1 rfl 1 rfl ?_
  refine r_iload_n hX dX7_handsOf_2 rfl 2 rfl ?_
  obtain ⟨r1, hr2, hf⟩ := bd_s hf
  refine J.calli (fun H locs ls a b c => runV hX miX7_activeOf (As := [.int x1, .int x2]) (cX7_activeOf_ok (xl X) hW  hr2) g4_82 g4_84 gs_36 cls7 (MK0 hW) (by decide) (ce8 (MK0 hW)) ⟨Nat.le_of_ble_eq_true rfl, Nat.le_of_ble_eq_true rfl⟩ dX7_handsOf_3 rfl (rest := []) rfl (Nat.le_of_ble_eq_true rfl) a b c) ?_
  refine r_istore_n hX (i := 3) dX7_handsOf_6 rfl (by decide) rfl ?_
  refine r_iload_n hX dX7_handsOf_7 rfl 0 rfl ?_
  refine r_istore hX (i := 4) dX7_handsOf_8 (by decide) rfl ?_
  refine r_iconst hX dX7_handsOf_10 (v := (0 : Int32)) (by decide) ?_
  refine r_istore hX (i := 5) dX7_handsOf_11 (by decide) rfl ?_
  refine r_aload_n hX dX7_handsOf_13 rfl 3 rfl ?_
  refine r_get hX cls7 (MK0 hW) (by decide) (ce8 (MK0 hW)) 5 (by decide) g3_66 rfl dX7_handsOf_14 (rf w 4) rfl ?_
  refine r_iload_n hX dX7_handsOf_17 rfl 4 rfl ?_
  obtain ⟨hi3, hf⟩ := grd_some hf
  refine r_iald hX (MK4 hW) (ML4 hW) hi3 dX7_handsOf_18 ?_
  refine r_iconst hX dX7_handsOf_19 (v := (1 : Int32)) (by decide) ?_
  refine r_isub hX dX7_handsOf_20 ?_
  refine r_istore hX (i := 6) dX7_handsOf_21 (by decide) rfl ?_
  exact J.sub [4, 5, 3, 2, 1, 0] rfl (wX7_handsOf_L23 hX hW  _ _ _ _ _ _  hf)
theorem miX7_handsOf : MI yX7_handsOf cX7_handsOf 9 (some .int) 2 := ⟨g4_81, ⟨by decide, by decide, by decide +kernel⟩, g1_6, by decide +kernel⟩
theorem cX7_handsOf_ok (l : Launch) {w : Wp} {σ : St} {r : Int32} {x1 : Int32} {x2 : Int32} (hW : MW w)  (hf : fX7_handsOf σ x1 x2 = some r) : CM l w yX7_handsOf cX7_handsOf 9 (some .int) (rmz 1 25) [rf w 0, .int x1, .int x2] σ (Qi w σ r) := CM.of miX7_handsOf.2.2.2 (Nat.le_of_ble_eq_true rfl) (fun X hcl hX => J.sub [0, 1, 2] rfl (wX7_handsOf_b0 hX hW  hf))
-- X7_handsIn
set_option maxRecDepth 20000 in
set_option maxHeartbeats 2000000 in
theorem wX7_handsIn_L4 {X : Cx} {w : Wp} {σ : St} {r : Int32}  (hX : OK X w cX7_handsIn 4 RX7 (some .int) (rmz 2 53) (Qi w σ r)) (hW : MW w)  : ∀ (n : Nat) (x1 : Int32) (x2 : Int32) (x3 : Int32), fX7_handsIn_L4 σ n x1 x2 x3 = some r → J X w 4 σ 4 [(0, rf w 0), (1, .int x1), (2, .int x2), (3, .int x3)] [] := by
  intro n
  induction n with
  | zero =>
    intro x1 x2 x3 hf
    cases hf
  | succ n ih =>
    intro x1 x2 x3 hf
    rw [fX7_handsIn_L4] at hf
    refine r_iload_n hX dX7_handsIn_4 rfl 3 rfl ?_
    refine r_aload_n hX dX7_handsIn_5 rfl 0 rfl ?_
    refine r_get hX cls7 (MK0 hW) (by decide) (ce8 (MK0 hW)) 1 (by decide) g3_62 rfl dX7_handsIn_6 (.int (σ.1 0 1)) rfl ?_
    refine r_icmp_ge hX dX7_handsIn_9 (tgt := 27) (by decide) (fun h => ?_) (fun h => ?_)
    · have hf := ite_t h hf
      refine r_iload_n hX dX7_handsIn_27 rfl 2 rfl ?_
      cases hf
      exact r_iret hX dX7_handsIn_28
    · have hf := ite_f h hf
      refine r_iload_n hX dX7_handsIn_12 rfl 2 rfl ?_
      refine r_aload_n hX dX7_handsIn_13 rfl 0 rfl ?_
      refine r_iload_n hX dX7_handsIn_14 rfl 3 rfl ?_
      refine r_iload_n hX dX7_handsIn_15 rfl 1 rfl ?_
      obtain ⟨r1, hr2, hf⟩ := bd_s hf
      refine J.calli (fun H locs ls a b c => runV hX miX7_handsOf (As := [.int x3, .int x1]) (cX7_handsOf_ok (xl X) hW  hr2) g4_78 g4_80 gs_35 cls7 (MK0 hW) (by decide) (ce8 (MK0 hW)) ⟨Nat.le_of_ble_eq_true rfl, Nat.le_of_ble_eq_true rfl⟩ dX7_handsIn_16 rfl (rest := [.int x2]) rfl (Nat.le_of_ble_eq_true rfl) a b c) ?_
      refine r_iadd hX dX7_handsIn_19 ?_
      refine r_istore_n hX (i := 2) dX7_handsIn_20 rfl (by decide) rfl ?_
      refine r_iincC hX dX7_handsIn_21 3 rfl (d := (1 : Int32)) (by decide) (by decide) rfl ?_
      refine r_goto hX dX7_handsIn_24 (tgt := 4) (by decide) ?_
      exact J.sub [2, 3, 1, 0] rfl (ih _ _ _  hf)
set_option maxRecDepth 20000 in
set_option maxHeartbeats 2000000 in
theorem wX7_handsIn_b0 {X : Cx} {w : Wp} {σ : St} {r : Int32}  {x1 : Int32} (hX : OK X w cX7_handsIn 4 RX7 (some .int) (rmz 2 53) (Qi w σ r)) (hW : MW w)   (hf : fX7_handsIn σ x1 = some r) : J X w 4 σ 0 [(0, rf w 0), (1, .int x1)] [] := by
  rw [fX7_handsIn] at hf
  refine r_iconst hX dX7_handsIn_0 (v := (0 : Int32)) (by decide) ?_
  refine r_istore_n hX (i := 2) dX7_handsIn_1 rfl (by decide) rfl ?_
  refine r_iconst hX dX7_handsIn_2 (v := (0 : Int32)) (by decide) ?_
  refine r_istore_n hX (i := 3) dX7_handsIn_3 rfl (by decide) rfl ?_
  exact J.sub [2, 3, 1, 0] rfl (wX7_handsIn_L4 hX hW  _ _ _ _  hf)
theorem miX7_handsIn : MI yX7_handsIn cX7_handsIn 4 (some .int) 1 := ⟨g4_77, ⟨by decide, by decide, by decide +kernel⟩, g1_6, by decide +kernel⟩
theorem cX7_handsIn_ok (l : Launch) {w : Wp} {σ : St} {r : Int32} {x1 : Int32} (hW : MW w)  (hf : fX7_handsIn σ x1 = some r) : CM l w yX7_handsIn cX7_handsIn 4 (some .int) (rmz 2 53) [rf w 0, .int x1] σ (Qi w σ r) := CM.of miX7_handsIn.2.2.2 (Nat.le_of_ble_eq_true rfl) (fun X hcl hX => J.sub [0, 1] rfl (wX7_handsIn_b0 hX hW  hf))
-- X7_hands
set_option maxRecDepth 20000 in
set_option maxHeartbeats 2000000 in
theorem wX7_hands_b0 {X : Cx} {w : Wp} {σ : St} {r : Int32}  {x1 : Int32} (hX : OK X w cX7_hands 2 RX7 (some .int) (rmz 3 76) (Qi w σ r)) (hW : MW w)   (hf : fX7_hands σ x1 = some r) : J X w 2 σ 0 [(0, rf w 0), (1, .int x1)] [] := by
  rw [fX7_hands] at hf
  refine r_iload_n hX dX7_hands_0 rfl 1 rfl ?_
  refine J.callz (fun H locs ls a b c => runS hX miX7_isBeat (cX7_isBeat_ok (xl X)  rfl) g3_175 g3_176 ⟨Nat.le_of_ble_eq_true rfl, Nat.le_of_ble_eq_true rfl⟩ dX7_hands_1 rfl (As := [.int x1]) (rest := []) rfl (Nat.le_of_ble_eq_true rfl) a b c) (fun hz1 => ?_)
  refine r_if_eq hX dX7_hands_4 (tgt := 15) (by decide) (fun h => ?_) (fun h => ?_)
  · have hf := ite_t h hf
    refine r_bipush hX dX7_hands_15 (v := (-3 : Int32)) (by decide) ?_
    cases hf
    exact r_iret hX dX7_hands_17
  · have hf := ite_f h hf
    refine r_aload_n hX dX7_hands_7 rfl 0 rfl ?_
    refine r_iload_n hX dX7_hands_8 rfl 1 rfl ?_
    obtain ⟨r2, hr3, hf⟩ := bd_s hf
    refine J.calli (fun H locs ls a b c => runV hX miX7_handsIn (As := [.int x1]) (cX7_handsIn_ok (xl X) hW  hr3) g4_74 g4_76 gs_34 cls7 (MK0 hW) (by decide) (ce8 (MK0 hW)) ⟨Nat.le_of_ble_eq_true rfl, Nat.le_of_ble_eq_true rfl⟩ dX7_hands_9 rfl (rest := []) rfl (Nat.le_of_ble_eq_true rfl) a b c) ?_
    refine r_goto hX dX7_hands_12 (tgt := 17) (by decide) ?_
    cases hf
    exact r_iret hX dX7_hands_17
theorem miX7_hands : MI yX7_hands cX7_hands 2 (some .int) 1 := ⟨g4_73, ⟨by decide, by decide, by decide +kernel⟩, g1_6, by decide +kernel⟩
theorem cX7_hands_ok (l : Launch) {w : Wp} {σ : St} {r : Int32} {x1 : Int32} (hW : MW w)  (hf : fX7_hands σ x1 = some r) : CM l w yX7_hands cX7_hands 2 (some .int) (rmz 3 76) [rf w 0, .int x1] σ (Qi w σ r) := CM.of miX7_hands.2.2.2 (Nat.le_of_ble_eq_true rfl) (fun X hcl hX => J.sub [0, 1] rfl (wX7_hands_b0 hX hW  hf))
-- X7_busiestBeat
set_option maxRecDepth 20000 in
set_option maxHeartbeats 2000000 in
theorem wX7_busiestBeat_b53 {X : Cx} {w : Wp} {σ : St} {r : Int32} {k16 : Int32 → Int32 → Int32 → Option Int32} {x1 : Int32} {x3 : Int32} {xs0 : Int32} (hX : OK X w cX7_busiestBeat 5 RX7 (some .int) (rmz 3 76) (Qi w σ r)) (hW : MW w) (hk16 : ∀ (x1 : Int32) (x2 : Int32) (x3 : Int32), k16 x1 x2 x3 = some r → J X w 5 σ 16 [(0, rf w 0), (1, .int x1), (2, .int x2), (3, .int x3)] [])  (hf : fX7_busiestBeat_b53 σ k16 x1 x3 xs0 = some r) : J X w 5 σ 53 [(0, rf w 0), (1, .int x1), (3, .int x3)] [.int xs0] := by
  rw [fX7_busiestBeat_b53] at hf
  refine r_istore_n hX (i := 2) dX7_busiestBeat_53 rfl (by decide) rfl ?_
  refine r_iincC hX dX7_busiestBeat_54 3 rfl (d := (1 : Int32)) (by decide) (by decide) rfl ?_
  refine r_goto hX dX7_busiestBeat_57 (tgt := 16) (by decide) ?_
  exact J.sub [2, 3, 1, 0] rfl (hk16 _ _ _  hf)
set_option maxRecDepth 20000 in
set_option maxHeartbeats 2000000 in
theorem wX7_busiestBeat_b40 {X : Cx} {w : Wp} {σ : St} {r : Int32} {k16 : Int32 → Int32 → Int32 → Option Int32} {x2 : Int32} {x3 : Int32} {x4 : Int32} {xs0 : Int32} (hX : OK X w cX7_busiestBeat 5 RX7 (some .int) (rmz 3 76) (Qi w σ r)) (hW : MW w) (hk16 : ∀ (x1 : Int32) (x2 : Int32) (x3 : Int32), k16 x1 x2 x3 = some r → J X w 5 σ 16 [(0, rf w 0), (1, .int x1), (2, .int x2), (3, .int x3)] [])  (hf : fX7_busiestBeat_b40 σ k16 x2 x3 x4 xs0 = some r) : J X w 5 σ 40 [(0, rf w 0), (2, .int x2), (3, .int x3), (4, .int x4)] [.int xs0] := by
  rw [fX7_busiestBeat_b40] at hf
  refine r_istore_n hX (i := 1) dX7_busiestBeat_40 rfl (by decide) rfl ?_
  refine r_iload hX dX7_busiestBeat_41 4 rfl ?_
  refine r_iload_n hX dX7_busiestBeat_43 rfl 2 rfl ?_
  refine r_icmp_le hX dX7_busiestBeat_44 (tgt := 52) (by decide) (fun h => ?_) (fun h => ?_)
  · have hf := ite_t h hf
    refine r_iload_n hX dX7_busiestBeat_52 rfl 2 rfl ?_
    exact J.sub [1, 0, 3] rfl (wX7_busiestBeat_b53 hX hW hk16  hf)
  · have hf := ite_f h hf
    refine r_iload hX dX7_busiestBeat_47 4 rfl ?_
    refine r_goto hX dX7_busiestBeat_49 (tgt := 53) (by decide) ?_
    exact J.sub [1, 0, 3] rfl (wX7_busiestBeat_b53 hX hW hk16  hf)
set_option maxRecDepth 20000 in
set_option maxHeartbeats 2000000 in
theorem wX7_busiestBeat_L16 {X : Cx} {w : Wp} {σ : St} {r : Int32}  (hX : OK X w cX7_busiestBeat 5 RX7 (some .int) (rmz 3 76) (Qi w σ r)) (hW : MW w)  : ∀ (n : Nat) (x1 : Int32) (x2 : Int32) (x3 : Int32), fX7_busiestBeat_L16 σ n x1 x2 x3 = some r → J X w 5 σ 16 [(0, rf w 0), (1, .int x1), (2, .int x2), (3, .int x3)] [] := by
  intro n
  induction n with
  | zero =>
    intro x1 x2 x3 hf
    cases hf
  | succ n ih =>
    intro x1 x2 x3 hf
    rw [fX7_busiestBeat_L16] at hf
    refine r_iload_n hX dX7_busiestBeat_16 rfl 3 rfl ?_
    refine r_bipush hX dX7_busiestBeat_17 (v := (100 : Int32)) (by decide) ?_
    refine r_icmp_ge hX dX7_busiestBeat_19 (tgt := 60) (by decide) (fun h => ?_) (fun h => ?_)
    · have hf := ite_t h hf
      refine r_iload_n hX dX7_busiestBeat_60 rfl 1 rfl ?_
      cases hf
      exact r_iret hX dX7_busiestBeat_61
    · have hf := ite_f h hf
      refine r_aload_n hX dX7_busiestBeat_22 rfl 0 rfl ?_
      refine r_iload_n hX dX7_busiestBeat_23 rfl 3 rfl ?_
      obtain ⟨r1, hr2, hf⟩ := bd_s hf
      refine J.calli (fun H locs ls a b c => runV hX miX7_handsIn (As := [.int x3]) (cX7_handsIn_ok (xl X) hW  hr2) g4_74 g4_76 gs_34 cls7 (MK0 hW) (by decide) (ce8 (MK0 hW)) ⟨Nat.le_of_ble_eq_true rfl, Nat.le_of_ble_eq_true rfl⟩ dX7_busiestBeat_24 rfl (rest := []) rfl (Nat.le_of_ble_eq_true rfl) a b c) ?_
      refine r_istore hX (i := 4) dX7_busiestBeat_27 (by decide) rfl ?_
      refine r_iload hX dX7_busiestBeat_29 0 rfl ?_
      refine r_iload_n hX dX7_busiestBeat_31 rfl 3 rfl ?_
      refine r_icmp_le hX dX7_busiestBeat_32 (tgt := 39) (by decide) (fun h => ?_) (fun h => ?_)
      · have hf := ite_t h hf
        refine r_iload_n hX dX7_busiestBeat_39 rfl 2 rfl ?_
        exact J.sub [1, 3, 4, 0] rfl (wX7_busiestBeat_b40 hX hW ih  hf)
      · have hf := ite_f h hf
        refine r_iload_n hX dX7_busiestBeat_35 rfl 4 rfl ?_
        refine r_goto hX dX7_busiestBeat_36 (tgt := 40) (by decide) ?_
        exact J.sub [1, 3, 4, 0] rfl (wX7_busiestBeat_b40 hX hW ih  hf)
set_option maxRecDepth 20000 in
set_option maxHeartbeats 2000000 in
theorem wX7_busiestBeat_b0 {X : Cx} {w : Wp} {σ : St} {r : Int32}   (hX : OK X w cX7_busiestBeat 5 RX7 (some .int) (rmz 3 76) (Qi w σ r)) (hW : MW w)   (hf : fX7_busiestBeat σ = some r) : J X w 5 σ 0 [(0, rf w 0)] [] := by
  rw [fX7_busiestBeat] at hf
  refine r_aload_n hX dX7_busiestBeat_0 rfl 0 rfl ?_
  refine r_get hX cls7 (MK0 hW) (by decide) (ce8 (MK0 hW)) 9 (by decide) g3_70 rfl dX7_busiestBeat_1 (.int (σ.1 0 9)) rfl ?_
  refine r_if_ne hX dX7_busiestBeat_4 (tgt := 10) (by decide) (fun h => ?_) (fun h => ?_)
  · have hf := ite_f h hf
    refine r_iconst hX dX7_busiestBeat_10 (v := (0 : Int32)) (by decide) ?_
    refine r_istore_n hX (i := 1) dX7_busiestBeat_11 rfl (by decide) rfl ?_
    refine r_iconst hX dX7_busiestBeat_12 (v := (0 : Int32)) (by decide) ?_
    refine r_istore_n hX (i := 2) dX7_busiestBeat_13 rfl (by decide) rfl ?_
    refine r_iconst hX dX7_busiestBeat_14 (v := (0 : Int32)) (by decide) ?_
    refine r_istore_n hX (i := 3) dX7_busiestBeat_15 rfl (by decide) rfl ?_
    exact J.sub [3, 2, 1, 0] rfl (wX7_busiestBeat_L16 hX hW  _ _ _ _  hf)
  · have hf := ite_t h hf
    refine r_bipush hX dX7_busiestBeat_7 (v := (-5 : Int32)) (by decide) ?_
    cases hf
    exact r_iret hX dX7_busiestBeat_9
theorem miX7_busiestBeat : MI yX7_busiestBeat cX7_busiestBeat 5 (some .int) 0 := ⟨g4_92, ⟨by decide, by decide, by decide +kernel⟩, g1_6, by decide +kernel⟩
theorem cX7_busiestBeat_ok (l : Launch) {w : Wp} {σ : St} {r : Int32}  (hW : MW w)  (hf : fX7_busiestBeat σ = some r) : CM l w yX7_busiestBeat cX7_busiestBeat 5 (some .int) (rmz 3 76) [rf w 0] σ (Qi w σ r) := CM.of miX7_busiestBeat.2.2.2 (Nat.le_of_ble_eq_true rfl) (fun X hcl hX => J.sub [0] rfl (wX7_busiestBeat_b0 hX hW  hf))
-- X7_activeRods
set_option maxRecDepth 20000 in
set_option maxHeartbeats 2000000 in
theorem wX7_activeRods_b0 {X : Cx} {w : Wp} {σ : St} {r : Int32}  {x1 : Int32} {x2 : Int32} (hX : OK X w cX7_activeRods 3 RX7 (some .int) (rmz 2 43) (Qi w σ r)) (hW : MW w)   (hf : fX7_activeRods σ x1 x2 = some r) : J X w 3 σ 0 [(0, rf w 0), (1, .int x1), (2, .int x2)] [] := by
  rw [fX7_activeRods] at hf
  refine r_aload_n hX dX7_activeRods_0 rfl 0 rfl ?_
  refine r_iload_n hX dX7_activeRods_1 rfl 1 rfl ?_
  refine J.callz (fun H locs ls a b c => runV hX miX7_noFigure (As := [.int x1]) (cX7_noFigure_ok (xl X) hW  rfl) g3_159 g3_161 gs_17 cls7 (MK0 hW) (by decide) (ce8 (MK0 hW)) ⟨Nat.le_of_ble_eq_true rfl, Nat.le_of_ble_eq_true rfl⟩ dX7_activeRods_2 rfl (rest := []) rfl (Nat.le_of_ble_eq_true rfl) a b c) (fun hz1 => ?_)
  refine r_if_eq hX dX7_activeRods_5 (tgt := 10) (by decide) (fun h => ?_) (fun h => ?_)
  · have hf := ite_t h hf
    refine r_iload_n hX dX7_activeRods_10 rfl 2 rfl ?_
    refine J.callz (fun H locs ls a b c => runS hX miX7_isBeat (cX7_isBeat_ok (xl X)  rfl) g3_175 g3_176 ⟨Nat.le_of_ble_eq_true rfl, Nat.le_of_ble_eq_true rfl⟩ dX7_activeRods_11 rfl (As := [.int x2]) (rest := []) rfl (Nat.le_of_ble_eq_true rfl) a b c) (fun hz2 => ?_)
    refine r_if_eq hX dX7_activeRods_14 (tgt := 29) (by decide) (fun h => ?_) (fun h => ?_)
    · have hf := ite_t h hf
      refine r_bipush hX dX7_activeRods_29 (v := (-3 : Int32)) (by decide) ?_
      cases hf
      exact r_iret hX dX7_activeRods_31
    · have hf := ite_f h hf
      refine r_aload_n hX dX7_activeRods_17 rfl 0 rfl ?_
      refine r_iload_n hX dX7_activeRods_18 rfl 1 rfl ?_
      refine r_iload_n hX dX7_activeRods_19 rfl 2 rfl ?_
      obtain ⟨r3, hr4, hf⟩ := bd_s hf
      refine J.calli (fun H locs ls a b c => runV hX miX7_activeOf (As := [.int x1, .int x2]) (cX7_activeOf_ok (xl X) hW  hr4) g4_82 g4_84 gs_36 cls7 (MK0 hW) (by decide) (ce8 (MK0 hW)) ⟨Nat.le_of_ble_eq_true rfl, Nat.le_of_ble_eq_true rfl⟩ dX7_activeRods_20 rfl (rest := []) rfl (Nat.le_of_ble_eq_true rfl) a b c) ?_
      obtain ⟨r5, hr6, hf⟩ := bd_s hf
      refine J.calli (fun H locs ls a b c => runS hX miX7_bits (cX7_bits_ok (xl X)  hr6) g4_86 g4_87 ⟨Nat.le_of_ble_eq_true rfl, Nat.le_of_ble_eq_true rfl⟩ dX7_activeRods_23 rfl (As := [.int r3]) (rest := []) rfl (Nat.le_of_ble_eq_true rfl) a b c) ?_
      refine r_goto hX dX7_activeRods_26 (tgt := 31) (by decide) ?_
      cases hf
      exact r_iret hX dX7_activeRods_31
  · have hf := ite_f h hf
    refine r_iconst hX dX7_activeRods_8 (v := (-1 : Int32)) (by decide) ?_
    cases hf
    exact r_iret hX dX7_activeRods_9
theorem miX7_activeRods : MI yX7_activeRods cX7_activeRods 3 (some .int) 2 := ⟨g4_96, ⟨by decide, by decide, by decide +kernel⟩, g1_6, by decide +kernel⟩
theorem cX7_activeRods_ok (l : Launch) {w : Wp} {σ : St} {r : Int32} {x1 : Int32} {x2 : Int32} (hW : MW w)  (hf : fX7_activeRods σ x1 x2 = some r) : CM l w yX7_activeRods cX7_activeRods 3 (some .int) (rmz 2 43) [rf w 0, .int x1, .int x2] σ (Qi w σ r) := CM.of miX7_activeRods.2.2.2 (Nat.le_of_ble_eq_true rfl) (fun X hcl hX => J.sub [0, 1, 2] rfl (wX7_activeRods_b0 hX hW  hf))
-- X7_addScene
set_option maxRecDepth 20000 in
set_option maxHeartbeats 2000000 in
theorem wX7_addScene_b45 {X : Cx} {w : Wp} {σ : St} {r : Int32} {σ' : St}   (hX : OK X w cX7_addScene 2 RX7 (some .int) (rmz 1 22) (Qi w σ' r)) (hW : MW w)   (hf : fX7_addScene_b45 σ = some (r, σ')) : J X w 2 σ 45 [(0, rf w 0)] [] := by
  rw [fX7_addScene_b45] at hf
  refine r_aload_n hX dX7_addScene_45 rfl 0 rfl ?_
  refine r_get hX cls7 (MK0 hW) (by decide) (ce8 (MK0 hW)) 23 (by decide) g3_84 rfl dX7_addScene_46 (.int (σ.1 0 23)) rfl ?_
  refine r_iconst hX dX7_addScene_49 (v := (1 : Int32)) (by decide) ?_
  refine r_isub hX dX7_addScene_50 ?_
  cases hf
  exact r_iret hX dX7_addScene_51
set_option maxRecDepth 20000 in
set_option maxHeartbeats 2000000 in
theorem wX7_addScene_b35 {X : Cx} {w : Wp} {σ : St} {r : Int32} {σ' : St}   (hX : OK X w cX7_addScene 2 RX7 (some .int) (rmz 1 22) (Qi w σ' r)) (hW : MW w)   (hf : fX7_addScene_b35 σ = some (r, σ')) : J X w 2 σ 35 [(0, rf w 0)] [] := by
  rw [fX7_addScene_b35] at hf
  refine r_aload_n hX dX7_addScene_35 rfl 0 rfl ?_
  refine r_dup hX dX7_addScene_36 rfl ?_
  refine r_get hX cls7 (MK0 hW) (by decide) (ce8 (MK0 hW)) 23 (by decide) g3_84 rfl dX7_addScene_37 (.int (σ.1 0 23)) rfl ?_
  refine r_iconst hX dX7_addScene_40 (v := (1 : Int32)) (by decide) ?_
  refine r_iadd hX dX7_addScene_41 ?_
  refine r_putI hX cls7 (MK0 hW) (by decide) (fun _ _ _ => ce8 (MK0 hW)) 23 (by decide) g3_84 rfl rfl (tyX7_ok 23 (by decide)) (fun _ _ => Nat.le_of_ble_eq_true rfl) dX7_addScene_42 (fun _ _ => rfl) ?_
  exact J.sub [0] rfl (wX7_addScene_b45 hX hW   hf)
set_option maxRecDepth 20000 in
set_option maxHeartbeats 2000000 in
theorem wX7_addScene_b0 {X : Cx} {w : Wp} {σ : St} {r : Int32} {σ' : St}  {x1 : Int32} (hX : OK X w cX7_addScene 2 RX7 (some .int) (rmz 1 22) (Qi w σ' r)) (hW : MW w)   (hf : fX7_addScene σ x1 = some (r, σ')) : J X w 2 σ 0 [(0, rf w 0), (1, .int x1)] [] := by
  rw [fX7_addScene] at hf
  refine r_iload_n hX dX7_addScene_0 rfl 1 rfl ?_
  refine r_iconst hX dX7_addScene_1 (v := (0 : Int32)) (by decide) ?_
  refine r_bipush hX dX7_addScene_2 (v := (63 : Int32)) (by decide) ?_
  refine J.callz (fun H locs ls a b c => runS hX miX7_in (cX7_in_ok (xl X)  rfl) g3_148 g3_149 ⟨Nat.le_of_ble_eq_true rfl, Nat.le_of_ble_eq_true rfl⟩ dX7_addScene_4 rfl (As := [.int x1, .int (0 : Int32), .int (63 : Int32)]) (rest := []) rfl (Nat.le_of_ble_eq_true rfl) a b c) (fun hz1 => ?_)
  refine r_if_ne hX dX7_addScene_7 (tgt := 13) (by decide) (fun h => ?_) (fun h => ?_)
  · have hf := ite_f h hf
    refine r_aload_n hX dX7_addScene_13 rfl 0 rfl ?_
    refine r_get hX cls7 (MK0 hW) (by decide) (ce8 (MK0 hW)) 23 (by decide) g3_84 rfl dX7_addScene_14 (.int (σ.1 0 23)) rfl ?_
    refine r_bipush hX dX7_addScene_17 (v := (8 : Int32)) (by decide) ?_
    refine r_icmp_ne hX dX7_addScene_19 (tgt := 25) (by decide) (fun h => ?_) (fun h => ?_)
    · have hf := ite_f h hf
      refine r_aload_n hX dX7_addScene_25 rfl 0 rfl ?_
      refine r_get hX cls7 (MK0 hW) (by decide) (ce8 (MK0 hW)) 24 (by decide) g3_85 rfl dX7_addScene_26 (rf w 21) rfl ?_
      refine r_aload_n hX dX7_addScene_29 rfl 0 rfl ?_
      refine r_get hX cls7 (MK0 hW) (by decide) (ce8 (MK0 hW)) 23 (by decide) g3_84 rfl dX7_addScene_30 (.int (σ.1 0 23)) rfl ?_
      refine r_iload_n hX dX7_addScene_33 rfl 1 rfl ?_
      obtain ⟨hi2, hf⟩ := grd_some hf
      refine r_iast hX (MK21 hW) (ML21 hW) hi2 dX7_addScene_34 ?_
      exact J.sub [0] rfl (wX7_addScene_b35 hX hW   hf)
    · have hf := ite_t h hf
      refine r_bipush hX dX7_addScene_22 (v := (-4 : Int32)) (by decide) ?_
      cases hf
      exact r_iret hX dX7_addScene_24
  · have hf := ite_t h hf
    refine r_bipush hX dX7_addScene_10 (v := (-3 : Int32)) (by decide) ?_
    cases hf
    exact r_iret hX dX7_addScene_12
theorem miX7_addScene : MI yX7_addScene cX7_addScene 2 (some .int) 1 := ⟨g4_100, ⟨by decide, by decide, by decide +kernel⟩, g1_6, by decide +kernel⟩
theorem cX7_addScene_ok (l : Launch) {w : Wp} {σ : St} {r : Int32} {σ' : St} {x1 : Int32} (hW : MW w)  (hf : fX7_addScene σ x1 = some (r, σ')) : CM l w yX7_addScene cX7_addScene 2 (some .int) (rmz 1 22) [rf w 0, .int x1] σ (Qi w σ' r) := CM.of miX7_addScene.2.2.2 (Nat.le_of_ble_eq_true rfl) (fun X hcl hX => J.sub [0, 1] rfl (wX7_addScene_b0 hX hW  hf))
-- X7_clearScenes
set_option maxRecDepth 20000 in
set_option maxHeartbeats 2000000 in
theorem wX7_clearScenes_b10 {X : Cx} {w : Wp} {σ : St} {r : Int32} {σ' : St}  {x1 : Int32} (hX : OK X w cX7_clearScenes 2 RX7 (some .int) (rmz 0 0) (Qi w σ' r)) (hW : MW w)   (hf : fX7_clearScenes_b10 σ x1 = some (r, σ')) : J X w 2 σ 10 [(1, .int x1)] [] := by
  rw [fX7_clearScenes_b10] at hf
  refine r_iload_n hX dX7_clearScenes_10 rfl 0 rfl ?_
  cases hf
  exact r_iret hX dX7_clearScenes_11
set_option maxRecDepth 20000 in
set_option maxHeartbeats 2000000 in
theorem wX7_clearScenes_b0 {X : Cx} {w : Wp} {σ : St} {r : Int32} {σ' : St}   (hX : OK X w cX7_clearScenes 2 RX7 (some .int) (rmz 0 0) (Qi w σ' r)) (hW : MW w)   (hf : fX7_clearScenes σ = some (r, σ')) : J X w 2 σ 0 [(0, rf w 0)] [] := by
  rw [fX7_clearScenes] at hf
  refine r_aload_n hX dX7_clearScenes_0 rfl 0 rfl ?_
  refine r_get hX cls7 (MK0 hW) (by decide) (ce8 (MK0 hW)) 23 (by decide) g3_84 rfl dX7_clearScenes_1 (.int (σ.1 0 23)) rfl ?_
  refine r_istore_n hX (i := 1) dX7_clearScenes_4 rfl (by decide) rfl ?_
  refine r_aload_n hX dX7_clearScenes_5 rfl 1 rfl ?_
  refine r_iconst hX dX7_clearScenes_6 (v := (0 : Int32)) (by decide) ?_
  refine r_putI hX cls7 (MK0 hW) (by decide) (fun _ _ _ => ce8 (MK0 hW)) 23 (by decide) g3_84 rfl rfl (tyX7_ok 23 (by decide)) (fun _ _ => Nat.le_of_ble_eq_true rfl) dX7_clearScenes_7 (fun _ _ => rfl) ?_
  exact J.sub [0] rfl (wX7_clearScenes_b10 hX hW   hf)
theorem miX7_clearScenes : MI yX7_clearScenes cX7_clearScenes 2 (some .int) 0 := ⟨g4_104, ⟨by decide, by decide, by decide +kernel⟩, g1_6, by decide +kernel⟩
theorem cX7_clearScenes_ok (l : Launch) {w : Wp} {σ : St} {r : Int32} {σ' : St}  (hW : MW w)  (hf : fX7_clearScenes σ = some (r, σ')) : CM l w yX7_clearScenes cX7_clearScenes 2 (some .int) (rmz 0 0) [rf w 0] σ (Qi w σ' r) := CM.of miX7_clearScenes.2.2.2 (Nat.le_of_ble_eq_true rfl) (fun X hcl hX => J.sub [0] rfl (wX7_clearScenes_b0 hX hW  hf))
-- X7_costNow
set_option maxRecDepth 20000 in
set_option maxHeartbeats 2000000 in
theorem wX7_costNow_L4 {X : Cx} {w : Wp} {σ : St} {r : Int32}  (hX : OK X w cX7_costNow 3 RX7 (some .int) (rmz 1 22) (Qi w σ r)) (hW : MW w)  : ∀ (n : Nat) (x1 : Int32) (x2 : Int32), fX7_costNow_L4 σ n x1 x2 = some r → J X w 3 σ 4 [(0, rf w 0), (1, .int x1), (2, .int x2)] [] := by
  intro n
  induction n with
  | zero =>
    intro x1 x2 hf
    cases hf
  | succ n ih =>
    intro x1 x2 hf
    rw [fX7_costNow_L4] at hf
    refine r_iload_n hX dX7_costNow_4 rfl 2 rfl ?_
    refine r_aload_n hX dX7_costNow_5 rfl 0 rfl ?_
    refine r_get hX cls7 (MK0 hW) (by decide) (ce8 (MK0 hW)) 23 (by decide) g3_84 rfl dX7_costNow_6 (.int (σ.1 0 23)) rfl ?_
    refine r_icmp_ge hX dX7_costNow_9 (tgt := 49) (by decide) (fun h => ?_) (fun h => ?_)
    · have hf := ite_t h hf
      refine r_iload_n hX dX7_costNow_49 rfl 1 rfl ?_
      cases hf
      exact r_iret hX dX7_costNow_50
    · have hf := ite_f h hf
      refine r_iload_n hX dX7_costNow_12 rfl 1 rfl ?_
      refine r_aload_n hX dX7_costNow_13 rfl 0 rfl ?_
      refine r_get hX cls7 (MK0 hW) (by decide) (ce8 (MK0 hW)) 24 (by decide) g3_85 rfl dX7_costNow_14 (rf w 21) rfl ?_
      refine r_aload_n hX dX7_costNow_17 rfl 0 rfl ?_
      refine r_get hX cls7 (MK0 hW) (by decide) (ce8 (MK0 hW)) 25 (by decide) g3_86 rfl dX7_costNow_18 (rf w 22) rfl ?_
      refine r_iload_n hX dX7_costNow_21 rfl 2 rfl ?_
      refine r_iconst hX dX7_costNow_22 (v := (1 : Int32)) (by decide) ?_
      refine r_isub hX dX7_costNow_23 ?_
      obtain ⟨hi6, hf⟩ := grd_some hf
      refine r_iald hX (MK22 hW) (ML22 hW) hi6 dX7_costNow_24 ?_
      obtain ⟨hi5, hf⟩ := grd_some hf
      refine r_iald hX (MK21 hW) (ML21 hW) hi5 dX7_costNow_25 ?_
      refine r_aload_n hX dX7_costNow_26 rfl 0 rfl ?_
      refine r_get hX cls7 (MK0 hW) (by decide) (ce8 (MK0 hW)) 24 (by decide) g3_85 rfl dX7_costNow_27 (rf w 21) rfl ?_
      refine r_aload_n hX dX7_costNow_30 rfl 0 rfl ?_
      refine r_get hX cls7 (MK0 hW) (by decide) (ce8 (MK0 hW)) 25 (by decide) g3_86 rfl dX7_costNow_31 (rf w 22) rfl ?_
      refine r_iload_n hX dX7_costNow_34 rfl 2 rfl ?_
      obtain ⟨hi4, hf⟩ := grd_some hf
      refine r_iald hX (MK22 hW) (ML22 hW) hi4 dX7_costNow_35 ?_
      obtain ⟨hi3, hf⟩ := grd_some hf
      refine r_iald hX (MK21 hW) (ML21 hW) hi3 dX7_costNow_36 ?_
      refine r_ixor hX dX7_costNow_37 ?_
      obtain ⟨r1, hr2, hf⟩ := bd_s hf
      refine J.calli (fun H locs ls a b c => runS hX miX7_bits (cX7_bits_ok (xl X)  hr2) g4_86 g4_87 ⟨Nat.le_of_ble_eq_true rfl, Nat.le_of_ble_eq_true rfl⟩ dX7_costNow_38 rfl (As := [.int ((σ.1 21 (ix (σ.1 22 (ix (x2 - (1 : Int32)))))) ^^^ (σ.1 21 (ix (σ.1 22 (ix x2)))))]) (rest := [.int x1]) rfl (Nat.le_of_ble_eq_true rfl) a b c) ?_
      refine r_iadd hX dX7_costNow_41 ?_
      refine r_istore_n hX (i := 1) dX7_costNow_42 rfl (by decide) rfl ?_
      refine r_iincC hX dX7_costNow_43 2 rfl (d := (1 : Int32)) (by decide) (by decide) rfl ?_
      refine r_goto hX dX7_costNow_46 (tgt := 4) (by decide) ?_
      exact J.sub [2, 1, 0] rfl (ih _ _  hf)
set_option maxRecDepth 20000 in
set_option maxHeartbeats 2000000 in
theorem wX7_costNow_b0 {X : Cx} {w : Wp} {σ : St} {r : Int32}   (hX : OK X w cX7_costNow 3 RX7 (some .int) (rmz 1 22) (Qi w σ r)) (hW : MW w)   (hf : fX7_costNow σ = some r) : J X w 3 σ 0 [(0, rf w 0)] [] := by
  rw [fX7_costNow] at hf
  refine r_iconst hX dX7_costNow_0 (v := (0 : Int32)) (by decide) ?_
  refine r_istore_n hX (i := 1) dX7_costNow_1 rfl (by decide) rfl ?_
  refine r_iconst hX dX7_costNow_2 (v := (1 : Int32)) (by decide) ?_
  refine r_istore_n hX (i := 2) dX7_costNow_3 rfl (by decide) rfl ?_
  exact J.sub [2, 1, 0] rfl (wX7_costNow_L4 hX hW  _ _ _  hf)
theorem miX7_costNow : MI yX7_costNow cX7_costNow 3 (some .int) 0 := ⟨g4_116, ⟨by decide, by decide, by decide +kernel⟩, g1_6, by decide +kernel⟩
theorem cX7_costNow_ok (l : Launch) {w : Wp} {σ : St} {r : Int32}  (hW : MW w)  (hf : fX7_costNow σ = some r) : CM l w yX7_costNow cX7_costNow 3 (some .int) (rmz 1 22) [rf w 0] σ (Qi w σ r) := CM.of miX7_costNow.2.2.2 (Nat.le_of_ble_eq_true rfl) (fun X hcl hX => J.sub [0] rfl (wX7_costNow_b0 hX hW  hf))
-- X7_exchange
set_option maxRecDepth 20000 in
set_option maxHeartbeats 2000000 in
theorem wX7_exchange_b19 {X : Cx} {w : Wp} {σ : St} {σ' : St}  {x2 : Int32} {x3 : Int32} (hX : OK X w cX7_exchange 4 RX7 none (rmz 0 0) (Qv w σ')) (hW : MW w)   (hf : fX7_exchange_b19 σ x2 x3 = some σ') : J X w 4 σ 19 [(0, rf w 0), (2, .int x2), (3, .int x3)] [] := by
  rw [fX7_exchange_b19] at hf
  refine r_aload_n hX dX7_exchange_19 rfl 0 rfl ?_
  refine r_get hX cls7 (MK0 hW) (by decide) (ce8 (MK0 hW)) 25 (by decide) g3_86 rfl dX7_exchange_20 (rf w 22) rfl ?_
  refine r_iload_n hX dX7_exchange_23 rfl 1 rfl ?_
  refine r_iload_n hX dX7_exchange_24 rfl 2 rfl ?_
  obtain ⟨hi1, hf⟩ := grd_some hf
  refine r_iast hX (MK22 hW) (ML22 hW) hi1 dX7_exchange_25 ?_
  cases hf
  exact r_vret hX dX7_exchange_26
set_option maxRecDepth 20000 in
set_option maxHeartbeats 2000000 in
theorem wX7_exchange_b0 {X : Cx} {w : Wp} {σ : St} {σ' : St}  {x1 : Int32} {x2 : Int32} (hX : OK X w cX7_exchange 4 RX7 none (rmz 0 0) (Qv w σ')) (hW : MW w)   (hf : fX7_exchange σ x1 x2 = some σ') : J X w 4 σ 0 [(0, rf w 0), (1, .int x1), (2, .int x2)] [] := by
  rw [fX7_exchange] at hf
  refine r_aload_n hX dX7_exchange_0 rfl 0 rfl ?_
  refine r_get hX cls7 (MK0 hW) (by decide) (ce8 (MK0 hW)) 25 (by decide) g3_86 rfl dX7_exchange_1 (rf w 22) rfl ?_
  refine r_iload_n hX dX7_exchange_4 rfl 1 rfl ?_
  obtain ⟨hi3, hf⟩ := grd_some hf
  refine r_iald hX (MK22 hW) (ML22 hW) hi3 dX7_exchange_5 ?_
  refine r_istore_n hX (i := 3) dX7_exchange_6 rfl (by decide) rfl ?_
  refine r_aload_n hX dX7_exchange_7 rfl 1 rfl ?_
  refine r_get hX cls7 (MK0 hW) (by decide) (ce8 (MK0 hW)) 25 (by decide) g3_86 rfl dX7_exchange_8 (rf w 22) rfl ?_
  refine r_iload_n hX dX7_exchange_11 rfl 2 rfl ?_
  refine r_aload_n hX dX7_exchange_12 rfl 1 rfl ?_
  refine r_get hX cls7 (MK0 hW) (by decide) (ce8 (MK0 hW)) 25 (by decide) g3_86 rfl dX7_exchange_13 (rf w 22) rfl ?_
  refine r_iload_n hX dX7_exchange_16 rfl 3 rfl ?_
  obtain ⟨hi2, hf⟩ := grd_some hf
  refine r_iald hX (MK22 hW) (ML22 hW) hi2 dX7_exchange_17 ?_
  obtain ⟨hi1, hf⟩ := grd_some hf
  refine r_iast hX (MK22 hW) (ML22 hW) hi1 dX7_exchange_18 ?_
  exact J.sub [1, 3, 0] rfl (wX7_exchange_b19 hX hW   hf)
theorem miX7_exchange : MI yX7_exchange cX7_exchange 4 none 2 := ⟨g4_124, ⟨by decide, by decide, by decide +kernel⟩, g1_6, by decide +kernel⟩
theorem cX7_exchange_ok (l : Launch) {w : Wp} {σ : St} {σ' : St} {x1 : Int32} {x2 : Int32} (hW : MW w)  (hf : fX7_exchange σ x1 x2 = some σ') : CM l w yX7_exchange cX7_exchange 4 none (rmz 0 0) [rf w 0, .int x1, .int x2] σ (Qv w σ') := CM.of miX7_exchange.2.2.2 (Nat.le_of_ble_eq_true rfl) (fun X hcl hX => J.sub [0, 1, 2] rfl (wX7_exchange_b0 hX hW  hf))
-- X7_nextOrder
set_option maxRecDepth 20000 in
set_option maxHeartbeats 2000000 in
theorem wX7_nextOrder_L86 {X : Cx} {w : Wp} {r : Int32} {σ' : St}  (hX : OK X w cX7_nextOrder 5 RX7 (some .boolean) (rmz 1 23) (Qz w σ' r)) (hW : MW w)  : ∀ (n : Nat) (σ : St) (x3 : Int32) (x4 : Int32), fX7_nextOrder_L86 n σ x3 x4 = some (r, σ') → J X w 5 σ 86 [(0, rf w 0), (3, .int x3), (4, .int x4)] [] := by
  intro n
  induction n with
  | zero =>
    intro σ x3 x4 hf
    cases hf
  | succ n ih =>
    intro σ x3 x4 hf
    rw [fX7_nextOrder_L86] at hf
    refine r_iload hX dX7_nextOrder_86 2 rfl ?_
    refine r_iload_n hX dX7_nextOrder_88 rfl 1 rfl ?_
    refine r_icmp_le hX dX7_nextOrder_89 (tgt := 108) (by decide) (fun h => ?_) (fun h => ?_)
    · have hf := ite_t h hf
      refine r_iconst hX dX7_nextOrder_108 (v := (1 : Int32)) (by decide) ?_
      cases hf
      exact r_zret hX bz1 dX7_nextOrder_109
    · have hf := ite_f h hf
      refine r_aload_n hX dX7_nextOrder_92 rfl 0 rfl ?_
      refine r_iload_n hX dX7_nextOrder_93 rfl 1 rfl ?_
      refine r_iload hX dX7_nextOrder_94 2 rfl ?_
      obtain ⟨σ1, hr2, hf⟩ := bd_s hf
      refine J.callv (fun H locs ls a b c => runV hX miX7_exchange (As := [.int x3, .int x4]) (cX7_exchange_ok (xl X) hW  hr2) g4_121 g4_123 gs_40 cls7 (MK0 hW) (by decide) (ce8 (MK0 hW)) ⟨Nat.le_of_ble_eq_true rfl, Nat.le_of_ble_eq_true rfl⟩ dX7_nextOrder_96 rfl (rest := []) rfl (Nat.le_of_ble_eq_true rfl) a b c) ?_
      refine r_iincC hX dX7_nextOrder_99 1 rfl (d := (1 : Int32)) (by decide) (by decide) rfl ?_
      refine r_iincC hX dX7_nextOrder_102 2 rfl (d := (-1 : Int32)) (by decide) (by decide) rfl ?_
      refine r_goto hX dX7_nextOrder_105 (tgt := 86) (by decide) ?_
      exact J.sub [2, 1, 0] rfl (ih _ _ _  hf)
set_option maxRecDepth 20000 in
set_option maxHeartbeats 2000000 in
theorem wX7_nextOrder_L47 {X : Cx} {w : Wp} {r : Int32} {σ' : St}  (hX : OK X w cX7_nextOrder 5 RX7 (some .boolean) (rmz 1 23) (Qz w σ' r)) (hW : MW w)  : ∀ (n : Nat) (σ : St) (x1 : Int32) (x2 : Int32), fX7_nextOrder_L47 n σ x1 x2 = some (r, σ') → J X w 5 σ 47 [(0, rf w 0), (1, .int x1), (2, .int x2)] [] := by
  intro n
  induction n with
  | zero =>
    intro σ x1 x2 hf
    cases hf
  | succ n ih =>
    intro σ x1 x2 hf
    rw [fX7_nextOrder_L47] at hf
    refine r_aload_n hX dX7_nextOrder_47 rfl 0 rfl ?_
    refine r_get hX cls7 (MK0 hW) (by decide) (ce8 (MK0 hW)) 25 (by decide) g3_86 rfl dX7_nextOrder_48 (rf w 22) rfl ?_
    refine r_iload_n hX dX7_nextOrder_51 rfl 2 rfl ?_
    obtain ⟨hi4, hf⟩ := grd_some hf
    refine r_iald hX (MK22 hW) (ML22 hW) hi4 dX7_nextOrder_52 ?_
    refine r_aload_n hX dX7_nextOrder_53 rfl 0 rfl ?_
    refine r_get hX cls7 (MK0 hW) (by decide) (ce8 (MK0 hW)) 25 (by decide) g3_86 rfl dX7_nextOrder_54 (rf w 22) rfl ?_
    refine r_iload_n hX dX7_nextOrder_57 rfl 1 rfl ?_
    obtain ⟨hi3, hf⟩ := grd_some hf
    refine r_iald hX (MK22 hW) (ML22 hW) hi3 dX7_nextOrder_58 ?_
    refine r_icmp_ge hX dX7_nextOrder_59 (tgt := 68) (by decide) (fun h => ?_) (fun h => ?_)
    · have hf := ite_t h hf
      refine r_aload_n hX dX7_nextOrder_68 rfl 0 rfl ?_
      refine r_iload_n hX dX7_nextOrder_69 rfl 1 rfl ?_
      refine r_iload_n hX dX7_nextOrder_70 rfl 2 rfl ?_
      obtain ⟨σ1, hr2, hf⟩ := bd_s hf
      refine J.callv (fun H locs ls a b c => runV hX miX7_exchange (As := [.int x1, .int x2]) (cX7_exchange_ok (xl X) hW  hr2) g4_121 g4_123 gs_40 cls7 (MK0 hW) (by decide) (ce8 (MK0 hW)) ⟨Nat.le_of_ble_eq_true rfl, Nat.le_of_ble_eq_true rfl⟩ dX7_nextOrder_71 rfl (rest := []) rfl (Nat.le_of_ble_eq_true rfl) a b c) ?_
      refine r_iload_n hX dX7_nextOrder_74 rfl 1 rfl ?_
      refine r_iconst hX dX7_nextOrder_75 (v := (1 : Int32)) (by decide) ?_
      refine r_iadd hX dX7_nextOrder_76 ?_
      refine r_istore_n hX (i := 3) dX7_nextOrder_77 rfl (by decide) rfl ?_
      refine r_aload_n hX dX7_nextOrder_78 rfl 1 rfl ?_
      refine r_get hX cls7 (MK0 hW) (by decide) (ce8 (MK0 hW)) 23 (by decide) g3_84 rfl dX7_nextOrder_79 (.int (σ1.1 0 23)) rfl ?_
      refine r_iconst hX dX7_nextOrder_82 (v := (1 : Int32)) (by decide) ?_
      refine r_isub hX dX7_nextOrder_83 ?_
      refine r_istore hX (i := 4) dX7_nextOrder_84 (by decide) rfl ?_
      exact J.sub [2, 1, 0] rfl (wX7_nextOrder_L86 hX hW  _ _ _ _  hf)
    · have hf := ite_f h hf
      refine r_iincC hX dX7_nextOrder_62 2 rfl (d := (-1 : Int32)) (by decide) (by decide) rfl ?_
      refine r_goto hX dX7_nextOrder_65 (tgt := 47) (by decide) ?_
      exact J.sub [1, 2, 0] rfl (ih _ _ _  hf)
set_option maxRecDepth 20000 in
set_option maxHeartbeats 2000000 in
theorem wX7_nextOrder_b34 {X : Cx} {w : Wp} {σ : St} {r : Int32} {σ' : St}  {x1 : Int32} (hX : OK X w cX7_nextOrder 5 RX7 (some .boolean) (rmz 1 23) (Qz w σ' r)) (hW : MW w)   (hf : fX7_nextOrder_b34 σ x1 = some (r, σ')) : J X w 5 σ 34 [(0, rf w 0), (1, .int x1)] [] := by
  rw [fX7_nextOrder_b34] at hf
  refine r_iload_n hX dX7_nextOrder_34 rfl 1 rfl ?_
  refine r_if_gt hX dX7_nextOrder_35 (tgt := 40) (by decide) (fun h => ?_) (fun h => ?_)
  · have hf := ite_t h hf
    refine r_aload_n hX dX7_nextOrder_40 rfl 0 rfl ?_
    refine r_get hX cls7 (MK0 hW) (by decide) (ce8 (MK0 hW)) 23 (by decide) g3_84 rfl dX7_nextOrder_41 (.int (σ.1 0 23)) rfl ?_
    refine r_iconst hX dX7_nextOrder_44 (v := (1 : Int32)) (by decide) ?_
    refine r_isub hX dX7_nextOrder_45 ?_
    refine r_istore_n hX (i := 2) dX7_nextOrder_46 rfl (by decide) rfl ?_
    exact J.sub [1, 2, 0] rfl (wX7_nextOrder_L47 hX hW  _ _ _ _  hf)
  · have hf := ite_f h hf
    refine r_iconst hX dX7_nextOrder_38 (v := (0 : Int32)) (by decide) ?_
    cases hf
    exact r_zret hX bz0 dX7_nextOrder_39
set_option maxRecDepth 20000 in
set_option maxHeartbeats 2000000 in
theorem wX7_nextOrder_L7 {X : Cx} {w : Wp} {r : Int32} {σ' : St}  (hX : OK X w cX7_nextOrder 5 RX7 (some .boolean) (rmz 1 23) (Qz w σ' r)) (hW : MW w)  : ∀ (n : Nat) (σ : St) (x1 : Int32), fX7_nextOrder_L7 n σ x1 = some (r, σ') → J X w 5 σ 7 [(0, rf w 0), (1, .int x1)] [] := by
  intro n
  induction n with
  | zero =>
    intro σ x1 hf
    cases hf
  | succ n ih =>
    intro σ x1 hf
    rw [fX7_nextOrder_L7] at hf
    refine r_iload_n hX dX7_nextOrder_7 rfl 1 rfl ?_
    refine r_if_le hX dX7_nextOrder_8 (tgt := 34) (by decide) (fun h => ?_) (fun h => ?_)
    · have hf := ite_t h hf
      exact J.sub [0, 1] rfl (wX7_nextOrder_b34 hX hW   hf)
    · have hf := ite_f h hf
      refine r_aload_n hX dX7_nextOrder_11 rfl 0 rfl ?_
      refine r_get hX cls7 (MK0 hW) (by decide) (ce8 (MK0 hW)) 25 (by decide) g3_86 rfl dX7_nextOrder_12 (rf w 22) rfl ?_
      refine r_iload_n hX dX7_nextOrder_15 rfl 1 rfl ?_
      obtain ⟨hi2, hf⟩ := grd_some hf
      refine r_iald hX (MK22 hW) (ML22 hW) hi2 dX7_nextOrder_16 ?_
      refine r_aload_n hX dX7_nextOrder_17 rfl 0 rfl ?_
      refine r_get hX cls7 (MK0 hW) (by decide) (ce8 (MK0 hW)) 25 (by decide) g3_86 rfl dX7_nextOrder_18 (rf w 22) rfl ?_
      refine r_iload_n hX dX7_nextOrder_21 rfl 1 rfl ?_
      refine r_iconst hX dX7_nextOrder_22 (v := (1 : Int32)) (by decide) ?_
      refine r_iadd hX dX7_nextOrder_23 ?_
      obtain ⟨hi1, hf⟩ := grd_some hf
      refine r_iald hX (MK22 hW) (ML22 hW) hi1 dX7_nextOrder_24 ?_
      refine r_icmp_le hX dX7_nextOrder_25 (tgt := 34) (by decide) (fun h => ?_) (fun h => ?_)
      · have hf := ite_t h hf
        exact J.sub [0, 1] rfl (wX7_nextOrder_b34 hX hW   hf)
      · have hf := ite_f h hf
        refine r_iincC hX dX7_nextOrder_28 1 rfl (d := (-1 : Int32)) (by decide) (by decide) rfl ?_
        refine r_goto hX dX7_nextOrder_31 (tgt := 7) (by decide) ?_
        exact J.sub [1, 0] rfl (ih _ _  hf)
set_option maxRecDepth 20000 in
set_option maxHeartbeats 2000000 in
theorem wX7_nextOrder_b0 {X : Cx} {w : Wp} {σ : St} {r : Int32} {σ' : St}   (hX : OK X w cX7_nextOrder 5 RX7 (some .boolean) (rmz 1 23) (Qz w σ' r)) (hW : MW w)   (hf : fX7_nextOrder σ = some (r, σ')) : J X w 5 σ 0 [(0, rf w 0)] [] := by
  rw [fX7_nextOrder] at hf
  refine r_aload_n hX dX7_nextOrder_0 rfl 0 rfl ?_
  refine r_get hX cls7 (MK0 hW) (by decide) (ce8 (MK0 hW)) 23 (by decide) g3_84 rfl dX7_nextOrder_1 (.int (σ.1 0 23)) rfl ?_
  refine r_iconst hX dX7_nextOrder_4 (v := (2 : Int32)) (by decide) ?_
  refine r_isub hX dX7_nextOrder_5 ?_
  refine r_istore_n hX (i := 1) dX7_nextOrder_6 rfl (by decide) rfl ?_
  exact J.sub [1, 0] rfl (wX7_nextOrder_L7 hX hW  _ _ _  hf)
theorem miX7_nextOrder : MI yX7_nextOrder cX7_nextOrder 5 (some .boolean) 0 := ⟨g4_120, ⟨by decide, by decide, by decide +kernel⟩, g1_6, by decide +kernel⟩
theorem cX7_nextOrder_ok (l : Launch) {w : Wp} {σ : St} {r : Int32} {σ' : St}  (hW : MW w)  (hf : fX7_nextOrder σ = some (r, σ')) : CM l w yX7_nextOrder cX7_nextOrder 5 (some .boolean) (rmz 1 23) [rf w 0] σ (Qz w σ' r) := CM.of miX7_nextOrder.2.2.2 (Nat.le_of_ble_eq_true rfl) (fun X hcl hX => J.sub [0] rfl (wX7_nextOrder_b0 hX hW  hf))
-- X7_findOrder
set_option maxRecDepth 20000 in
set_option maxHeartbeats 2000000 in
theorem wX7_findOrder_b17 {X : Cx} {w : Wp} {σ : St} {r : Int32} {σ' : St} {k2 : St → Int32 → Option (Int32 × St)} {x1 : Int32} (hX : OK X w cX7_findOrder 6 RX7 (some .int) (rmz 2 47) (Qi w σ' r)) (hW : MW w) (hk2 : ∀ (σ : St) (x1 : Int32), k2 σ x1 = some (r, σ') → J X w 6 σ 2 [(0, rf w 0), (1, .int x1)] [])  (hf : fX7_findOrder_b17 k2 σ x1 = some (r, σ')) : J X w 6 σ 17 [(0, rf w 0), (1, .int x1)] [] := by
  rw [fX7_findOrder_b17] at hf
  refine r_iincC hX dX7_findOrder_17 1 rfl (d := (1 : Int32)) (by decide) (by decide) rfl ?_
  refine r_goto hX dX7_findOrder_20 (tgt := 2) (by decide) ?_
  exact J.sub [1, 0] rfl (hk2 _ _  hf)
set_option maxRecDepth 20000 in
set_option maxHeartbeats 2000000 in
theorem wX7_findOrder_b93 {X : Cx} {w : Wp} {σ : St} {r : Int32} {σ' : St} {k27 : St → Int32 → Int32 → Option (Int32 × St)} {k55 : St → Int32 → Int32 → Int32 → Int32 → Option (Int32 × St)} {x1 : Int32} {x3 : Int32} {x4 : Int32} {x5 : Int32} (hX : OK X w cX7_findOrder 6 RX7 (some .int) (rmz 2 47) (Qi w σ' r)) (hW : MW w) (hk27 : ∀ (σ : St) (x1 : Int32) (x2 : Int32), k27 σ x1 x2 = some (r, σ') → J X w 6 σ 27 [(0, rf w 0), (1, .int x1), (2, .int x2)] []) (hk55 : ∀ (σ : St) (x1 : Int32) (x3 : Int32) (x4 : Int32) (x5 : Int32), k55 σ x1 x3 x4 x5 = some (r, σ') → J X w 6 σ 55 [(0, rf w 0), (1, .int x1), (3, .int x3), (4, .int x4), (5, .int x5)] [])  (hf : fX7_findOrder_b93 k27 k55 σ x1 x3 x4 x5 = some (r, σ')) : J X w 6 σ 93 [(0, rf w 0), (1, .int x1), (3, .int x3), (4, .int x4), (5, .int x5)] [] := by
  rw [fX7_findOrder_b93] at hf
  refine r_iincC hX dX7_findOrder_93 4 rfl (d := (1 : Int32)) (by decide) (by decide) rfl ?_
  refine r_goto hX dX7_findOrder_96 (tgt := 55) (by decide) ?_
  exact J.sub [1, 2, 3, 4, 0] rfl (hk55 _ _ _ _ _  hf)
set_option maxRecDepth 20000 in
set_option maxHeartbeats 2000000 in
theorem wX7_findOrder_b92 {X : Cx} {w : Wp} {σ : St} {r : Int32} {σ' : St} {k27 : St → Int32 → Int32 → Option (Int32 × St)} {k55 : St → Int32 → Int32 → Int32 → Int32 → Option (Int32 × St)} {x1 : Int32} {x3 : Int32} {x4 : Int32} {x5 : Int32} {xs1 : Int32} {xs2 : Int32} (hX : OK X w cX7_findOrder 6 RX7 (some .int) (rmz 2 47) (Qi w σ' r)) (hW : MW w) (hk27 : ∀ (σ : St) (x1 : Int32) (x2 : Int32), k27 σ x1 x2 = some (r, σ') → J X w 6 σ 27 [(0, rf w 0), (1, .int x1), (2, .int x2)] []) (hk55 : ∀ (σ : St) (x1 : Int32) (x3 : Int32) (x4 : Int32) (x5 : Int32), k55 σ x1 x3 x4 x5 = some (r, σ') → J X w 6 σ 55 [(0, rf w 0), (1, .int x1), (3, .int x3), (4, .int x4), (5, .int x5)] [])  (hf : fX7_findOrder_b92 k27 k55 σ x1 x3 x4 x5 xs1 xs2 = some (r, σ')) : J X w 6 σ 92 [(0, rf w 0), (1, .int x1), (3, .int x3), (4, .int x4), (5, .int x5)] [.int xs2, .int xs1, rf w 23] := by
  rw [fX7_findOrder_b92] at hf
  obtain ⟨hi1, hf⟩ := grd_some hf
  refine r_iast hX (MK23 hW) (ML23 hW) hi1 dX7_findOrder_92 ?_
  exact J.sub [0, 1, 2, 3, 4] rfl (wX7_findOrder_b93 hX hW hk27 hk55  hf)
set_option maxRecDepth 20000 in
set_option maxHeartbeats 2000000 in
theorem wX7_findOrder_b109 {X : Cx} {w : Wp} {σ : St} {r : Int32} {σ' : St} {k27 : St → Int32 → Int32 → Option (Int32 × St)} {xs0 : Int32} (hX : OK X w cX7_findOrder 6 RX7 (some .int) (rmz 2 47) (Qi w σ' r)) (hW : MW w) (hk27 : ∀ (σ : St) (x1 : Int32) (x2 : Int32), k27 σ x1 x2 = some (r, σ') → J X w 6 σ 27 [(0, rf w 0), (1, .int x1), (2, .int x2)] [])  (hf : fX7_findOrder_b109 k27 σ xs0 = some (r, σ')) : J X w 6 σ 109 [(0, rf w 0)] [.int xs0] := by
  rw [fX7_findOrder_b109] at hf
  refine r_istore_n hX (i := 1) dX7_findOrder_109 rfl (by decide) rfl ?_
  refine r_aload_n hX dX7_findOrder_110 rfl 1 rfl ?_
  obtain ⟨r1, σ3, hr4, hf⟩ := bd2_s hf
  refine J.callz (fun H locs ls a b c => runV hX miX7_nextOrder (As := []) (cX7_nextOrder_ok (xl X) hW  hr4) g4_117 g4_119 gs_39 cls7 (MK0 hW) (by decide) (ce8 (MK0 hW)) ⟨Nat.le_of_ble_eq_true rfl, Nat.le_of_ble_eq_true rfl⟩ dX7_findOrder_111 rfl (rest := []) rfl (Nat.le_of_ble_eq_true rfl) a b c) (fun hz2 => ?_)
  refine r_istore_n hX (i := 2) dX7_findOrder_114 rfl (by decide) rfl ?_
  refine r_goto hX dX7_findOrder_115 (tgt := 27) (by decide) ?_
  exact J.sub [2, 1, 0] rfl (hk27 _ _ _  hf)
set_option maxRecDepth 20000 in
set_option maxHeartbeats 2000000 in
theorem wX7_findOrder_L55 {X : Cx} {w : Wp} {r : Int32} {σ' : St} {k27 : St → Int32 → Int32 → Option (Int32 × St)} (hX : OK X w cX7_findOrder 6 RX7 (some .int) (rmz 2 47) (Qi w σ' r)) (hW : MW w) (hk27 : ∀ (σ : St) (x1 : Int32) (x2 : Int32), k27 σ x1 x2 = some (r, σ') → J X w 6 σ 27 [(0, rf w 0), (1, .int x1), (2, .int x2)] []) : ∀ (n : Nat) (σ : St) (x1 : Int32) (x3 : Int32) (x4 : Int32) (x5 : Int32), fX7_findOrder_L55 k27 n σ x1 x3 x4 x5 = some (r, σ') → J X w 6 σ 55 [(0, rf w 0), (1, .int x1), (3, .int x3), (4, .int x4), (5, .int x5)] [] := by
  intro n
  induction n with
  | zero =>
    intro σ x1 x3 x4 x5 hf
    cases hf
  | succ n ih =>
    intro σ x1 x3 x4 x5 hf
    rw [fX7_findOrder_L55] at hf
    refine r_iload hX dX7_findOrder_55 4 rfl ?_
    refine r_aload_n hX dX7_findOrder_57 rfl 0 rfl ?_
    refine r_get hX cls7 (MK0 hW) (by decide) (ce8 (MK0 hW)) 23 (by decide) g3_84 rfl dX7_findOrder_58 (.int (σ.1 0 23)) rfl ?_
    refine r_icmp_ge hX dX7_findOrder_61 (tgt := 99) (by decide) (fun h => ?_) (fun h => ?_)
    · have hf := ite_t h hf
      refine r_iload hX dX7_findOrder_99 3 rfl ?_
      refine r_if_eq hX dX7_findOrder_101 (tgt := 108) (by decide) (fun h => ?_) (fun h => ?_)
      · have hf := ite_t h hf
        refine r_iload_n hX dX7_findOrder_108 rfl 1 rfl ?_
        exact J.sub [0] rfl (wX7_findOrder_b109 hX hW hk27  hf)
      · have hf := ite_f h hf
        refine r_iload_n hX dX7_findOrder_104 rfl 2 rfl ?_
        refine r_goto hX dX7_findOrder_105 (tgt := 109) (by decide) ?_
        exact J.sub [0] rfl (wX7_findOrder_b109 hX hW hk27  hf)
    · have hf := ite_f h hf
      refine r_aload_n hX dX7_findOrder_64 rfl 0 rfl ?_
      refine r_get hX cls7 (MK0 hW) (by decide) (ce8 (MK0 hW)) 26 (by decide) g3_87 rfl dX7_findOrder_65 (rf w 23) rfl ?_
      refine r_iload hX dX7_findOrder_68 4 rfl ?_
      refine r_iload hX dX7_findOrder_70 3 rfl ?_
      refine r_if_eq hX dX7_findOrder_72 (tgt := 85) (by decide) (fun h => ?_) (fun h => ?_)
      · have hf := ite_t h hf
        refine r_aload_n hX dX7_findOrder_85 rfl 0 rfl ?_
        refine r_get hX cls7 (MK0 hW) (by decide) (ce8 (MK0 hW)) 26 (by decide) g3_87 rfl dX7_findOrder_86 (rf w 23) rfl ?_
        refine r_iload hX dX7_findOrder_89 4 rfl ?_
        obtain ⟨hi1, hf⟩ := grd_some hf
        refine r_iald hX (MK23 hW) (ML23 hW) hi1 dX7_findOrder_91 ?_
        exact J.sub [0, 1, 2, 3, 4] rfl (wX7_findOrder_b92 hX hW hk27 ih  hf)
      · have hf := ite_f h hf
        refine r_aload_n hX dX7_findOrder_75 rfl 0 rfl ?_
        refine r_get hX cls7 (MK0 hW) (by decide) (ce8 (MK0 hW)) 25 (by decide) g3_86 rfl dX7_findOrder_76 (rf w 22) rfl ?_
        refine r_iload hX dX7_findOrder_79 4 rfl ?_
        obtain ⟨hi2, hf⟩ := grd_some hf
        refine r_iald hX (MK22 hW) (ML22 hW) hi2 dX7_findOrder_81 ?_
        refine r_goto hX dX7_findOrder_82 (tgt := 92) (by decide) ?_
        exact J.sub [0, 1, 2, 3, 4] rfl (wX7_findOrder_b92 hX hW hk27 ih  hf)
set_option maxRecDepth 20000 in
set_option maxHeartbeats 2000000 in
theorem wX7_findOrder_b50 {X : Cx} {w : Wp} {σ : St} {r : Int32} {σ' : St} {k27 : St → Int32 → Int32 → Option (Int32 × St)} {x1 : Int32} {x3 : Int32} {xs0 : Int32} (hX : OK X w cX7_findOrder 6 RX7 (some .int) (rmz 2 47) (Qi w σ' r)) (hW : MW w) (hk27 : ∀ (σ : St) (x1 : Int32) (x2 : Int32), k27 σ x1 x2 = some (r, σ') → J X w 6 σ 27 [(0, rf w 0), (1, .int x1), (2, .int x2)] [])  (hf : fX7_findOrder_b50 k27 σ x1 x3 xs0 = some (r, σ')) : J X w 6 σ 50 [(0, rf w 0), (1, .int x1), (3, .int x3)] [.int xs0] := by
  rw [fX7_findOrder_b50] at hf
  refine r_istore hX (i := 4) dX7_findOrder_50 (by decide) rfl ?_
  refine r_iconst hX dX7_findOrder_52 (v := (0 : Int32)) (by decide) ?_
  refine r_istore hX (i := 5) dX7_findOrder_53 (by decide) rfl ?_
  exact J.sub [2, 3, 4, 1, 0] rfl (wX7_findOrder_L55 hX hW hk27 _ _ _ _ _ _  hf)
set_option maxRecDepth 20000 in
set_option maxHeartbeats 2000000 in
theorem wX7_findOrder_b45 {X : Cx} {w : Wp} {σ : St} {r : Int32} {σ' : St} {k27 : St → Int32 → Int32 → Option (Int32 × St)} {x1 : Int32} {x3 : Int32} (hX : OK X w cX7_findOrder 6 RX7 (some .int) (rmz 2 47) (Qi w σ' r)) (hW : MW w) (hk27 : ∀ (σ : St) (x1 : Int32) (x2 : Int32), k27 σ x1 x2 = some (r, σ') → J X w 6 σ 27 [(0, rf w 0), (1, .int x1), (2, .int x2)] [])  (hf : fX7_findOrder_b45 k27 σ x1 x3 = some (r, σ')) : J X w 6 σ 45 [(0, rf w 0), (1, .int x1), (3, .int x3)] [] := by
  rw [fX7_findOrder_b45] at hf
  refine r_iconst hX dX7_findOrder_45 (v := (1 : Int32)) (by decide) ?_
  refine r_goto hX dX7_findOrder_46 (tgt := 50) (by decide) ?_
  exact J.sub [0, 1, 2] rfl (wX7_findOrder_b50 hX hW hk27  hf)
set_option maxRecDepth 20000 in
set_option maxHeartbeats 2000000 in
theorem wX7_findOrder_L27 {X : Cx} {w : Wp} {r : Int32} {σ' : St}  (hX : OK X w cX7_findOrder 6 RX7 (some .int) (rmz 2 47) (Qi w σ' r)) (hW : MW w)  : ∀ (n : Nat) (σ : St) (x1 : Int32) (x2 : Int32), fX7_findOrder_L27 n σ x1 x2 = some (r, σ') → J X w 6 σ 27 [(0, rf w 0), (1, .int x1), (2, .int x2)] [] := by
  intro n
  induction n with
  | zero =>
    intro σ x1 x2 hf
    cases hf
  | succ n ih =>
    intro σ x1 x2 hf
    rw [fX7_findOrder_L27] at hf
    refine r_iload_n hX dX7_findOrder_27 rfl 2 rfl ?_
    refine r_if_eq hX dX7_findOrder_28 (tgt := 118) (by decide) (fun h => ?_) (fun h => ?_)
    · have hf := ite_t h hf
      refine r_iload_n hX dX7_findOrder_118 rfl 1 rfl ?_
      cases hf
      exact r_iret hX dX7_findOrder_119
    · have hf := ite_f h hf
      refine r_aload_n hX dX7_findOrder_31 rfl 0 rfl ?_
      obtain ⟨r1, hr2, hf⟩ := bd_s hf
      refine J.calli (fun H locs ls a b c => runV hX miX7_costNow (As := []) (cX7_costNow_ok (xl X) hW  hr2) g4_113 g4_115 gs_38 cls7 (MK0 hW) (by decide) (ce8 (MK0 hW)) ⟨Nat.le_of_ble_eq_true rfl, Nat.le_of_ble_eq_true rfl⟩ dX7_findOrder_32 rfl (rest := []) rfl (Nat.le_of_ble_eq_true rfl) a b c) ?_
      refine r_istore_n hX (i := 3) dX7_findOrder_35 rfl (by decide) rfl ?_
      refine r_iload_n hX dX7_findOrder_36 rfl 2 rfl ?_
      refine r_if_lt hX dX7_findOrder_37 (tgt := 45) (by decide) (fun h => ?_) (fun h => ?_)
      · have hf := ite_t h hf
        exact J.sub [1, 2, 0] rfl (wX7_findOrder_b45 hX hW ih  hf)
      · have hf := ite_f h hf
        refine r_iload_n hX dX7_findOrder_40 rfl 0 rfl ?_
        refine r_iload_n hX dX7_findOrder_41 rfl 2 rfl ?_
        refine r_icmp_ge hX dX7_findOrder_42 (tgt := 49) (by decide) (fun h => ?_) (fun h => ?_)
        · have hf := ite_t h hf
          refine r_iconst hX dX7_findOrder_49 (v := (0 : Int32)) (by decide) ?_
          exact J.sub [1, 2, 0] rfl (wX7_findOrder_b50 hX hW ih  hf)
        · have hf := ite_f h hf
          exact J.sub [1, 2, 0] rfl (wX7_findOrder_b45 hX hW ih  hf)
set_option maxRecDepth 20000 in
set_option maxHeartbeats 2000000 in
theorem wX7_findOrder_L2 {X : Cx} {w : Wp} {r : Int32} {σ' : St}  (hX : OK X w cX7_findOrder 6 RX7 (some .int) (rmz 2 47) (Qi w σ' r)) (hW : MW w)  : ∀ (n : Nat) (σ : St) (x1 : Int32), fX7_findOrder_L2 n σ x1 = some (r, σ') → J X w 6 σ 2 [(0, rf w 0), (1, .int x1)] [] := by
  intro n
  induction n with
  | zero =>
    intro σ x1 hf
    cases hf
  | succ n ih =>
    intro σ x1 hf
    rw [fX7_findOrder_L2] at hf
    refine r_iload_n hX dX7_findOrder_2 rfl 1 rfl ?_
    refine r_aload_n hX dX7_findOrder_3 rfl 0 rfl ?_
    refine r_get hX cls7 (MK0 hW) (by decide) (ce8 (MK0 hW)) 23 (by decide) g3_84 rfl dX7_findOrder_4 (.int (σ.1 0 23)) rfl ?_
    refine r_icmp_ge hX dX7_findOrder_7 (tgt := 23) (by decide) (fun h => ?_) (fun h => ?_)
    · have hf := ite_t h hf
      refine r_iconst hX dX7_findOrder_23 (v := (-1 : Int32)) (by decide) ?_
      refine r_istore_n hX (i := 1) dX7_findOrder_24 rfl (by decide) rfl ?_
      refine r_iconst hX dX7_findOrder_25 (v := (1 : Int32)) (by decide) ?_
      refine r_istore_n hX (i := 2) dX7_findOrder_26 rfl (by decide) rfl ?_
      exact J.sub [2, 1, 0] rfl (wX7_findOrder_L27 hX hW  _ _ _ _  hf)
    · have hf := ite_f h hf
      refine r_aload_n hX dX7_findOrder_10 rfl 0 rfl ?_
      refine r_get hX cls7 (MK0 hW) (by decide) (ce8 (MK0 hW)) 25 (by decide) g3_86 rfl dX7_findOrder_11 (rf w 22) rfl ?_
      refine r_iload_n hX dX7_findOrder_14 rfl 1 rfl ?_
      refine r_iload_n hX dX7_findOrder_15 rfl 1 rfl ?_
      obtain ⟨hi1, hf⟩ := grd_some hf
      refine r_iast hX (MK22 hW) (ML22 hW) hi1 dX7_findOrder_16 ?_
      exact J.sub [0, 1] rfl (wX7_findOrder_b17 hX hW ih  hf)
set_option maxRecDepth 20000 in
set_option maxHeartbeats 2000000 in
theorem wX7_findOrder_b0 {X : Cx} {w : Wp} {σ : St} {r : Int32} {σ' : St}   (hX : OK X w cX7_findOrder 6 RX7 (some .int) (rmz 2 47) (Qi w σ' r)) (hW : MW w)   (hf : fX7_findOrder σ = some (r, σ')) : J X w 6 σ 0 [(0, rf w 0)] [] := by
  rw [fX7_findOrder] at hf
  refine r_iconst hX dX7_findOrder_0 (v := (0 : Int32)) (by decide) ?_
  refine r_istore_n hX (i := 1) dX7_findOrder_1 rfl (by decide) rfl ?_
  exact J.sub [1, 0] rfl (wX7_findOrder_L2 hX hW  _ _ _  hf)
theorem miX7_findOrder : MI yX7_findOrder cX7_findOrder 6 (some .int) 0 := ⟨g4_112, ⟨by decide, by decide, by decide +kernel⟩, g1_6, by decide +kernel⟩
theorem cX7_findOrder_ok (l : Launch) {w : Wp} {σ : St} {r : Int32} {σ' : St}  (hW : MW w)  (hf : fX7_findOrder σ = some (r, σ')) : CM l w yX7_findOrder cX7_findOrder 6 (some .int) (rmz 2 47) [rf w 0] σ (Qi w σ' r) := CM.of miX7_findOrder.2.2.2 (Nat.le_of_ble_eq_true rfl) (fun X hcl hX => J.sub [0] rfl (wX7_findOrder_b0 hX hW  hf))
