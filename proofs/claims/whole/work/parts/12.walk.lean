-- X6_partOfFraction
set_option maxRecDepth 20000 in
set_option maxHeartbeats 2000000 in
theorem wX6_partOfFraction_b20 {X : Cx} {w : Wp} {σ : St} {r : Int64}  {x5 : Int64} {xs0 : Int64} (hX : OK X w cX6_partOfFraction 7 RX6 (some .long) (rmz 2 53) (Ql w σ r))    (hf : fX6_partOfFraction_b20 x5 xs0 = some r) : J X w 7 σ 20 [(5, .long x5)] [.long xs0] := by
  rw [fX6_partOfFraction_b20] at hf
  refine r_lload hX dX6_partOfFraction_20 0 rfl ?_
  obtain ⟨hd1, hf⟩ := dvL_some hf
  refine r_ldiv hX dX6_partOfFraction_22 hd1 ?_
  cases hf
  exact r_lret hX dX6_partOfFraction_23
set_option maxRecDepth 20000 in
set_option maxHeartbeats 2000000 in
theorem wX6_partOfFraction_b0 {X : Cx} {w : Wp} {σ : St} {r : Int64}  {x0 : Int64} {x2 : Int64} {x4 : Int32} (hX : OK X w cX6_partOfFraction 7 RX6 (some .long) (rmz 2 53) (Ql w σ r))    (hf : fX6_partOfFraction x0 x2 x4 = some r) : J X w 7 σ 0 [(0, .long x0), (2, .long x2), (4, .int x4)] [] := by
  rw [fX6_partOfFraction] at hf
  refine r_lload_n hX dX6_partOfFraction_0 rfl 0 rfl ?_
  refine J.calll (fun H locs ls a b c => runS hX miJ9_abs_067f4 (cJ9_abs_067f4_ok (xl X)  rfl) g2_116 g2_117 ⟨Nat.le_of_ble_eq_true rfl, Nat.le_of_ble_eq_true rfl⟩ dX6_partOfFraction_1 rfl (As := [.long x0]) (rest := []) rfl (Nat.le_of_ble_eq_true rfl) a b c) ?_
  refine r_lload_n hX dX6_partOfFraction_4 rfl 1 rfl ?_
  obtain ⟨r1, hr2, hf⟩ := bd_s hf
  refine J.calll (fun H locs ls a b c => runS hX miX6_commonDivisor (cX6_commonDivisor_ok (xl X)  hr2) g2_119 g2_120 ⟨Nat.le_of_ble_eq_true rfl, Nat.le_of_ble_eq_true rfl⟩ dX6_partOfFraction_5 rfl (As := [.long (fJ9_abs_067f4 x0), .long x2]) (rest := []) rfl (Nat.le_of_ble_eq_true rfl) a b c) ?_
  refine r_lstore hX (i := 5) dX6_partOfFraction_8 (by decide) rfl ?_
  refine r_iload hX dX6_partOfFraction_10 3 rfl ?_
  refine r_if_ne hX dX6_partOfFraction_12 (tgt := 19) (by decide) (fun h => ?_) (fun h => ?_)
  · have hf := ite_f h hf
    refine r_lload_n hX dX6_partOfFraction_19 rfl 2 rfl ?_
    exact J.sub [0] rfl (wX6_partOfFraction_b20 hX    hf)
  · have hf := ite_t h hf
    refine r_lload_n hX dX6_partOfFraction_15 rfl 1 rfl ?_
    refine r_goto hX dX6_partOfFraction_16 (tgt := 20) (by decide) ?_
    exact J.sub [0] rfl (wX6_partOfFraction_b20 hX    hf)
theorem miX6_partOfFraction : MI yX6_partOfFraction cX6_partOfFraction 7 (some .long) 3 := ⟨g2_115, ⟨by decide, by decide, by decide +kernel⟩, g1_1, by decide +kernel⟩
theorem cX6_partOfFraction_ok (l : Launch) {w : Wp} {σ : St} {r : Int64} {x0 : Int64} {x2 : Int64} {x4 : Int32}   (hf : fX6_partOfFraction x0 x2 x4 = some r) : CM l w yX6_partOfFraction cX6_partOfFraction 7 (some .long) (rmz 2 53) [.long x0, .long x2, .int x4] σ (Ql w σ r) := CM.of miX6_partOfFraction.2.2.2 (Nat.le_of_ble_eq_true rfl) (fun X hcl hX => J.sub [0, 1, 2] rfl (wX6_partOfFraction_b0 hX   hf))
-- X6_box
set_option maxRecDepth 20000 in
set_option maxHeartbeats 2000000 in
theorem wX6_box_b38 {X : Cx} {w : Wp} {σ : St} {r : Int64} {σ' : St}   (hX : OK X w cX6_box 8 RX6 (some .long) (rmz 3 79) (Ql w σ' r)) (hW : CW w)   (hf : fX6_box_b38 σ = some (r, σ')) : J X w 8 σ 38 [] [] := by
  rw [fX6_box_b38] at hf
  refine r_ldc2 hX (v := (-9223372036854775808 : Int64)) g2_60 dX6_box_38 ?_
  cases hf
  exact r_lret hX dX6_box_41
set_option maxRecDepth 20000 in
set_option maxHeartbeats 2000000 in
theorem wX6_box_b0 {X : Cx} {w : Wp} {σ : St} {r : Int64} {σ' : St}  {x1 : Int32} {x2 : Int32} {x3 : Int32} {x4 : Int32} (hX : OK X w cX6_box 8 RX6 (some .long) (rmz 3 79) (Ql w σ' r)) (hW : CW w)   (hf : fX6_box σ x1 x2 x3 x4 = some (r, σ')) : J X w 8 σ 0 [(0, rf w 0), (1, .int x1), (2, .int x2), (3, .int x3), (4, .int x4)] [] := by
  rw [fX6_box] at hf
  refine r_aload_n hX dX6_box_0 rfl 0 rfl ?_
  refine r_iload_n hX dX6_box_1 rfl 1 rfl ?_
  obtain ⟨r1, hr3, hf⟩ := bd_s hf
  refine J.callq (fun H locs ls a b c => runV hX miX6_figureAt (As := [.int x1]) (cX6_figureAt_ok (xl X) hW  hr3) g1_203 g1_205 gs_0 cls6 (CK0 hW) (by decide) (ce7 (CK0 hW)) ⟨Nat.le_of_ble_eq_true rfl, Nat.le_of_ble_eq_true rfl⟩ dX6_box_2 rfl (rest := []) rfl (Nat.le_of_ble_eq_true rfl) a b c) (fun ht2 => ?_)
  refine r_astoreQ hX (i := 5) dX6_box_5 (by decide) rfl ?_
  refine r_aloadQ hX dX6_box_7 0 rfl ?_
  refine r_ifnull hX dX6_box_9 (tgt := 38) (by decide) (fun h => ?_) (fun u4 h => ?_)
  · subst h
    have hf := elim_n hf
    exact J.sub [] rfl (wX6_box_b38 hX hW   hf)
  · subst h
    have hf := elim_s hf
    refine r_iload_n hX dX6_box_12 rfl 3 rfl ?_
    refine J.callz (fun H locs ls a b c => runS hX miX6_isBeat (cX6_isBeat_ok (xl X)  rfl) g1_228 g1_229 ⟨Nat.le_of_ble_eq_true rfl, Nat.le_of_ble_eq_true rfl⟩ dX6_box_13 rfl (As := [.int x2]) (rest := []) rfl (Nat.le_of_ble_eq_true rfl) a b c) (fun hz5 => ?_)
    refine r_if_eq hX dX6_box_16 (tgt := 38) (by decide) (fun h => ?_) (fun h => ?_)
    · have hf := ite_t h hf
      exact J.sub [] rfl (wX6_box_b38 hX hW   hf)
    · have hf := ite_f h hf
      refine r_iload_n hX dX6_box_19 rfl 4 rfl ?_
      refine r_iconst hX dX6_box_20 (v := (0 : Int32)) (by decide) ?_
      refine r_iconst hX dX6_box_21 (v := (5 : Int32)) (by decide) ?_
      refine J.callz (fun H locs ls a b c => runS hX miX6_inRange (cX6_inRange_ok (xl X)  rfl) g1_153 g1_154 ⟨Nat.le_of_ble_eq_true rfl, Nat.le_of_ble_eq_true rfl⟩ dX6_box_22 rfl (As := [.int x3, .int (0 : Int32), .int (5 : Int32)]) (rest := []) rfl (Nat.le_of_ble_eq_true rfl) a b c) (fun hz6 => ?_)
      refine r_if_eq hX dX6_box_25 (tgt := 38) (by decide) (fun h => ?_) (fun h => ?_)
      · have hf := ite_t h hf
        exact J.sub [] rfl (wX6_box_b38 hX hW   hf)
      · have hf := ite_f h hf
        refine r_iload hX dX6_box_28 5 rfl ?_
        refine r_iconst hX dX6_box_30 (v := (0 : Int32)) (by decide) ?_
        refine r_iconst hX dX6_box_31 (v := (1 : Int32)) (by decide) ?_
        refine J.callz (fun H locs ls a b c => runS hX miX6_inRange (cX6_inRange_ok (xl X)  rfl) g1_153 g1_154 ⟨Nat.le_of_ble_eq_true rfl, Nat.le_of_ble_eq_true rfl⟩ dX6_box_32 rfl (As := [.int x4, .int (0 : Int32), .int (1 : Int32)]) (rest := []) rfl (Nat.le_of_ble_eq_true rfl) a b c) (fun hz7 => ?_)
        refine r_if_ne hX dX6_box_35 (tgt := 42) (by decide) (fun h => ?_) (fun h => ?_)
        · have hf := ite_f h hf
          refine r_aload_n hX dX6_box_42 rfl 1 rfl ?_
          refine r_get hX cls6 (CK0 hW) (by decide) (ce7 (CK0 hW)) 5 (by decide) g1_126 rfl dX6_box_43 (rf w 7) rfl ?_
          refine r_aload hX dX6_box_46 0 rfl ?_
          refine r_aload_n hX dX6_box_48 rfl 1 rfl ?_
          refine r_get hX cls6 (CK0 hW) (by decide) (ce7 (CK0 hW)) 3 (by decide) g1_124 rfl dX6_box_49 (rf w 2) rfl ?_
          refine r_iload_n hX dX6_box_52 rfl 3 rfl ?_
          refine r_aload_n hX dX6_box_53 rfl 1 rfl ?_
          refine r_get hX cls6 (CK0 hW) (by decide) (ce7 (CK0 hW)) 0 (by decide) g1_121 rfl dX6_box_54 (.int (σ.1 0 0)) rfl ?_
          obtain ⟨σ8, hr9, hf⟩ := bd_s hf
          refine J.callq (fun H locs ls a b c => runV hX miX2_take (As := [rf w u4, rf w 2, .int x2, .int (σ.1 0 0)]) (cX2_take_ok (xl X) hW (CK7 hW) (ht2 u4 rfl) hr9) g2_61 g2_62 g2_63 cls2 (CK7 hW) (by decide) (ce3 (CK7 hW)) ⟨Nat.le_of_ble_eq_true rfl, Nat.le_of_ble_eq_true rfl⟩ dX6_box_57 rfl (rest := []) rfl (Nat.le_of_ble_eq_true rfl) a b c) (fun _ => ?_)
          refine r_pop hX dX6_box_60 rfl ?_
          refine r_aload_n hX dX6_box_61 rfl 1 rfl ?_
          refine r_get hX cls6 (CK0 hW) (by decide) (ce7 (CK0 hW)) 5 (by decide) g1_126 rfl dX6_box_62 (rf w 7) rfl ?_
          refine r_iload_n hX dX6_box_65 rfl 4 rfl ?_
          refine J.calli (fun H locs ls a b c => runV hX miX2_measure (As := [.int x3]) (cX2_measure_ok (xl X) hW (CK7 hW) rfl) g2_105 g2_106 g2_107 cls2 (CK7 hW) (by decide) (ce3 (CK7 hW)) ⟨Nat.le_of_ble_eq_true rfl, Nat.le_of_ble_eq_true rfl⟩ dX6_box_66 rfl (rest := []) rfl (Nat.le_of_ble_eq_true rfl) a b c) ?_
          refine r_i2l hX dX6_box_69 ?_
          refine r_aload_n hX dX6_box_70 rfl 1 rfl ?_
          refine r_get hX cls6 (CK0 hW) (by decide) (ce7 (CK0 hW)) 0 (by decide) g1_121 rfl dX6_box_71 (.int (σ8.1 0 0)) rfl ?_
          refine r_i2l hX dX6_box_74 ?_
          refine r_lmul hX dX6_box_75 ?_
          refine r_lstore hX (i := 6) dX6_box_76 (by decide) rfl ?_
          refine r_lload hX dX6_box_78 0 rfl ?_
          refine r_aload_n hX dX6_box_80 rfl 2 rfl ?_
          refine r_get hX cls6 (CK0 hW) (by decide) (ce7 (CK0 hW)) 5 (by decide) g1_126 rfl dX6_box_81 (rf w 7) rfl ?_
          refine r_get hX cls2 (CK7 hW) (by decide) (ce3 (CK7 hW)) 4 (by decide) g1_74 rfl dX6_box_84 (.int (σ8.1 7 4)) rfl ?_
          refine r_i2l hX dX6_box_87 ?_
          refine r_iload hX dX6_box_88 6 rfl ?_
          obtain ⟨r10, hr11, hf⟩ := bd_s hf
          refine J.calll (fun H locs ls a b c => runS hX miX6_partOfFraction (cX6_partOfFraction_ok (xl X)  hr11) g2_113 g2_114 ⟨Nat.le_of_ble_eq_true rfl, Nat.le_of_ble_eq_true rfl⟩ dX6_box_90 rfl (As := [.long (((fX2_measure (σ8) 7 x3)).toInt64 * ((σ8.1 0 0)).toInt64), .long (((σ8.1 7 4)).toInt64), .int x4]) (rest := []) rfl (Nat.le_of_ble_eq_true rfl) a b c) ?_
          cases hf
          exact r_lret hX dX6_box_93
        · have hf := ite_t h hf
          exact J.sub [] rfl (wX6_box_b38 hX hW   hf)
theorem miX6_box : MI yX6_box cX6_box 8 (some .long) 4 := ⟨g2_104, ⟨by decide, by decide, by decide +kernel⟩, g1_1, by decide +kernel⟩
theorem cX6_box_ok (l : Launch) {w : Wp} {σ : St} {r : Int64} {σ' : St} {x1 : Int32} {x2 : Int32} {x3 : Int32} {x4 : Int32} (hW : CW w)  (hf : fX6_box σ x1 x2 x3 x4 = some (r, σ')) : CM l w yX6_box cX6_box 8 (some .long) (rmz 3 79) [rf w 0, .int x1, .int x2, .int x3, .int x4] σ (Ql w σ' r) := CM.of miX6_box.2.2.2 (Nat.le_of_ble_eq_true rfl) (fun X hcl hX => J.sub [0, 1, 2, 3, 4] rfl (wX6_box_b0 hX hW  hf))
-- X6_takePoses
set_option maxRecDepth 20000 in
set_option maxHeartbeats 2000000 in
theorem wX6_takePoses_b0 {X : Cx} {w : Wp} {σ : St} {σ' : St} {t1 : Nat} {t2 : Nat}  {x3 : Int32} (hX : OK X w cX6_takePoses 4 RX6 none (rmz 3 75) (Qv w σ')) (hW : CW w) (h1 : wK w t1 = 1) (h2 : wK w t2 = 1)   (hf : fX6_takePoses t1 t2 σ x3 = some σ') : J X w 4 σ 0 [(0, rf w 0), (1, rf w t1), (2, rf w t2), (3, .int x3)] [] := by
  rw [fX6_takePoses] at hf
  refine r_aload_n hX dX6_takePoses_0 rfl 0 rfl ?_
  refine r_get hX cls6 (CK0 hW) (by decide) (ce7 (CK0 hW)) 5 (by decide) g1_126 rfl dX6_takePoses_1 (rf w 7) rfl ?_
  refine r_aload_n hX dX6_takePoses_4 rfl 1 rfl ?_
  refine r_aload_n hX dX6_takePoses_5 rfl 0 rfl ?_
  refine r_get hX cls6 (CK0 hW) (by decide) (ce7 (CK0 hW)) 3 (by decide) g1_124 rfl dX6_takePoses_6 (rf w 2) rfl ?_
  refine r_iload_n hX dX6_takePoses_9 rfl 3 rfl ?_
  refine r_aload_n hX dX6_takePoses_10 rfl 0 rfl ?_
  refine r_get hX cls6 (CK0 hW) (by decide) (ce7 (CK0 hW)) 0 (by decide) g1_121 rfl dX6_takePoses_11 (.int (σ.1 0 0)) rfl ?_
  obtain ⟨σ1, hr2, hf⟩ := bd_s hf
  refine J.callq (fun H locs ls a b c => runV hX miX2_take (As := [rf w t1, rf w 2, .int x3, .int (σ.1 0 0)]) (cX2_take_ok (xl X) hW (CK7 hW) h1 hr2) g2_61 g2_62 g2_63 cls2 (CK7 hW) (by decide) (ce3 (CK7 hW)) ⟨Nat.le_of_ble_eq_true rfl, Nat.le_of_ble_eq_true rfl⟩ dX6_takePoses_14 rfl (rest := []) rfl (Nat.le_of_ble_eq_true rfl) a b c) (fun _ => ?_)
  refine r_pop hX dX6_takePoses_17 rfl ?_
  refine r_aload_n hX dX6_takePoses_18 rfl 0 rfl ?_
  refine r_get hX cls6 (CK0 hW) (by decide) (ce7 (CK0 hW)) 6 (by decide) g1_127 rfl dX6_takePoses_19 (rf w 12) rfl ?_
  refine r_aload_n hX dX6_takePoses_22 rfl 2 rfl ?_
  refine r_aload_n hX dX6_takePoses_23 rfl 0 rfl ?_
  refine r_get hX cls6 (CK0 hW) (by decide) (ce7 (CK0 hW)) 3 (by decide) g1_124 rfl dX6_takePoses_24 (rf w 2) rfl ?_
  refine r_iload_n hX dX6_takePoses_27 rfl 3 rfl ?_
  refine r_aload_n hX dX6_takePoses_28 rfl 0 rfl ?_
  refine r_get hX cls6 (CK0 hW) (by decide) (ce7 (CK0 hW)) 0 (by decide) g1_121 rfl dX6_takePoses_29 (.int (σ1.1 0 0)) rfl ?_
  obtain ⟨σ3, hr4, hf⟩ := bd_s hf
  refine J.callq (fun H locs ls a b c => runV hX miX2_take (As := [rf w t2, rf w 2, .int x3, .int (σ1.1 0 0)]) (cX2_take_ok (xl X) hW (CK12 hW) h2 hr4) g2_61 g2_62 g2_63 cls2 (CK12 hW) (by decide) (ce3 (CK12 hW)) ⟨Nat.le_of_ble_eq_true rfl, Nat.le_of_ble_eq_true rfl⟩ dX6_takePoses_32 rfl (rest := []) rfl (Nat.le_of_ble_eq_true rfl) a b c) (fun _ => ?_)
  refine r_pop hX dX6_takePoses_35 rfl ?_
  cases hf
  exact r_vret hX dX6_takePoses_36
theorem miX6_takePoses : MI yX6_takePoses cX6_takePoses 4 none 3 := ⟨g2_132, ⟨by decide, by decide, by decide +kernel⟩, g1_1, by decide +kernel⟩
theorem cX6_takePoses_ok (l : Launch) {w : Wp} {σ : St} {σ' : St} {t1 : Nat} {t2 : Nat} {x3 : Int32} (hW : CW w) (h1 : wK w t1 = 1) (h2 : wK w t2 = 1)  (hf : fX6_takePoses t1 t2 σ x3 = some σ') : CM l w yX6_takePoses cX6_takePoses 4 none (rmz 3 75) [rf w 0, rf w t1, rf w t2, .int x3] σ (Qv w σ') := CM.of miX6_takePoses.2.2.2 (Nat.le_of_ble_eq_true rfl) (fun X hcl hX => J.sub [0, 1, 2, 3] rfl (wX6_takePoses_b0 hX hW h1 h2  hf))
-- X6_overlap
set_option maxRecDepth 20000 in
set_option maxHeartbeats 2000000 in
theorem wX6_overlap_b41 {X : Cx} {w : Wp} {σ : St} {r : Int64} {σ' : St}   (hX : OK X w cX6_overlap 17 RX6 (some .long) (rmz 4 98) (Ql w σ' r)) (hW : CW w)   (hf : fX6_overlap_b41 σ = some (r, σ')) : J X w 17 σ 41 [] [] := by
  rw [fX6_overlap_b41] at hf
  refine r_ldc2 hX (v := (-9223372036854775808 : Int64)) g2_60 dX6_overlap_41 ?_
  cases hf
  exact r_lret hX dX6_overlap_44
set_option maxRecDepth 20000 in
set_option maxHeartbeats 2000000 in
theorem wX6_overlap_b203 {X : Cx} {w : Wp} {σ : St} {r : Int64} {σ' : St}  {x4 : Int32} {x7 : Int64} {x9 : Int64} {xs0 : Int64} (hX : OK X w cX6_overlap 17 RX6 (some .long) (rmz 4 98) (Ql w σ' r)) (hW : CW w)   (hf : fX6_overlap_b203 σ x4 x7 x9 xs0 = some (r, σ')) : J X w 17 σ 203 [(0, rf w 0), (4, .int x4), (7, .long x7), (9, .long x9)] [.long xs0] := by
  rw [fX6_overlap_b203] at hf
  refine r_lstore hX (i := 15) dX6_overlap_203 (by decide) rfl ?_
  refine r_lload hX dX6_overlap_205 0 rfl ?_
  refine r_aload_n hX dX6_overlap_207 rfl 1 rfl ?_
  refine r_get hX cls6 (CK0 hW) (by decide) (ce7 (CK0 hW)) 0 (by decide) g1_121 rfl dX6_overlap_208 (.int (σ.1 0 0)) rfl ?_
  refine r_i2l hX dX6_overlap_211 ?_
  refine r_lmul hX dX6_overlap_212 ?_
  refine r_aload_n hX dX6_overlap_213 rfl 1 rfl ?_
  refine r_get hX cls6 (CK0 hW) (by decide) (ce7 (CK0 hW)) 0 (by decide) g1_121 rfl dX6_overlap_214 (.int (σ.1 0 0)) rfl ?_
  refine r_i2l hX dX6_overlap_217 ?_
  refine r_lmul hX dX6_overlap_218 ?_
  refine r_lload hX dX6_overlap_219 3 rfl ?_
  refine r_lload hX dX6_overlap_221 4 rfl ?_
  refine r_lmul hX dX6_overlap_223 ?_
  refine r_lload hX dX6_overlap_224 3 rfl ?_
  refine r_lmul hX dX6_overlap_226 ?_
  refine r_lload hX dX6_overlap_227 4 rfl ?_
  refine r_lmul hX dX6_overlap_229 ?_
  refine r_iload hX dX6_overlap_230 2 rfl ?_
  obtain ⟨r1, hr2, hf⟩ := bd_s hf
  refine J.calll (fun H locs ls a b c => runS hX miX6_partOfFraction (cX6_partOfFraction_ok (xl X)  hr2) g2_113 g2_114 ⟨Nat.le_of_ble_eq_true rfl, Nat.le_of_ble_eq_true rfl⟩ dX6_overlap_232 rfl (As := [.long ((xs0 * ((σ.1 0 0)).toInt64) * ((σ.1 0 0)).toInt64), .long (((x7 * x9) * x7) * x9), .int x4]) (rest := []) rfl (Nat.le_of_ble_eq_true rfl) a b c) ?_
  cases hf
  exact r_lret hX dX6_overlap_235
set_option maxRecDepth 20000 in
set_option maxHeartbeats 2000000 in
theorem wX6_overlap_b194 {X : Cx} {w : Wp} {σ : St} {r : Int64} {σ' : St}  {x4 : Int32} {x7 : Int64} {x9 : Int64} (hX : OK X w cX6_overlap 17 RX6 (some .long) (rmz 4 98) (Ql w σ' r)) (hW : CW w)   (hf : fX6_overlap_b194 σ x4 x7 x9 = some (r, σ')) : J X w 17 σ 194 [(0, rf w 0), (4, .int x4), (7, .long x7), (9, .long x9)] [] := by
  rw [fX6_overlap_b194] at hf
  refine r_lconst hX dX6_overlap_194 (v := (0 : Int64)) (by decide) ?_
  refine r_goto hX dX6_overlap_195 (tgt := 203) (by decide) ?_
  exact J.sub [0, 1, 2, 3] rfl (wX6_overlap_b203 hX hW   hf)
set_option maxRecDepth 20000 in
set_option maxHeartbeats 2000000 in
theorem wX6_overlap_b180 {X : Cx} {w : Wp} {σ : St} {r : Int64} {σ' : St}  {x4 : Int32} {x7 : Int64} {x9 : Int64} {x11 : Int64} {x13 : Int64} (hX : OK X w cX6_overlap 17 RX6 (some .long) (rmz 4 98) (Ql w σ' r)) (hW : CW w)   (hf : fX6_overlap_b180 σ x4 x7 x9 x11 x13 = some (r, σ')) : J X w 17 σ 180 [(0, rf w 0), (4, .int x4), (7, .long x7), (9, .long x9), (11, .long x11), (13, .long x13)] [] := by
  rw [fX6_overlap_b180] at hf
  refine r_lload hX dX6_overlap_180 4 rfl ?_
  refine r_lconst hX dX6_overlap_182 (v := (0 : Int64)) (by decide) ?_
  refine r_lcmp_le hX dX6_overlap_183 dX6_overlap_184 (tgt := 194) (by decide) (fun h => ?_) (fun h => ?_)
  · have hf := ite_t h hf
    exact J.sub [0, 1, 2, 3] rfl (wX6_overlap_b194 hX hW   hf)
  · have hf := ite_f h hf
    refine r_lload hX dX6_overlap_187 5 rfl ?_
    refine r_lconst hX dX6_overlap_189 (v := (0 : Int64)) (by decide) ?_
    refine r_lcmp_gt hX dX6_overlap_190 dX6_overlap_191 (tgt := 198) (by decide) (fun h => ?_) (fun h => ?_)
    · have hf := ite_t h hf
      refine r_lload hX dX6_overlap_198 4 rfl ?_
      refine r_lload hX dX6_overlap_200 5 rfl ?_
      refine r_lmul hX dX6_overlap_202 ?_
      exact J.sub [0, 1, 2, 3] rfl (wX6_overlap_b203 hX hW   hf)
    · have hf := ite_f h hf
      exact J.sub [0, 1, 2, 3] rfl (wX6_overlap_b194 hX hW   hf)
set_option maxRecDepth 20000 in
set_option maxHeartbeats 2000000 in
theorem wX6_overlap_b127 {X : Cx} {w : Wp} {σ : St} {r : Int64} {σ' : St}  {x4 : Int32} {x7 : Int64} {x9 : Int64} {x11 : Int64} (hX : OK X w cX6_overlap 17 RX6 (some .long) (rmz 4 98) (Ql w σ' r)) (hW : CW w)   (hf : fX6_overlap_b127 σ x4 x7 x9 x11 = some (r, σ')) : J X w 17 σ 127 [(0, rf w 0), (4, .int x4), (7, .long x7), (9, .long x9), (11, .long x11)] [] := by
  rw [fX6_overlap_b127] at hf
  refine r_aload_n hX dX6_overlap_127 rfl 0 rfl ?_
  refine r_get hX cls6 (CK0 hW) (by decide) (ce7 (CK0 hW)) 5 (by decide) g1_126 rfl dX6_overlap_128 (rf w 7) rfl ?_
  refine r_get hX cls2 (CK7 hW) (by decide) (ce3 (CK7 hW)) 8 (by decide) g1_82 rfl dX6_overlap_131 (.int (σ.1 7 8)) rfl ?_
  refine r_i2l hX dX6_overlap_134 ?_
  refine r_lload hX dX6_overlap_135 3 rfl ?_
  refine r_lmul hX dX6_overlap_137 ?_
  refine r_aload_n hX dX6_overlap_138 rfl 0 rfl ?_
  refine r_get hX cls6 (CK0 hW) (by decide) (ce7 (CK0 hW)) 6 (by decide) g1_127 rfl dX6_overlap_139 (rf w 12) rfl ?_
  refine r_get hX cls2 (CK12 hW) (by decide) (ce3 (CK12 hW)) 8 (by decide) g1_82 rfl dX6_overlap_142 (.int (σ.1 12 8)) rfl ?_
  refine r_i2l hX dX6_overlap_145 ?_
  refine r_lload hX dX6_overlap_146 2 rfl ?_
  refine r_lmul hX dX6_overlap_148 ?_
  refine J.calll (fun H locs ls a b c => runS hX miJ9_min_f86c9 (cJ9_min_f86c9_ok (xl X)  rfl) g2_133 g2_134 ⟨Nat.le_of_ble_eq_true rfl, Nat.le_of_ble_eq_true rfl⟩ dX6_overlap_149 rfl (As := [.long (((σ.1 7 8)).toInt64 * x9), .long (((σ.1 12 8)).toInt64 * x7)]) (rest := []) rfl (Nat.le_of_ble_eq_true rfl) a b c) ?_
  refine r_aload_n hX dX6_overlap_152 rfl 0 rfl ?_
  refine r_get hX cls6 (CK0 hW) (by decide) (ce7 (CK0 hW)) 5 (by decide) g1_126 rfl dX6_overlap_153 (rf w 7) rfl ?_
  refine r_get hX cls2 (CK7 hW) (by decide) (ce3 (CK7 hW)) 7 (by decide) g1_80 rfl dX6_overlap_156 (.int (σ.1 7 7)) rfl ?_
  refine r_i2l hX dX6_overlap_159 ?_
  refine r_lload hX dX6_overlap_160 3 rfl ?_
  refine r_lmul hX dX6_overlap_162 ?_
  refine r_aload_n hX dX6_overlap_163 rfl 0 rfl ?_
  refine r_get hX cls6 (CK0 hW) (by decide) (ce7 (CK0 hW)) 6 (by decide) g1_127 rfl dX6_overlap_164 (rf w 12) rfl ?_
  refine r_get hX cls2 (CK12 hW) (by decide) (ce3 (CK12 hW)) 7 (by decide) g1_80 rfl dX6_overlap_167 (.int (σ.1 12 7)) rfl ?_
  refine r_i2l hX dX6_overlap_170 ?_
  refine r_lload hX dX6_overlap_171 2 rfl ?_
  refine r_lmul hX dX6_overlap_173 ?_
  refine J.calll (fun H locs ls a b c => runS hX miJ9_max_f86c9 (cJ9_max_f86c9_ok (xl X)  rfl) g2_122 g2_123 ⟨Nat.le_of_ble_eq_true rfl, Nat.le_of_ble_eq_true rfl⟩ dX6_overlap_174 rfl (As := [.long (((σ.1 7 7)).toInt64 * x9), .long (((σ.1 12 7)).toInt64 * x7)]) (rest := [.long (fJ9_min_f86c9 (((σ.1 7 8)).toInt64 * x9) (((σ.1 12 8)).toInt64 * x7))]) rfl (Nat.le_of_ble_eq_true rfl) a b c) ?_
  refine r_lsub hX dX6_overlap_177 ?_
  refine r_lstore hX (i := 13) dX6_overlap_178 (by decide) rfl ?_
  exact J.sub [1, 2, 3, 4, 5, 0] rfl (wX6_overlap_b180 hX hW   hf)
set_option maxRecDepth 20000 in
set_option maxHeartbeats 2000000 in
theorem wX6_overlap_b0 {X : Cx} {w : Wp} {σ : St} {r : Int64} {σ' : St}  {x1 : Int32} {x2 : Int32} {x3 : Int32} {x4 : Int32} (hX : OK X w cX6_overlap 17 RX6 (some .long) (rmz 4 98) (Ql w σ' r)) (hW : CW w)   (hf : fX6_overlap σ x1 x2 x3 x4 = some (r, σ')) : J X w 17 σ 0 [(0, rf w 0), (1, .int x1), (2, .int x2), (3, .int x3), (4, .int x4)] [] := by
  rw [fX6_overlap] at hf
  refine r_aload_n hX dX6_overlap_0 rfl 0 rfl ?_
  refine r_iload_n hX dX6_overlap_1 rfl 1 rfl ?_
  obtain ⟨r1, hr3, hf⟩ := bd_s hf
  refine J.callq (fun H locs ls a b c => runV hX miX6_figureAt (As := [.int x1]) (cX6_figureAt_ok (xl X) hW  hr3) g1_203 g1_205 gs_0 cls6 (CK0 hW) (by decide) (ce7 (CK0 hW)) ⟨Nat.le_of_ble_eq_true rfl, Nat.le_of_ble_eq_true rfl⟩ dX6_overlap_2 rfl (rest := []) rfl (Nat.le_of_ble_eq_true rfl) a b c) (fun ht2 => ?_)
  refine r_astoreQ hX (i := 5) dX6_overlap_5 (by decide) rfl ?_
  refine r_aload_n hX dX6_overlap_7 rfl 1 rfl ?_
  refine r_iload_n hX dX6_overlap_8 rfl 3 rfl ?_
  obtain ⟨r4, hr6, hf⟩ := bd_s hf
  refine J.callq (fun H locs ls a b c => runV hX miX6_figureAt (As := [.int x2]) (cX6_figureAt_ok (xl X) hW  hr6) g1_203 g1_205 gs_0 cls6 (CK0 hW) (by decide) (ce7 (CK0 hW)) ⟨Nat.le_of_ble_eq_true rfl, Nat.le_of_ble_eq_true rfl⟩ dX6_overlap_9 rfl (rest := []) rfl (Nat.le_of_ble_eq_true rfl) a b c) (fun ht5 => ?_)
  refine r_astoreQ hX (i := 6) dX6_overlap_12 (by decide) (lv' := [(6, rv w r4), (5, rv w r1), (0, rf w 0), (1, .int x1), (2, .int x2), (3, .int x3), (4, .int x4)]) (by simp [rvcat, catI, catL, catR]) ?_
  refine r_aloadQ hX dX6_overlap_14 1 rfl ?_
  refine r_ifnull hX dX6_overlap_16 (tgt := 41) (by decide) (fun h => ?_) (fun u7 h => ?_)
  · subst h
    have hf := elim_n hf
    exact J.sub [] rfl (wX6_overlap_b41 hX hW   hf)
  · subst h
    have hf := elim_s hf
    refine r_aloadQ hX dX6_overlap_19 0 rfl ?_
    refine r_ifnull hX dX6_overlap_21 (tgt := 41) (by decide) (fun h => ?_) (fun u8 h => ?_)
    · subst h
      have hf := elim_n hf
      exact J.sub [] rfl (wX6_overlap_b41 hX hW   hf)
    · subst h
      have hf := elim_s hf
      refine r_iload_n hX dX6_overlap_24 rfl 5 rfl ?_
      refine J.callz (fun H locs ls a b c => runS hX miX6_isBeat (cX6_isBeat_ok (xl X)  rfl) g1_228 g1_229 ⟨Nat.le_of_ble_eq_true rfl, Nat.le_of_ble_eq_true rfl⟩ dX6_overlap_25 rfl (As := [.int x3]) (rest := []) rfl (Nat.le_of_ble_eq_true rfl) a b c) (fun hz9 => ?_)
      refine r_if_eq hX dX6_overlap_28 (tgt := 41) (by decide) (fun h => ?_) (fun h => ?_)
      · have hf := ite_t h hf
        exact J.sub [] rfl (wX6_overlap_b41 hX hW   hf)
      · have hf := ite_f h hf
        refine r_iload hX dX6_overlap_31 6 rfl ?_
        refine r_iconst hX dX6_overlap_33 (v := (0 : Int32)) (by decide) ?_
        refine r_iconst hX dX6_overlap_34 (v := (1 : Int32)) (by decide) ?_
        refine J.callz (fun H locs ls a b c => runS hX miX6_inRange (cX6_inRange_ok (xl X)  rfl) g1_153 g1_154 ⟨Nat.le_of_ble_eq_true rfl, Nat.le_of_ble_eq_true rfl⟩ dX6_overlap_35 rfl (As := [.int x4, .int (0 : Int32), .int (1 : Int32)]) (rest := []) rfl (Nat.le_of_ble_eq_true rfl) a b c) (fun hz10 => ?_)
        refine r_if_ne hX dX6_overlap_38 (tgt := 45) (by decide) (fun h => ?_) (fun h => ?_)
        · have hf := ite_f h hf
          refine r_aload_n hX dX6_overlap_45 rfl 2 rfl ?_
          refine r_aload hX dX6_overlap_46 1 rfl ?_
          refine r_aload hX dX6_overlap_48 0 rfl ?_
          refine r_iload_n hX dX6_overlap_50 rfl 5 rfl ?_
          obtain ⟨σ11, hr12, hf⟩ := bd_s hf
          refine J.callv (fun H locs ls a b c => runV hX miX6_takePoses (As := [rf w u7, rf w u8, .int x3]) (cX6_takePoses_ok (xl X) hW (ht2 u7 rfl) (ht5 u8 rfl) hr12) g2_129 g2_131 gs_6 cls6 (CK0 hW) (by decide) (ce7 (CK0 hW)) ⟨Nat.le_of_ble_eq_true rfl, Nat.le_of_ble_eq_true rfl⟩ dX6_overlap_51 rfl (rest := []) rfl (Nat.le_of_ble_eq_true rfl) a b c) ?_
          refine r_aload_n hX dX6_overlap_54 rfl 2 rfl ?_
          refine r_get hX cls6 (CK0 hW) (by decide) (ce7 (CK0 hW)) 5 (by decide) g1_126 rfl dX6_overlap_55 (rf w 7) rfl ?_
          refine r_get hX cls2 (CK7 hW) (by decide) (ce3 (CK7 hW)) 4 (by decide) g1_74 rfl dX6_overlap_58 (.int (σ11.1 7 4)) rfl ?_
          refine r_i2l hX dX6_overlap_61 ?_
          refine r_lstore hX (i := 7) dX6_overlap_62 (by decide) rfl ?_
          refine r_aload_n hX dX6_overlap_64 rfl 3 rfl ?_
          refine r_get hX cls6 (CK0 hW) (by decide) (ce7 (CK0 hW)) 6 (by decide) g1_127 rfl dX6_overlap_65 (rf w 12) rfl ?_
          refine r_get hX cls2 (CK12 hW) (by decide) (ce3 (CK12 hW)) 4 (by decide) g1_74 rfl dX6_overlap_68 (.int (σ11.1 12 4)) rfl ?_
          refine r_i2l hX dX6_overlap_71 ?_
          refine r_lstore hX (i := 9) dX6_overlap_72 (by decide) rfl ?_
          refine r_aload_n hX dX6_overlap_74 rfl 4 rfl ?_
          refine r_get hX cls6 (CK0 hW) (by decide) (ce7 (CK0 hW)) 5 (by decide) g1_126 rfl dX6_overlap_75 (rf w 7) rfl ?_
          refine r_get hX cls2 (CK7 hW) (by decide) (ce3 (CK7 hW)) 6 (by decide) g1_78 rfl dX6_overlap_78 (.int (σ11.1 7 6)) rfl ?_
          refine r_i2l hX dX6_overlap_81 ?_
          refine r_lload hX dX6_overlap_82 0 rfl ?_
          refine r_lmul hX dX6_overlap_84 ?_
          refine r_aload_n hX dX6_overlap_85 rfl 4 rfl ?_
          refine r_get hX cls6 (CK0 hW) (by decide) (ce7 (CK0 hW)) 6 (by decide) g1_127 rfl dX6_overlap_86 (rf w 12) rfl ?_
          refine r_get hX cls2 (CK12 hW) (by decide) (ce3 (CK12 hW)) 6 (by decide) g1_78 rfl dX6_overlap_89 (.int (σ11.1 12 6)) rfl ?_
          refine r_i2l hX dX6_overlap_92 ?_
          refine r_lload hX dX6_overlap_93 1 rfl ?_
          refine r_lmul hX dX6_overlap_95 ?_
          refine J.calll (fun H locs ls a b c => runS hX miJ9_min_f86c9 (cJ9_min_f86c9_ok (xl X)  rfl) g2_133 g2_134 ⟨Nat.le_of_ble_eq_true rfl, Nat.le_of_ble_eq_true rfl⟩ dX6_overlap_96 rfl (As := [.long (((σ11.1 7 6)).toInt64 * ((σ11.1 12 4)).toInt64), .long (((σ11.1 12 6)).toInt64 * ((σ11.1 7 4)).toInt64)]) (rest := []) rfl (Nat.le_of_ble_eq_true rfl) a b c) ?_
          refine r_aload_n hX dX6_overlap_99 rfl 4 rfl ?_
          refine r_get hX cls6 (CK0 hW) (by decide) (ce7 (CK0 hW)) 5 (by decide) g1_126 rfl dX6_overlap_100 (rf w 7) rfl ?_
          refine r_get hX cls2 (CK7 hW) (by decide) (ce3 (CK7 hW)) 5 (by decide) g1_76 rfl dX6_overlap_103 (.int (σ11.1 7 5)) rfl ?_
          refine r_i2l hX dX6_overlap_106 ?_
          refine r_lload hX dX6_overlap_107 0 rfl ?_
          refine r_lmul hX dX6_overlap_109 ?_
          refine r_aload_n hX dX6_overlap_110 rfl 4 rfl ?_
          refine r_get hX cls6 (CK0 hW) (by decide) (ce7 (CK0 hW)) 6 (by decide) g1_127 rfl dX6_overlap_111 (rf w 12) rfl ?_
          refine r_get hX cls2 (CK12 hW) (by decide) (ce3 (CK12 hW)) 5 (by decide) g1_76 rfl dX6_overlap_114 (.int (σ11.1 12 5)) rfl ?_
          refine r_i2l hX dX6_overlap_117 ?_
          refine r_lload hX dX6_overlap_118 1 rfl ?_
          refine r_lmul hX dX6_overlap_120 ?_
          refine J.calll (fun H locs ls a b c => runS hX miJ9_max_f86c9 (cJ9_max_f86c9_ok (xl X)  rfl) g2_122 g2_123 ⟨Nat.le_of_ble_eq_true rfl, Nat.le_of_ble_eq_true rfl⟩ dX6_overlap_121 rfl (As := [.long (((σ11.1 7 5)).toInt64 * ((σ11.1 12 4)).toInt64), .long (((σ11.1 12 5)).toInt64 * ((σ11.1 7 4)).toInt64)]) (rest := [.long (fJ9_min_f86c9 (((σ11.1 7 6)).toInt64 * ((σ11.1 12 4)).toInt64) (((σ11.1 12 6)).toInt64 * ((σ11.1 7 4)).toInt64))]) rfl (Nat.le_of_ble_eq_true rfl) a b c) ?_
          refine r_lsub hX dX6_overlap_124 ?_
          refine r_lstore hX (i := 11) dX6_overlap_125 (by decide) rfl ?_
          exact J.sub [5, 9, 2, 1, 0] rfl (wX6_overlap_b127 hX hW   hf)
        · have hf := ite_t h hf
          exact J.sub [] rfl (wX6_overlap_b41 hX hW   hf)
theorem miX6_overlap : MI yX6_overlap cX6_overlap 17 (some .long) 4 := ⟨g2_128, ⟨by decide, by decide, by decide +kernel⟩, g1_1, by decide +kernel⟩
theorem cX6_overlap_ok (l : Launch) {w : Wp} {σ : St} {r : Int64} {σ' : St} {x1 : Int32} {x2 : Int32} {x3 : Int32} {x4 : Int32} (hW : CW w)  (hf : fX6_overlap σ x1 x2 x3 x4 = some (r, σ')) : CM l w yX6_overlap cX6_overlap 17 (some .long) (rmz 4 98) [rf w 0, .int x1, .int x2, .int x3, .int x4] σ (Ql w σ' r) := CM.of miX6_overlap.2.2.2 (Nat.le_of_ble_eq_true rfl) (fun X hcl hX => J.sub [0, 1, 2, 3, 4] rfl (wX6_overlap_b0 hX hW  hf))
-- X6_crossingLimbs
set_option maxRecDepth 20000 in
set_option maxHeartbeats 2000000 in
theorem wX6_crossingLimbs_b107 {X : Cx} {w : Wp} {σ : St} {r : Int32} {σ' : St} {t1 : Nat} {t2 : Nat} {k13 : St → Int32 → Int32 → Option (Int32 × St)} {k53 : St → Int32 → Int32 → Int32 → Option (Int32 × St)} {x4 : Int32} {x5 : Int32} {x6 : Int32} (hX : OK X w cX6_crossingLimbs 7 RX6 (some .int) (rmz 4 98) (Qi w σ' r)) (hW : CW w) (h1 : wK w t1 = 1) (h2 : wK w t2 = 1) (hk13 : ∀ (σ : St) (x4 : Int32) (x5 : Int32), k13 σ x4 x5 = some (r, σ') → J X w 7 σ 13 [(0, rf w 0), (1, rf w t1), (2, rf w t2), (4, .int x4), (5, .int x5)] []) (hk53 : ∀ (σ : St) (x4 : Int32) (x5 : Int32) (x6 : Int32), k53 σ x4 x5 x6 = some (r, σ') → J X w 7 σ 53 [(0, rf w 0), (1, rf w t1), (2, rf w t2), (4, .int x4), (5, .int x5), (6, .int x6)] [])  (hf : fX6_crossingLimbs_b107 t1 t2 k13 k53 σ x4 x5 x6 = some (r, σ')) : J X w 7 σ 107 [(0, rf w 0), (1, rf w t1), (2, rf w t2), (4, .int x4), (5, .int x5), (6, .int x6)] [] := by
  rw [fX6_crossingLimbs_b107] at hf
  refine r_iincC hX dX6_crossingLimbs_107 5 rfl (d := (1 : Int32)) (by decide) (by decide) rfl ?_
  refine r_goto hX dX6_crossingLimbs_110 (tgt := 53) (by decide) ?_
  exact J.sub [1, 2, 3, 4, 5, 0] rfl (hk53 _ _ _ _  hf)
set_option maxRecDepth 20000 in
set_option maxHeartbeats 2000000 in
theorem wX6_crossingLimbs_L53 {X : Cx} {w : Wp} {r : Int32} {σ' : St} {t1 : Nat} {t2 : Nat} {k13 : St → Int32 → Int32 → Option (Int32 × St)} (hX : OK X w cX6_crossingLimbs 7 RX6 (some .int) (rmz 4 98) (Qi w σ' r)) (hW : CW w) (h1 : wK w t1 = 1) (h2 : wK w t2 = 1) (hk13 : ∀ (σ : St) (x4 : Int32) (x5 : Int32), k13 σ x4 x5 = some (r, σ') → J X w 7 σ 13 [(0, rf w 0), (1, rf w t1), (2, rf w t2), (4, .int x4), (5, .int x5)] []) : ∀ (n : Nat) (σ : St) (x4 : Int32) (x5 : Int32) (x6 : Int32), fX6_crossingLimbs_L53 t1 t2 k13 n σ x4 x5 x6 = some (r, σ') → J X w 7 σ 53 [(0, rf w 0), (1, rf w t1), (2, rf w t2), (4, .int x4), (5, .int x5), (6, .int x6)] [] := by
  intro n
  induction n with
  | zero =>
    intro σ x4 x5 x6 hf
    cases hf
  | succ n ih =>
    intro σ x4 x5 x6 hf
    rw [fX6_crossingLimbs_L53] at hf
    refine r_iload hX dX6_crossingLimbs_53 5 rfl ?_
    refine r_aload_n hX dX6_crossingLimbs_55 rfl 2 rfl ?_
    refine r_get hX cls0 h2 (by decide) (ce1 h2) 7 (by decide) g1_181 rfl dX6_crossingLimbs_56 (.int (σ.1 t2 7)) rfl ?_
    refine r_icmp_ge hX dX6_crossingLimbs_59 (tgt := 113) (by decide) (fun h => ?_) (fun h => ?_)
    · have hf := ite_t h hf
      refine r_iincC hX dX6_crossingLimbs_113 4 rfl (d := (1 : Int32)) (by decide) (by decide) rfl ?_
      refine r_goto hX dX6_crossingLimbs_116 (tgt := 13) (by decide) ?_
      exact J.sub [1, 2, 3, 4, 0] rfl (hk13 _ _ _  hf)
    · have hf := ite_f h hf
      refine r_aload_n hX dX6_crossingLimbs_62 rfl 0 rfl ?_
      refine r_get hX cls6 (CK0 hW) (by decide) (ce7 (CK0 hW)) 8 (by decide) g1_129 rfl dX6_crossingLimbs_63 (rf w 18) rfl ?_
      refine r_aload_n hX dX6_crossingLimbs_66 rfl 0 rfl ?_
      refine r_get hX cls6 (CK0 hW) (by decide) (ce7 (CK0 hW)) 6 (by decide) g1_127 rfl dX6_crossingLimbs_67 (rf w 12) rfl ?_
      refine r_aload_n hX dX6_crossingLimbs_70 rfl 2 rfl ?_
      refine r_iload hX dX6_crossingLimbs_71 5 rfl ?_
      obtain ⟨r1, hr2, hf⟩ := bd_s hf
      refine J.calli (fun H locs ls a b c => runV hX miX0_start (As := [.int x6]) (cX0_start_ok (xl X) hW h2 hr2) g2_144 g2_87 g2_88 cls0 h2 (by decide) (ce1 h2) ⟨Nat.le_of_ble_eq_true rfl, Nat.le_of_ble_eq_true rfl⟩ dX6_crossingLimbs_73 rfl (rest := [rf w 12, rf w 18]) rfl (Nat.le_of_ble_eq_true rfl) a b c) ?_
      refine r_iload hX dX6_crossingLimbs_76 5 rfl ?_
      refine r_iconst hX dX6_crossingLimbs_78 (v := (1 : Int32)) (by decide) ?_
      refine r_iadd hX dX6_crossingLimbs_79 ?_
      refine r_aload_n hX dX6_crossingLimbs_80 rfl 0 rfl ?_
      refine r_get hX cls6 (CK0 hW) (by decide) (ce7 (CK0 hW)) 5 (by decide) g1_126 rfl dX6_crossingLimbs_81 (rf w 7) rfl ?_
      refine r_get hX cls2 (CK7 hW) (by decide) (ce3 (CK7 hW)) 4 (by decide) g1_74 rfl dX6_crossingLimbs_84 (.int (σ.1 7 4)) rfl ?_
      obtain ⟨σ3, hr4, hf⟩ := bd_s hf
      refine J.callv (fun H locs ls a b c => runV hX miX5_lay (As := [rf w 12, .int r1, .int (x6 + (1 : Int32)), .int (σ.1 7 4)]) (cX5_lay_ok (xl X) hW (CK18 hW) (CK12 hW) hr4) g2_145 g2_146 g2_147 cls5 (CK18 hW) (by decide) (ce6 (CK18 hW)) ⟨Nat.le_of_ble_eq_true rfl, Nat.le_of_ble_eq_true rfl⟩ dX6_crossingLimbs_87 rfl (rest := []) rfl (Nat.le_of_ble_eq_true rfl) a b c) ?_
      refine r_aload_n hX dX6_crossingLimbs_90 rfl 0 rfl ?_
      refine r_get hX cls6 (CK0 hW) (by decide) (ce7 (CK0 hW)) 7 (by decide) g1_128 rfl dX6_crossingLimbs_91 (rf w 17) rfl ?_
      refine r_aload_n hX dX6_crossingLimbs_94 rfl 0 rfl ?_
      refine r_get hX cls6 (CK0 hW) (by decide) (ce7 (CK0 hW)) 8 (by decide) g1_129 rfl dX6_crossingLimbs_95 (rf w 18) rfl ?_
      refine J.callz (fun H locs ls a b c => runV hX miX5_meets (As := [rf w 18]) (cX5_meets_ok (xl X) hW (CK17 hW) (CK18 hW) rfl) g2_149 g2_150 g2_151 cls5 (CK17 hW) (by decide) (ce6 (CK17 hW)) ⟨Nat.le_of_ble_eq_true rfl, Nat.le_of_ble_eq_true rfl⟩ dX6_crossingLimbs_98 rfl (rest := []) rfl (Nat.le_of_ble_eq_true rfl) a b c) (fun hz5 => ?_)
      refine r_if_eq hX dX6_crossingLimbs_101 (tgt := 107) (by decide) (fun h => ?_) (fun h => ?_)
      · have hf := ite_t h hf
        exact J.sub [0, 1, 2, 3, 4, 5] rfl (wX6_crossingLimbs_b107 hX hW h1 h2 hk13 ih  hf)
      · have hf := ite_f h hf
        refine r_iincC hX dX6_crossingLimbs_104 3 rfl (d := (1 : Int32)) (by decide) (by decide) rfl ?_
        exact J.sub [1, 2, 3, 0, 4, 5] rfl (wX6_crossingLimbs_b107 hX hW h1 h2 hk13 ih  hf)
set_option maxRecDepth 20000 in
set_option maxHeartbeats 2000000 in
theorem wX6_crossingLimbs_L13 {X : Cx} {w : Wp} {r : Int32} {σ' : St} {t1 : Nat} {t2 : Nat}  (hX : OK X w cX6_crossingLimbs 7 RX6 (some .int) (rmz 4 98) (Qi w σ' r)) (hW : CW w) (h1 : wK w t1 = 1) (h2 : wK w t2 = 1)  : ∀ (n : Nat) (σ : St) (x4 : Int32) (x5 : Int32), fX6_crossingLimbs_L13 t1 t2 n σ x4 x5 = some (r, σ') → J X w 7 σ 13 [(0, rf w 0), (1, rf w t1), (2, rf w t2), (4, .int x4), (5, .int x5)] [] := by
  intro n
  induction n with
  | zero =>
    intro σ x4 x5 hf
    cases hf
  | succ n ih =>
    intro σ x4 x5 hf
    rw [fX6_crossingLimbs_L13] at hf
    refine r_iload hX dX6_crossingLimbs_13 4 rfl ?_
    refine r_aload_n hX dX6_crossingLimbs_15 rfl 1 rfl ?_
    refine r_get hX cls0 h1 (by decide) (ce1 h1) 7 (by decide) g1_181 rfl dX6_crossingLimbs_16 (.int (σ.1 t1 7)) rfl ?_
    refine r_icmp_ge hX dX6_crossingLimbs_19 (tgt := 119) (by decide) (fun h => ?_) (fun h => ?_)
    · have hf := ite_t h hf
      refine r_iload hX dX6_crossingLimbs_119 3 rfl ?_
      cases hf
      exact r_iret hX dX6_crossingLimbs_121
    · have hf := ite_f h hf
      refine r_aload_n hX dX6_crossingLimbs_22 rfl 0 rfl ?_
      refine r_get hX cls6 (CK0 hW) (by decide) (ce7 (CK0 hW)) 7 (by decide) g1_128 rfl dX6_crossingLimbs_23 (rf w 17) rfl ?_
      refine r_aload_n hX dX6_crossingLimbs_26 rfl 0 rfl ?_
      refine r_get hX cls6 (CK0 hW) (by decide) (ce7 (CK0 hW)) 5 (by decide) g1_126 rfl dX6_crossingLimbs_27 (rf w 7) rfl ?_
      refine r_aload_n hX dX6_crossingLimbs_30 rfl 1 rfl ?_
      refine r_iload hX dX6_crossingLimbs_31 4 rfl ?_
      obtain ⟨r1, hr2, hf⟩ := bd_s hf
      refine J.calli (fun H locs ls a b c => runV hX miX0_start (As := [.int x5]) (cX0_start_ok (xl X) hW h1 hr2) g2_144 g2_87 g2_88 cls0 h1 (by decide) (ce1 h1) ⟨Nat.le_of_ble_eq_true rfl, Nat.le_of_ble_eq_true rfl⟩ dX6_crossingLimbs_33 rfl (rest := [rf w 7, rf w 17]) rfl (Nat.le_of_ble_eq_true rfl) a b c) ?_
      refine r_iload hX dX6_crossingLimbs_36 4 rfl ?_
      refine r_iconst hX dX6_crossingLimbs_38 (v := (1 : Int32)) (by decide) ?_
      refine r_iadd hX dX6_crossingLimbs_39 ?_
      refine r_aload_n hX dX6_crossingLimbs_40 rfl 0 rfl ?_
      refine r_get hX cls6 (CK0 hW) (by decide) (ce7 (CK0 hW)) 6 (by decide) g1_127 rfl dX6_crossingLimbs_41 (rf w 12) rfl ?_
      refine r_get hX cls2 (CK12 hW) (by decide) (ce3 (CK12 hW)) 4 (by decide) g1_74 rfl dX6_crossingLimbs_44 (.int (σ.1 12 4)) rfl ?_
      obtain ⟨σ3, hr4, hf⟩ := bd_s hf
      refine J.callv (fun H locs ls a b c => runV hX miX5_lay (As := [rf w 7, .int r1, .int (x5 + (1 : Int32)), .int (σ.1 12 4)]) (cX5_lay_ok (xl X) hW (CK17 hW) (CK7 hW) hr4) g2_145 g2_146 g2_147 cls5 (CK17 hW) (by decide) (ce6 (CK17 hW)) ⟨Nat.le_of_ble_eq_true rfl, Nat.le_of_ble_eq_true rfl⟩ dX6_crossingLimbs_47 rfl (rest := []) rfl (Nat.le_of_ble_eq_true rfl) a b c) ?_
      refine r_iconst hX dX6_crossingLimbs_50 (v := (0 : Int32)) (by decide) ?_
      refine r_istore hX (i := 6) dX6_crossingLimbs_51 (by decide) rfl ?_
      exact J.sub [1, 2, 3, 4, 5, 0] rfl (wX6_crossingLimbs_L53 hX hW h1 h2 ih _ _ _ _ _  hf)
set_option maxRecDepth 20000 in
set_option maxHeartbeats 2000000 in
theorem wX6_crossingLimbs_b0 {X : Cx} {w : Wp} {σ : St} {r : Int32} {σ' : St} {t1 : Nat} {t2 : Nat}  {x3 : Int32} (hX : OK X w cX6_crossingLimbs 7 RX6 (some .int) (rmz 4 98) (Qi w σ' r)) (hW : CW w) (h1 : wK w t1 = 1) (h2 : wK w t2 = 1)   (hf : fX6_crossingLimbs t1 t2 σ x3 = some (r, σ')) : J X w 7 σ 0 [(0, rf w 0), (1, rf w t1), (2, rf w t2), (3, .int x3)] [] := by
  rw [fX6_crossingLimbs] at hf
  refine r_aload_n hX dX6_crossingLimbs_0 rfl 0 rfl ?_
  refine r_aload_n hX dX6_crossingLimbs_1 rfl 1 rfl ?_
  refine r_aload_n hX dX6_crossingLimbs_2 rfl 2 rfl ?_
  refine r_iload_n hX dX6_crossingLimbs_3 rfl 3 rfl ?_
  obtain ⟨σ1, hr2, hf⟩ := bd_s hf
  refine J.callv (fun H locs ls a b c => runV hX miX6_takePoses (As := [rf w t1, rf w t2, .int x3]) (cX6_takePoses_ok (xl X) hW h1 h2 hr2) g2_129 g2_131 gs_6 cls6 (CK0 hW) (by decide) (ce7 (CK0 hW)) ⟨Nat.le_of_ble_eq_true rfl, Nat.le_of_ble_eq_true rfl⟩ dX6_crossingLimbs_4 rfl (rest := []) rfl (Nat.le_of_ble_eq_true rfl) a b c) ?_
  refine r_iconst hX dX6_crossingLimbs_7 (v := (0 : Int32)) (by decide) ?_
  refine r_istore hX (i := 4) dX6_crossingLimbs_8 (by decide) rfl ?_
  refine r_iconst hX dX6_crossingLimbs_10 (v := (0 : Int32)) (by decide) ?_
  refine r_istore hX (i := 5) dX6_crossingLimbs_11 (by decide) rfl ?_
  exact J.sub [2, 3, 4, 1, 0] rfl (wX6_crossingLimbs_L13 hX hW h1 h2  _ _ _ _  hf)
theorem miX6_crossingLimbs : MI yX6_crossingLimbs cX6_crossingLimbs 7 (some .int) 3 := ⟨g2_143, ⟨by decide, by decide, by decide +kernel⟩, g1_1, by decide +kernel⟩
theorem cX6_crossingLimbs_ok (l : Launch) {w : Wp} {σ : St} {r : Int32} {σ' : St} {t1 : Nat} {t2 : Nat} {x3 : Int32} (hW : CW w) (h1 : wK w t1 = 1) (h2 : wK w t2 = 1)  (hf : fX6_crossingLimbs t1 t2 σ x3 = some (r, σ')) : CM l w yX6_crossingLimbs cX6_crossingLimbs 7 (some .int) (rmz 4 98) [rf w 0, rf w t1, rf w t2, .int x3] σ (Qi w σ' r) := CM.of miX6_crossingLimbs.2.2.2 (Nat.le_of_ble_eq_true rfl) (fun X hcl hX => J.sub [0, 1, 2, 3] rfl (wX6_crossingLimbs_b0 hX hW h1 h2  hf))
-- X6_crossings
set_option maxRecDepth 20000 in
set_option maxHeartbeats 2000000 in
theorem wX6_crossings_b0 {X : Cx} {w : Wp} {σ : St} {r : Int32} {σ' : St}  {x1 : Int32} {x2 : Int32} {x3 : Int32} (hX : OK X w cX6_crossings 6 RX6 (some .int) (rmz 5 124) (Qi w σ' r)) (hW : CW w)   (hf : fX6_crossings σ x1 x2 x3 = some (r, σ')) : J X w 6 σ 0 [(0, rf w 0), (1, .int x1), (2, .int x2), (3, .int x3)] [] := by
  rw [fX6_crossings] at hf
  refine r_aload_n hX dX6_crossings_0 rfl 0 rfl ?_
  refine r_iload_n hX dX6_crossings_1 rfl 1 rfl ?_
  obtain ⟨r1, hr3, hf⟩ := bd_s hf
  refine J.callq (fun H locs ls a b c => runV hX miX6_figureAt (As := [.int x1]) (cX6_figureAt_ok (xl X) hW  hr3) g1_203 g1_205 gs_0 cls6 (CK0 hW) (by decide) (ce7 (CK0 hW)) ⟨Nat.le_of_ble_eq_true rfl, Nat.le_of_ble_eq_true rfl⟩ dX6_crossings_2 rfl (rest := []) rfl (Nat.le_of_ble_eq_true rfl) a b c) (fun ht2 => ?_)
  refine r_astoreQ hX (i := 4) dX6_crossings_5 (by decide) rfl ?_
  refine r_aload_n hX dX6_crossings_7 rfl 1 rfl ?_
  refine r_iload_n hX dX6_crossings_8 rfl 3 rfl ?_
  obtain ⟨r4, hr6, hf⟩ := bd_s hf
  refine J.callq (fun H locs ls a b c => runV hX miX6_figureAt (As := [.int x2]) (cX6_figureAt_ok (xl X) hW  hr6) g1_203 g1_205 gs_0 cls6 (CK0 hW) (by decide) (ce7 (CK0 hW)) ⟨Nat.le_of_ble_eq_true rfl, Nat.le_of_ble_eq_true rfl⟩ dX6_crossings_9 rfl (rest := []) rfl (Nat.le_of_ble_eq_true rfl) a b c) (fun ht5 => ?_)
  refine r_astoreQ hX (i := 5) dX6_crossings_12 (by decide) (lv' := [(5, rv w r4), (4, rv w r1), (0, rf w 0), (1, .int x1), (2, .int x2), (3, .int x3)]) (by simp [rvcat, catI, catL, catR]) ?_
  refine r_aloadQ hX dX6_crossings_14 1 rfl ?_
  refine r_ifnull hX dX6_crossings_16 (tgt := 24) (by decide) (fun h => ?_) (fun u7 h => ?_)
  · subst h
    have hf := elim_n hf
    refine r_iconst hX dX6_crossings_24 (v := (-1 : Int32)) (by decide) ?_
    cases hf
    exact r_iret hX dX6_crossings_25
  · subst h
    have hf := elim_s hf
    refine r_aloadQ hX dX6_crossings_19 0 rfl ?_
    refine r_ifnonnull hX dX6_crossings_21 (tgt := 26) (by decide) (fun u8 h => ?_) (fun h => ?_)
    · subst h
      have hf := elim_s hf
      refine r_iload_n hX dX6_crossings_26 rfl 3 rfl ?_
      refine r_iload_n hX dX6_crossings_27 rfl 4 rfl ?_
      refine r_icmp_eq hX dX6_crossings_28 (tgt := 38) (by decide) (fun h => ?_) (fun h => ?_)
      · have hf := ite_t h hf
        refine r_bipush hX dX6_crossings_38 (v := (-3 : Int32)) (by decide) ?_
        cases hf
        exact r_iret hX dX6_crossings_40
      · have hf := ite_f h hf
        refine r_iload_n hX dX6_crossings_31 rfl 5 rfl ?_
        refine J.callz (fun H locs ls a b c => runS hX miX6_isBeat (cX6_isBeat_ok (xl X)  rfl) g1_228 g1_229 ⟨Nat.le_of_ble_eq_true rfl, Nat.le_of_ble_eq_true rfl⟩ dX6_crossings_32 rfl (As := [.int x3]) (rest := []) rfl (Nat.le_of_ble_eq_true rfl) a b c) (fun hz9 => ?_)
        refine r_if_ne hX dX6_crossings_35 (tgt := 41) (by decide) (fun h => ?_) (fun h => ?_)
        · have hf := ite_f h hf
          refine r_aload_n hX dX6_crossings_41 rfl 2 rfl ?_
          refine r_aload hX dX6_crossings_42 1 rfl ?_
          refine r_aload hX dX6_crossings_44 0 rfl ?_
          refine r_iload_n hX dX6_crossings_46 rfl 5 rfl ?_
          obtain ⟨r10, σ11, hr12, hf⟩ := bd2_s hf
          refine J.calli (fun H locs ls a b c => runV hX miX6_crossingLimbs (As := [rf w u7, rf w u8, .int x3]) (cX6_crossingLimbs_ok (xl X) hW (ht2 u7 rfl) (ht5 u8 rfl) hr12) g2_140 g2_142 gs_7 cls6 (CK0 hW) (by decide) (ce7 (CK0 hW)) ⟨Nat.le_of_ble_eq_true rfl, Nat.le_of_ble_eq_true rfl⟩ dX6_crossings_47 rfl (rest := []) rfl (Nat.le_of_ble_eq_true rfl) a b c) ?_
          cases hf
          exact r_iret hX dX6_crossings_50
        · have hf := ite_t h hf
          refine r_bipush hX dX6_crossings_38 (v := (-3 : Int32)) (by decide) ?_
          cases hf
          exact r_iret hX dX6_crossings_40
    · subst h
      have hf := elim_n hf
      refine r_iconst hX dX6_crossings_24 (v := (-1 : Int32)) (by decide) ?_
      cases hf
      exact r_iret hX dX6_crossings_25
theorem miX6_crossings : MI yX6_crossings cX6_crossings 6 (some .int) 3 := ⟨g2_139, ⟨by decide, by decide, by decide +kernel⟩, g1_1, by decide +kernel⟩
theorem cX6_crossings_ok (l : Launch) {w : Wp} {σ : St} {r : Int32} {σ' : St} {x1 : Int32} {x2 : Int32} {x3 : Int32} (hW : CW w)  (hf : fX6_crossings σ x1 x2 x3 = some (r, σ')) : CM l w yX6_crossings cX6_crossings 6 (some .int) (rmz 5 124) [rf w 0, .int x1, .int x2, .int x3] σ (Qi w σ' r) := CM.of miX6_crossings.2.2.2 (Nat.le_of_ble_eq_true rfl) (fun X hcl hX => J.sub [0, 1, 2, 3] rfl (wX6_crossings_b0 hX hW  hf))
-- X6_nextCrossing
set_option maxRecDepth 20000 in
set_option maxHeartbeats 2000000 in
theorem wX6_nextCrossing_b97 {X : Cx} {w : Wp} {σ : St} {r : Int32} {σ' : St} {k44 : St → Int32 → Nat → Nat → Int32 → Option (Int32 × St)} {x3 : Int32} {t4 : Nat} {t5 : Nat} {x6 : Int32} (hX : OK X w cX6_nextCrossing 8 RX6 (some .int) (rmz 5 124) (Qi w σ' r)) (hW : CW w) (hk44 : ∀ (σ : St) (x3 : Int32) (t4 : Nat) (t5 : Nat) (x6 : Int32), ∀ (h4 : wK w t4 = 1), ∀ (h5 : wK w t5 = 1), k44 σ x3 t4 t5 x6 = some (r, σ') → J X w 8 σ 44 [(0, rf w 0), (3, .int x3), (4, rf w t4), (5, rf w t5), (6, .int x6)] []) (h4 : wK w t4 = 1) (h5 : wK w t5 = 1) (hf : fX6_nextCrossing_b97 k44 σ x3 t4 t5 x6 = some (r, σ')) : J X w 8 σ 97 [(0, rf w 0), (3, .int x3), (4, rf w t4), (5, rf w t5), (6, .int x6)] [] := by
  rw [fX6_nextCrossing_b97] at hf
  refine r_iincC hX dX6_nextCrossing_97 4 rfl (d := (1 : Int32)) (by decide) (by decide) rfl ?_
  refine r_goto hX dX6_nextCrossing_100 (tgt := 44) (by decide) ?_
  exact J.sub [1, 2, 3, 4, 0] rfl (hk44 _ _ _ _ _ h4 h5 hf)
set_option maxRecDepth 20000 in
set_option maxHeartbeats 2000000 in
theorem wX6_nextCrossing_b74 {X : Cx} {w : Wp} {σ : St} {r : Int32} {σ' : St} {k44 : St → Int32 → Nat → Nat → Int32 → Option (Int32 × St)} {x3 : Int32} {t4 : Nat} {t5 : Nat} {x6 : Int32} {xs0 : Int32} (hX : OK X w cX6_nextCrossing 8 RX6 (some .int) (rmz 5 124) (Qi w σ' r)) (hW : CW w) (hk44 : ∀ (σ : St) (x3 : Int32) (t4 : Nat) (t5 : Nat) (x6 : Int32), ∀ (h4 : wK w t4 = 1), ∀ (h5 : wK w t5 = 1), k44 σ x3 t4 t5 x6 = some (r, σ') → J X w 8 σ 44 [(0, rf w 0), (3, .int x3), (4, rf w t4), (5, rf w t5), (6, .int x6)] []) (h4 : wK w t4 = 1) (h5 : wK w t5 = 1) (hf : fX6_nextCrossing_b74 k44 σ x3 t4 t5 x6 xs0 = some (r, σ')) : J X w 8 σ 74 [(0, rf w 0), (3, .int x3), (4, rf w t4), (5, rf w t5), (6, .int x6)] [.int xs0] := by
  rw [fX6_nextCrossing_b74] at hf
  refine r_istore hX (i := 7) dX6_nextCrossing_74 (by decide) rfl ?_
  refine r_iload hX dX6_nextCrossing_76 0 rfl ?_
  refine r_if_eq hX dX6_nextCrossing_78 (tgt := 97) (by decide) (fun h => ?_) (fun h => ?_)
  · have hf := ite_t h hf
    exact J.sub [1, 2, 3, 4, 5] rfl (wX6_nextCrossing_b97 hX hW hk44 h4 h5 hf)
  · have hf := ite_f h hf
    refine r_aload_n hX dX6_nextCrossing_81 rfl 1 rfl ?_
    refine r_aload hX dX6_nextCrossing_82 3 rfl ?_
    refine r_aload hX dX6_nextCrossing_84 4 rfl ?_
    refine r_iload hX dX6_nextCrossing_86 5 rfl ?_
    obtain ⟨r1, σ2, hr3, hf⟩ := bd2_s hf
    refine J.calli (fun H locs ls a b c => runV hX miX6_crossingLimbs (As := [rf w t4, rf w t5, .int x6]) (cX6_crossingLimbs_ok (xl X) hW h4 h5 hr3) g2_140 g2_142 gs_7 cls6 (CK0 hW) (by decide) (ce7 (CK0 hW)) ⟨Nat.le_of_ble_eq_true rfl, Nat.le_of_ble_eq_true rfl⟩ dX6_nextCrossing_88 rfl (rest := []) rfl (Nat.le_of_ble_eq_true rfl) a b c) ?_
    refine r_if_le hX dX6_nextCrossing_91 (tgt := 97) (by decide) (fun h => ?_) (fun h => ?_)
    · have hf := ite_t h hf
      exact J.sub [1, 2, 3, 4, 5] rfl (wX6_nextCrossing_b97 hX hW hk44 h4 h5 hf)
    · have hf := ite_f h hf
      refine r_iload hX dX6_nextCrossing_94 5 rfl ?_
      cases hf
      exact r_iret hX dX6_nextCrossing_96
set_option maxRecDepth 20000 in
set_option maxHeartbeats 2000000 in
theorem wX6_nextCrossing_b69 {X : Cx} {w : Wp} {σ : St} {r : Int32} {σ' : St} {k44 : St → Int32 → Nat → Nat → Int32 → Option (Int32 × St)} {x3 : Int32} {t4 : Nat} {t5 : Nat} {x6 : Int32} (hX : OK X w cX6_nextCrossing 8 RX6 (some .int) (rmz 5 124) (Qi w σ' r)) (hW : CW w) (hk44 : ∀ (σ : St) (x3 : Int32) (t4 : Nat) (t5 : Nat) (x6 : Int32), ∀ (h4 : wK w t4 = 1), ∀ (h5 : wK w t5 = 1), k44 σ x3 t4 t5 x6 = some (r, σ') → J X w 8 σ 44 [(0, rf w 0), (3, .int x3), (4, rf w t4), (5, rf w t5), (6, .int x6)] []) (h4 : wK w t4 = 1) (h5 : wK w t5 = 1) (hf : fX6_nextCrossing_b69 k44 σ x3 t4 t5 x6 = some (r, σ')) : J X w 8 σ 69 [(0, rf w 0), (3, .int x3), (4, rf w t4), (5, rf w t5), (6, .int x6)] [] := by
  rw [fX6_nextCrossing_b69] at hf
  refine r_iconst hX dX6_nextCrossing_69 (v := (1 : Int32)) (by decide) ?_
  refine r_goto hX dX6_nextCrossing_70 (tgt := 74) (by decide) ?_
  exact J.sub [0, 1, 2, 3, 4] rfl (wX6_nextCrossing_b74 hX hW hk44 h4 h5 hf)
set_option maxRecDepth 20000 in
set_option maxHeartbeats 2000000 in
theorem wX6_nextCrossing_L44 {X : Cx} {w : Wp} {r : Int32} {σ' : St}  (hX : OK X w cX6_nextCrossing 8 RX6 (some .int) (rmz 5 124) (Qi w σ' r)) (hW : CW w)  : ∀ (n : Nat) (σ : St) (x3 : Int32) (t4 : Nat) (t5 : Nat) (x6 : Int32), ∀ (h4 : wK w t4 = 1), ∀ (h5 : wK w t5 = 1), fX6_nextCrossing_L44 n σ x3 t4 t5 x6 = some (r, σ') → J X w 8 σ 44 [(0, rf w 0), (3, .int x3), (4, rf w t4), (5, rf w t5), (6, .int x6)] [] := by
  intro n
  induction n with
  | zero =>
    intro σ x3 t4 t5 x6 h4 h5 hf
    cases hf
  | succ n ih =>
    intro σ x3 t4 t5 x6 h4 h5 hf
    rw [fX6_nextCrossing_L44] at hf
    refine r_iload hX dX6_nextCrossing_44 4 rfl ?_
    refine r_bipush hX dX6_nextCrossing_46 (v := (99 : Int32)) (by decide) ?_
    refine r_icmp_gt hX dX6_nextCrossing_48 (tgt := 103) (by decide) (fun h => ?_) (fun h => ?_)
    · have hf := ite_t h hf
      refine r_bipush hX dX6_nextCrossing_103 (v := (-5 : Int32)) (by decide) ?_
      cases hf
      exact r_iret hX dX6_nextCrossing_105
    · have hf := ite_f h hf
      refine r_iload hX dX6_nextCrossing_51 4 rfl ?_
      refine r_iload_n hX dX6_nextCrossing_53 rfl 1 rfl ?_
      refine r_icmp_eq hX dX6_nextCrossing_54 (tgt := 69) (by decide) (fun h => ?_) (fun h => ?_)
      · have hf := ite_t h hf
        exact J.sub [0, 1, 2, 3, 4] rfl (wX6_nextCrossing_b69 hX hW ih h4 h5 hf)
      · have hf := ite_f h hf
        refine r_aload_n hX dX6_nextCrossing_57 rfl 0 rfl ?_
        refine r_get hX cls6 (CK0 hW) (by decide) (ce7 (CK0 hW)) 3 (by decide) g1_124 rfl dX6_nextCrossing_58 (rf w 2) rfl ?_
        refine r_iload hX dX6_nextCrossing_61 4 rfl ?_
        obtain ⟨r1, hr3, hf⟩ := bd_s hf
        refine J.callz (fun H locs ls a b c => runV hX miX4_hasMoveIn (As := [.int x6]) (cX4_hasMoveIn_ok (xl X) hW  hr3) g2_173 g2_174 g2_175 cls4 (CK2 hW) (by decide) (ce5 (CK2 hW)) ⟨Nat.le_of_ble_eq_true rfl, Nat.le_of_ble_eq_true rfl⟩ dX6_nextCrossing_63 rfl (rest := []) rfl (Nat.le_of_ble_eq_true rfl) a b c) (fun hz2 => ?_)
        refine r_if_eq hX dX6_nextCrossing_66 (tgt := 73) (by decide) (fun h => ?_) (fun h => ?_)
        · have hf := ite_t h hf
          refine r_iconst hX dX6_nextCrossing_73 (v := (0 : Int32)) (by decide) ?_
          exact J.sub [0, 1, 2, 3, 4] rfl (wX6_nextCrossing_b74 hX hW ih h4 h5 hf)
        · have hf := ite_f h hf
          exact J.sub [0, 1, 2, 3, 4] rfl (wX6_nextCrossing_b69 hX hW ih h4 h5 hf)
set_option maxRecDepth 20000 in
set_option maxHeartbeats 2000000 in
theorem wX6_nextCrossing_b0 {X : Cx} {w : Wp} {σ : St} {r : Int32} {σ' : St}  {x1 : Int32} {x2 : Int32} {x3 : Int32} (hX : OK X w cX6_nextCrossing 8 RX6 (some .int) (rmz 5 124) (Qi w σ' r)) (hW : CW w)   (hf : fX6_nextCrossing σ x1 x2 x3 = some (r, σ')) : J X w 8 σ 0 [(0, rf w 0), (1, .int x1), (2, .int x2), (3, .int x3)] [] := by
  rw [fX6_nextCrossing] at hf
  refine r_aload_n hX dX6_nextCrossing_0 rfl 0 rfl ?_
  refine r_iload_n hX dX6_nextCrossing_1 rfl 1 rfl ?_
  obtain ⟨r1, hr3, hf⟩ := bd_s hf
  refine J.callq (fun H locs ls a b c => runV hX miX6_figureAt (As := [.int x1]) (cX6_figureAt_ok (xl X) hW  hr3) g1_203 g1_205 gs_0 cls6 (CK0 hW) (by decide) (ce7 (CK0 hW)) ⟨Nat.le_of_ble_eq_true rfl, Nat.le_of_ble_eq_true rfl⟩ dX6_nextCrossing_2 rfl (rest := []) rfl (Nat.le_of_ble_eq_true rfl) a b c) (fun ht2 => ?_)
  refine r_astoreQ hX (i := 4) dX6_nextCrossing_5 (by decide) rfl ?_
  refine r_aload_n hX dX6_nextCrossing_7 rfl 1 rfl ?_
  refine r_iload_n hX dX6_nextCrossing_8 rfl 3 rfl ?_
  obtain ⟨r4, hr6, hf⟩ := bd_s hf
  refine J.callq (fun H locs ls a b c => runV hX miX6_figureAt (As := [.int x2]) (cX6_figureAt_ok (xl X) hW  hr6) g1_203 g1_205 gs_0 cls6 (CK0 hW) (by decide) (ce7 (CK0 hW)) ⟨Nat.le_of_ble_eq_true rfl, Nat.le_of_ble_eq_true rfl⟩ dX6_nextCrossing_9 rfl (rest := []) rfl (Nat.le_of_ble_eq_true rfl) a b c) (fun ht5 => ?_)
  refine r_astoreQ hX (i := 5) dX6_nextCrossing_12 (by decide) (lv' := [(5, rv w r4), (4, rv w r1), (0, rf w 0), (1, .int x1), (2, .int x2), (3, .int x3)]) (by simp [rvcat, catI, catL, catR]) ?_
  refine r_aloadQ hX dX6_nextCrossing_14 1 rfl ?_
  refine r_ifnull hX dX6_nextCrossing_16 (tgt := 24) (by decide) (fun h => ?_) (fun u7 h => ?_)
  · subst h
    have hf := elim_n hf
    refine r_iconst hX dX6_nextCrossing_24 (v := (-1 : Int32)) (by decide) ?_
    cases hf
    exact r_iret hX dX6_nextCrossing_25
  · subst h
    have hf := elim_s hf
    refine r_aloadQ hX dX6_nextCrossing_19 0 rfl ?_
    refine r_ifnonnull hX dX6_nextCrossing_21 (tgt := 26) (by decide) (fun u8 h => ?_) (fun h => ?_)
    · subst h
      have hf := elim_s hf
      refine r_iload_n hX dX6_nextCrossing_26 rfl 3 rfl ?_
      refine r_iload_n hX dX6_nextCrossing_27 rfl 4 rfl ?_
      refine r_icmp_eq hX dX6_nextCrossing_28 (tgt := 38) (by decide) (fun h => ?_) (fun h => ?_)
      · have hf := ite_t h hf
        refine r_bipush hX dX6_nextCrossing_38 (v := (-3 : Int32)) (by decide) ?_
        cases hf
        exact r_iret hX dX6_nextCrossing_40
      · have hf := ite_f h hf
        refine r_iload_n hX dX6_nextCrossing_31 rfl 5 rfl ?_
        refine J.callz (fun H locs ls a b c => runS hX miX6_isBeat (cX6_isBeat_ok (xl X)  rfl) g1_228 g1_229 ⟨Nat.le_of_ble_eq_true rfl, Nat.le_of_ble_eq_true rfl⟩ dX6_nextCrossing_32 rfl (As := [.int x3]) (rest := []) rfl (Nat.le_of_ble_eq_true rfl) a b c) (fun hz9 => ?_)
        refine r_if_ne hX dX6_nextCrossing_35 (tgt := 41) (by decide) (fun h => ?_) (fun h => ?_)
        · have hf := ite_f h hf
          refine r_iload_n hX dX6_nextCrossing_41 rfl 5 rfl ?_
          refine r_istore hX (i := 6) dX6_nextCrossing_42 (by decide) rfl ?_
          exact J.sub [3, 6, 2, 1, 0] rfl (wX6_nextCrossing_L44 hX hW  _ _ _ _ _ _ (ht2 u7 rfl) (ht5 u8 rfl) hf)
        · have hf := ite_t h hf
          refine r_bipush hX dX6_nextCrossing_38 (v := (-3 : Int32)) (by decide) ?_
          cases hf
          exact r_iret hX dX6_nextCrossing_40
    · subst h
      have hf := elim_n hf
      refine r_iconst hX dX6_nextCrossing_24 (v := (-1 : Int32)) (by decide) ?_
      cases hf
      exact r_iret hX dX6_nextCrossing_25
theorem miX6_nextCrossing : MI yX6_nextCrossing cX6_nextCrossing 8 (some .int) 3 := ⟨g2_172, ⟨by decide, by decide, by decide +kernel⟩, g1_1, by decide +kernel⟩
theorem cX6_nextCrossing_ok (l : Launch) {w : Wp} {σ : St} {r : Int32} {σ' : St} {x1 : Int32} {x2 : Int32} {x3 : Int32} (hW : CW w)  (hf : fX6_nextCrossing σ x1 x2 x3 = some (r, σ')) : CM l w yX6_nextCrossing cX6_nextCrossing 8 (some .int) (rmz 5 124) [rf w 0, .int x1, .int x2, .int x3] σ (Qi w σ' r) := CM.of miX6_nextCrossing.2.2.2 (Nat.le_of_ble_eq_true rfl) (fun X hcl hX => J.sub [0, 1, 2, 3] rfl (wX6_nextCrossing_b0 hX hW  hf))
-- X6_within
set_option maxRecDepth 20000 in
set_option maxHeartbeats 2000000 in
theorem wX6_within_b110 {X : Cx} {w : Wp} {σ : St} {r : Int32} {σ' : St} {k49 : St → Int32 → Int32 → Int32 → Int32 → Int32 → Int32 → Option (Int32 × St)} {x1 : Int32} {x2 : Int32} {x3 : Int32} {x4 : Int32} {x6 : Int32} {x7 : Int32} (hX : OK X w cX6_within 9 RX6 (some .int) (rmz 3 75) (Qi w σ' r)) (hW : CW w) (hk49 : ∀ (σ : St) (x1 : Int32) (x2 : Int32) (x3 : Int32) (x4 : Int32) (x6 : Int32) (x7 : Int32), k49 σ x1 x2 x3 x4 x6 x7 = some (r, σ') → J X w 9 σ 49 [(0, rf w 0), (1, .int x1), (2, .int x2), (3, .int x3), (4, .int x4), (5, rf w 1), (6, .int x6), (7, .int x7)] [])  (hf : fX6_within_b110 k49 σ x1 x2 x3 x4 x6 x7 = some (r, σ')) : J X w 9 σ 110 [(0, rf w 0), (1, .int x1), (2, .int x2), (3, .int x3), (4, .int x4), (5, rf w 1), (6, .int x6), (7, .int x7)] [] := by
  rw [fX6_within_b110] at hf
  refine r_iincC hX dX6_within_110 7 rfl (d := (1 : Int32)) (by decide) (by decide) rfl ?_
  refine r_goto hX dX6_within_113 (tgt := 49) (by decide) ?_
  exact J.sub [1, 2, 3, 4, 5, 6, 7, 0] rfl (hk49 _ _ _ _ _ _ _  hf)
set_option maxRecDepth 20000 in
set_option maxHeartbeats 2000000 in
theorem wX6_within_L49 {X : Cx} {w : Wp} {r : Int32} {σ' : St}  (hX : OK X w cX6_within 9 RX6 (some .int) (rmz 3 75) (Qi w σ' r)) (hW : CW w)  : ∀ (n : Nat) (σ : St) (x1 : Int32) (x2 : Int32) (x3 : Int32) (x4 : Int32) (x6 : Int32) (x7 : Int32), fX6_within_L49 n σ x1 x2 x3 x4 x6 x7 = some (r, σ') → J X w 9 σ 49 [(0, rf w 0), (1, .int x1), (2, .int x2), (3, .int x3), (4, .int x4), (5, rf w 1), (6, .int x6), (7, .int x7)] [] := by
  intro n
  induction n with
  | zero =>
    intro σ x1 x2 x3 x4 x6 x7 hf
    cases hf
  | succ n ih =>
    intro σ x1 x2 x3 x4 x6 x7 hf
    rw [fX6_within_L49] at hf
    refine r_iload hX dX6_within_49 7 rfl ?_
    refine r_iload hX dX6_within_51 6 rfl ?_
    refine r_icmp_ge hX dX6_within_53 (tgt := 116) (by decide) (fun h => ?_) (fun h => ?_)
    · have hf := ite_t h hf
      refine r_iload hX dX6_within_116 4 rfl ?_
      cases hf
      exact r_iret hX dX6_within_118
    · have hf := ite_f h hf
      refine r_aload hX dX6_within_56 5 rfl ?_
      refine r_iload hX dX6_within_58 7 rfl ?_
      obtain ⟨hi6, hf⟩ := grd_some hf
      refine r_aldF hX (CK1 hW) (CL1 hW) hi6 dX6_within_60 (fun oo1 heoo1 htoo1 => ?_)
      have hf := app1_s heoo1 hf
      refine r_astoreQ hX (i := 8) dX6_within_61 (by decide) rfl ?_
      refine r_aloadQ hX dX6_within_63 0 rfl ?_
      refine r_ifnull hX dX6_within_65 (tgt := 110) (by decide) (fun h => ?_) (fun u2 h => ?_)
      · subst h
        have hf := elim_n hf
        exact J.sub [1, 2, 3, 4, 5, 6, 7, 8] rfl (wX6_within_b110 hX hW ih  hf)
      · subst h
        have hf := elim_s hf
        refine r_aload_n hX dX6_within_68 rfl 1 rfl ?_
        refine r_get hX cls6 (CK0 hW) (by decide) (ce7 (CK0 hW)) 5 (by decide) g1_126 rfl dX6_within_69 (rf w 7) rfl ?_
        refine r_aload hX dX6_within_72 0 rfl ?_
        refine r_aload_n hX dX6_within_74 rfl 1 rfl ?_
        refine r_get hX cls6 (CK0 hW) (by decide) (ce7 (CK0 hW)) 3 (by decide) g1_124 rfl dX6_within_75 (rf w 2) rfl ?_
        refine r_iload_n hX dX6_within_78 rfl 4 rfl ?_
        refine r_aload_n hX dX6_within_79 rfl 1 rfl ?_
        refine r_get hX cls6 (CK0 hW) (by decide) (ce7 (CK0 hW)) 0 (by decide) g1_121 rfl dX6_within_80 (.int (σ.1 0 0)) rfl ?_
        obtain ⟨σ3, hr4, hf⟩ := bd_s hf
        refine J.callq (fun H locs ls a b c => runV hX miX2_take (As := [rf w u2, rf w 2, .int x3, .int (σ.1 0 0)]) (cX2_take_ok (xl X) hW (CK7 hW) (htoo1 u2 rfl) hr4) g2_61 g2_62 g2_63 cls2 (CK7 hW) (by decide) (ce3 (CK7 hW)) ⟨Nat.le_of_ble_eq_true rfl, Nat.le_of_ble_eq_true rfl⟩ dX6_within_83 rfl (rest := []) rfl (Nat.le_of_ble_eq_true rfl) a b c) (fun _ => ?_)
        refine r_iload_n hX dX6_within_86 rfl 2 rfl ?_
        refine r_iload_n hX dX6_within_87 rfl 3 rfl ?_
        refine r_aload_n hX dX6_within_88 rfl 1 rfl ?_
        refine r_get hX cls6 (CK0 hW) (by decide) (ce7 (CK0 hW)) 0 (by decide) g1_121 rfl dX6_within_89 (.int (σ3.1 0 0)) rfl ?_
        refine J.callz (fun H locs ls a b c => runV hX miX2_isWithin (As := [.int x1, .int x2, .int (σ3.1 0 0)]) (cX2_isWithin_ok (xl X) hW (CK7 hW) rfl) g2_181 g2_182 g2_183 cls2 (CK7 hW) (by decide) (ce3 (CK7 hW)) ⟨Nat.le_of_ble_eq_true rfl, Nat.le_of_ble_eq_true rfl⟩ dX6_within_92 rfl (rest := []) rfl (Nat.le_of_ble_eq_true rfl) a b c) (fun hz5 => ?_)
        refine r_if_eq hX dX6_within_95 (tgt := 110) (by decide) (fun h => ?_) (fun h => ?_)
        · have hf := ite_t h hf
          exact J.sub [1, 2, 3, 4, 5, 6, 7, 8] rfl (wX6_within_b110 hX hW ih  hf)
        · have hf := ite_f h hf
          refine r_iload hX dX6_within_98 5 rfl ?_
          refine r_iconst hX dX6_within_100 (v := (1 : Int32)) (by decide) ?_
          refine r_aload hX dX6_within_101 0 rfl ?_
          refine r_get hX cls0 (htoo1 u2 rfl) (by decide) (ce1 (htoo1 u2 rfl)) 0 (by decide) g1_167 rfl dX6_within_103 (.int (σ3.1 u2 0)) rfl ?_
          refine r_ishl hX dX6_within_106 ?_
          refine r_ior hX dX6_within_107 ?_
          refine r_istore hX (i := 4) dX6_within_108 (by decide) rfl ?_
          exact J.sub [2, 3, 4, 5, 0, 6, 7, 8] rfl (wX6_within_b110 hX hW ih  hf)
set_option maxRecDepth 20000 in
set_option maxHeartbeats 2000000 in
theorem wX6_within_b0 {X : Cx} {w : Wp} {σ : St} {r : Int32} {σ' : St}  {x1 : Int32} {x2 : Int32} {x3 : Int32} (hX : OK X w cX6_within 9 RX6 (some .int) (rmz 3 75) (Qi w σ' r)) (hW : CW w)   (hf : fX6_within σ x1 x2 x3 = some (r, σ')) : J X w 9 σ 0 [(0, rf w 0), (1, .int x1), (2, .int x2), (3, .int x3)] [] := by
  rw [fX6_within] at hf
  refine r_iload_n hX dX6_within_0 rfl 1 rfl ?_
  refine r_iconst hX dX6_within_1 (v := (0 : Int32)) (by decide) ?_
  refine r_sipush hX dX6_within_2 (v := (20000 : Int32)) (by decide) ?_
  refine J.callz (fun H locs ls a b c => runS hX miX6_inRange (cX6_inRange_ok (xl X)  rfl) g1_153 g1_154 ⟨Nat.le_of_ble_eq_true rfl, Nat.le_of_ble_eq_true rfl⟩ dX6_within_5 rfl (As := [.int x1, .int (0 : Int32), .int (20000 : Int32)]) (rest := []) rfl (Nat.le_of_ble_eq_true rfl) a b c) (fun hz1 => ?_)
  refine r_if_eq hX dX6_within_8 (tgt := 29) (by decide) (fun h => ?_) (fun h => ?_)
  · have hf := ite_t h hf
    refine r_bipush hX dX6_within_29 (v := (-3 : Int32)) (by decide) ?_
    cases hf
    exact r_iret hX dX6_within_31
  · have hf := ite_f h hf
    refine r_iload_n hX dX6_within_11 rfl 2 rfl ?_
    refine r_iconst hX dX6_within_12 (v := (0 : Int32)) (by decide) ?_
    refine r_sipush hX dX6_within_13 (v := (20000 : Int32)) (by decide) ?_
    refine J.callz (fun H locs ls a b c => runS hX miX6_inRange (cX6_inRange_ok (xl X)  rfl) g1_153 g1_154 ⟨Nat.le_of_ble_eq_true rfl, Nat.le_of_ble_eq_true rfl⟩ dX6_within_16 rfl (As := [.int x2, .int (0 : Int32), .int (20000 : Int32)]) (rest := []) rfl (Nat.le_of_ble_eq_true rfl) a b c) (fun hz2 => ?_)
    refine r_if_eq hX dX6_within_19 (tgt := 29) (by decide) (fun h => ?_) (fun h => ?_)
    · have hf := ite_t h hf
      refine r_bipush hX dX6_within_29 (v := (-3 : Int32)) (by decide) ?_
      cases hf
      exact r_iret hX dX6_within_31
    · have hf := ite_f h hf
      refine r_iload_n hX dX6_within_22 rfl 3 rfl ?_
      refine J.callz (fun H locs ls a b c => runS hX miX6_isBeat (cX6_isBeat_ok (xl X)  rfl) g1_228 g1_229 ⟨Nat.le_of_ble_eq_true rfl, Nat.le_of_ble_eq_true rfl⟩ dX6_within_23 rfl (As := [.int x3]) (rest := []) rfl (Nat.le_of_ble_eq_true rfl) a b c) (fun hz3 => ?_)
      refine r_if_ne hX dX6_within_26 (tgt := 32) (by decide) (fun h => ?_) (fun h => ?_)
      · have hf := ite_f h hf
        refine r_iconst hX dX6_within_32 (v := (0 : Int32)) (by decide) ?_
        refine r_istore hX (i := 4) dX6_within_33 (by decide) rfl ?_
        refine r_aload_n hX dX6_within_35 rfl 1 rfl ?_
        refine r_get hX cls6 (CK0 hW) (by decide) (ce7 (CK0 hW)) 2 (by decide) g1_123 rfl dX6_within_36 (rf w 1) rfl ?_
        refine r_astore hX (i := 5) dX6_within_39 (by decide) rfl ?_
        refine r_aload hX dX6_within_41 0 rfl ?_
        refine r_alen hX (t0 := 2) (n := 6) (by rw [(CK1 hW)]; decide) (ce11 (CK1 hW)) rfl (CL1 hW) (v := (6 : Int32)) (by decide) dX6_within_43 ?_
        refine r_istore hX (i := 6) dX6_within_44 (by decide) rfl ?_
        refine r_iconst hX dX6_within_46 (v := (0 : Int32)) (by decide) ?_
        refine r_istore hX (i := 7) dX6_within_47 (by decide) rfl ?_
        exact J.sub [4, 5, 6, 7, 3, 2, 1, 0] rfl (wX6_within_L49 hX hW  _ _ _ _ _ _ _ _  hf)
      · have hf := ite_t h hf
        refine r_bipush hX dX6_within_29 (v := (-3 : Int32)) (by decide) ?_
        cases hf
        exact r_iret hX dX6_within_31
theorem miX6_within : MI yX6_within cX6_within 9 (some .int) 3 := ⟨g2_180, ⟨by decide, by decide, by decide +kernel⟩, g1_1, by decide +kernel⟩
theorem cX6_within_ok (l : Launch) {w : Wp} {σ : St} {r : Int32} {σ' : St} {x1 : Int32} {x2 : Int32} {x3 : Int32} (hW : CW w)  (hf : fX6_within σ x1 x2 x3 = some (r, σ')) : CM l w yX6_within cX6_within 9 (some .int) (rmz 3 75) [rf w 0, .int x1, .int x2, .int x3] σ (Qi w σ' r) := CM.of miX6_within.2.2.2 (Nat.le_of_ble_eq_true rfl) (fun X hcl hX => J.sub [0, 1, 2, 3] rfl (wX6_within_b0 hX hW  hf))
-- X6_isHigher
set_option maxRecDepth 20000 in
set_option maxHeartbeats 2000000 in
theorem wX6_isHigher_b0 {X : Cx} {w : Wp} {σ : St} {r : Int32} {σ' : St} {t1 : Nat} {t2 : Nat}  {x3 : Int32} (hX : OK X w cX6_isHigher 4 RX6 (some .boolean) (rmz 4 98) (Qz w σ' r)) (hW : CW w) (h1 : wK w t1 = 1) (h2 : wK w t2 = 1)   (hf : fX6_isHigher t1 t2 σ x3 = some (r, σ')) : J X w 4 σ 0 [(0, rf w 0), (1, rf w t1), (2, rf w t2), (3, .int x3)] [] := by
  rw [fX6_isHigher] at hf
  refine r_aload_n hX dX6_isHigher_0 rfl 0 rfl ?_
  refine r_aload_n hX dX6_isHigher_1 rfl 1 rfl ?_
  refine r_aload_n hX dX6_isHigher_2 rfl 2 rfl ?_
  refine r_iload_n hX dX6_isHigher_3 rfl 3 rfl ?_
  obtain ⟨σ1, hr2, hf⟩ := bd_s hf
  refine J.callv (fun H locs ls a b c => runV hX miX6_takePoses (As := [rf w t1, rf w t2, .int x3]) (cX6_takePoses_ok (xl X) hW h1 h2 hr2) g2_129 g2_131 gs_6 cls6 (CK0 hW) (by decide) (ce7 (CK0 hW)) ⟨Nat.le_of_ble_eq_true rfl, Nat.le_of_ble_eq_true rfl⟩ dX6_isHigher_4 rfl (rest := []) rfl (Nat.le_of_ble_eq_true rfl) a b c) ?_
  refine r_aload_n hX dX6_isHigher_7 rfl 0 rfl ?_
  refine r_get hX cls6 (CK0 hW) (by decide) (ce7 (CK0 hW)) 5 (by decide) g1_126 rfl dX6_isHigher_8 (rf w 7) rfl ?_
  refine J.calli (fun H locs ls a b c => runV hX miX2_height (As := []) (cX2_height_ok (xl X) hW (CK7 hW) rfl) g2_193 g2_110 g2_111 cls2 (CK7 hW) (by decide) (ce3 (CK7 hW)) ⟨Nat.le_of_ble_eq_true rfl, Nat.le_of_ble_eq_true rfl⟩ dX6_isHigher_11 rfl (rest := []) rfl (Nat.le_of_ble_eq_true rfl) a b c) ?_
  refine r_aload_n hX dX6_isHigher_14 rfl 0 rfl ?_
  refine r_get hX cls6 (CK0 hW) (by decide) (ce7 (CK0 hW)) 6 (by decide) g1_127 rfl dX6_isHigher_15 (rf w 12) rfl ?_
  refine r_get hX cls2 (CK12 hW) (by decide) (ce3 (CK12 hW)) 4 (by decide) g1_74 rfl dX6_isHigher_18 (.int (σ1.1 12 4)) rfl ?_
  refine r_imul hX dX6_isHigher_21 ?_
  refine r_aload_n hX dX6_isHigher_22 rfl 0 rfl ?_
  refine r_get hX cls6 (CK0 hW) (by decide) (ce7 (CK0 hW)) 6 (by decide) g1_127 rfl dX6_isHigher_23 (rf w 12) rfl ?_
  refine J.calli (fun H locs ls a b c => runV hX miX2_height (As := []) (cX2_height_ok (xl X) hW (CK12 hW) rfl) g2_193 g2_110 g2_111 cls2 (CK12 hW) (by decide) (ce3 (CK12 hW)) ⟨Nat.le_of_ble_eq_true rfl, Nat.le_of_ble_eq_true rfl⟩ dX6_isHigher_26 rfl (rest := [.int ((fX2_height (σ1) 7) * (σ1.1 12 4))]) rfl (Nat.le_of_ble_eq_true rfl) a b c) ?_
  refine r_aload_n hX dX6_isHigher_29 rfl 0 rfl ?_
  refine r_get hX cls6 (CK0 hW) (by decide) (ce7 (CK0 hW)) 5 (by decide) g1_126 rfl dX6_isHigher_30 (rf w 7) rfl ?_
  refine r_get hX cls2 (CK7 hW) (by decide) (ce3 (CK7 hW)) 4 (by decide) g1_74 rfl dX6_isHigher_33 (.int (σ1.1 7 4)) rfl ?_
  refine r_imul hX dX6_isHigher_36 ?_
  refine r_icmp_le hX dX6_isHigher_37 (tgt := 44) (by decide) (fun h => ?_) (fun h => ?_)
  · have hf := ite_t h hf
    refine r_iconst hX dX6_isHigher_44 (v := (0 : Int32)) (by decide) ?_
    cases hf
    exact r_zret hX bz0 dX6_isHigher_45
  · have hf := ite_f h hf
    refine r_iconst hX dX6_isHigher_40 (v := (1 : Int32)) (by decide) ?_
    refine r_goto hX dX6_isHigher_41 (tgt := 45) (by decide) ?_
    cases hf
    exact r_zret hX bz1 dX6_isHigher_45
theorem miX6_isHigher : MI yX6_isHigher cX6_isHigher 4 (some .boolean) 3 := ⟨g2_192, ⟨by decide, by decide, by decide +kernel⟩, g1_1, by decide +kernel⟩
theorem cX6_isHigher_ok (l : Launch) {w : Wp} {σ : St} {r : Int32} {σ' : St} {t1 : Nat} {t2 : Nat} {x3 : Int32} (hW : CW w) (h1 : wK w t1 = 1) (h2 : wK w t2 = 1)  (hf : fX6_isHigher t1 t2 σ x3 = some (r, σ')) : CM l w yX6_isHigher cX6_isHigher 4 (some .boolean) (rmz 4 98) [rf w 0, rf w t1, rf w t2, .int x3] σ (Qz w σ' r) := CM.of miX6_isHigher.2.2.2 (Nat.le_of_ble_eq_true rfl) (fun X hcl hX => J.sub [0, 1, 2, 3] rfl (wX6_isHigher_b0 hX hW h1 h2  hf))
-- X6_highest
set_option maxRecDepth 20000 in
set_option maxHeartbeats 2000000 in
theorem wX6_highest_b60 {X : Cx} {w : Wp} {σ : St} {r : Int32} {σ' : St} {k24 : St → Int32 → Option Nat → Int32 → Int32 → Option (Int32 × St)} {x1 : Int32} {o2 : Option Nat} {x4 : Int32} {x5 : Int32} (hX : OK X w cX6_highest 7 RX6 (some .int) (rmz 5 121) (Qi w σ' r)) (hW : CW w) (hk24 : ∀ (σ : St) (x1 : Int32) (o2 : Option Nat) (x4 : Int32) (x5 : Int32), ∀ (h2 : ∀ t, o2 = some t → wK w t = 1), k24 σ x1 o2 x4 x5 = some (r, σ') → J X w 7 σ 24 [(0, rf w 0), (1, .int x1), (2, rv w o2), (3, rf w 1), (4, .int x4), (5, .int x5)] []) (h2 : ∀ t, o2 = some t → wK w t = 1) (hf : fX6_highest_b60 k24 σ x1 o2 x4 x5 = some (r, σ')) : J X w 7 σ 60 [(0, rf w 0), (1, .int x1), (2, rv w o2), (3, rf w 1), (4, .int x4), (5, .int x5)] [] := by
  rw [fX6_highest_b60] at hf
  refine r_iincC hX dX6_highest_60 5 rfl (d := (1 : Int32)) (by decide) (by decide) rfl ?_
  refine r_goto hX dX6_highest_63 (tgt := 24) (by decide) ?_
  exact J.sub [1, 2, 3, 4, 5, 0] rfl (hk24 _ _ _ _ _ h2 hf)
set_option maxRecDepth 20000 in
set_option maxHeartbeats 2000000 in
theorem wX6_highest_b57 {X : Cx} {w : Wp} {σ : St} {r : Int32} {σ' : St} {k24 : St → Int32 → Option Nat → Int32 → Int32 → Option (Int32 × St)} {x1 : Int32} {x4 : Int32} {x5 : Int32} {t6 : Nat} (hX : OK X w cX6_highest 7 RX6 (some .int) (rmz 5 121) (Qi w σ' r)) (hW : CW w) (hk24 : ∀ (σ : St) (x1 : Int32) (o2 : Option Nat) (x4 : Int32) (x5 : Int32), ∀ (h2 : ∀ t, o2 = some t → wK w t = 1), k24 σ x1 o2 x4 x5 = some (r, σ') → J X w 7 σ 24 [(0, rf w 0), (1, .int x1), (2, rv w o2), (3, rf w 1), (4, .int x4), (5, .int x5)] []) (h6 : wK w t6 = 1) (hf : fX6_highest_b57 k24 σ x1 x4 x5 t6 = some (r, σ')) : J X w 7 σ 57 [(0, rf w 0), (1, .int x1), (3, rf w 1), (4, .int x4), (5, .int x5), (6, rf w t6)] [] := by
  rw [fX6_highest_b57] at hf
  refine r_aload hX dX6_highest_57 5 rfl ?_
  refine r_astore_n hX (i := 2) dX6_highest_59 rfl (by decide) rfl ?_
  exact J.sub [1, 2, 0, 3, 4, 5] rfl (wX6_highest_b60 hX hW hk24 (fun _ h => by cases h; exact h6) hf)
set_option maxRecDepth 20000 in
set_option maxHeartbeats 2000000 in
theorem wX6_highest_L24 {X : Cx} {w : Wp} {r : Int32} {σ' : St}  (hX : OK X w cX6_highest 7 RX6 (some .int) (rmz 5 121) (Qi w σ' r)) (hW : CW w)  : ∀ (n : Nat) (σ : St) (x1 : Int32) (o2 : Option Nat) (x4 : Int32) (x5 : Int32), ∀ (h2 : ∀ t, o2 = some t → wK w t = 1), fX6_highest_L24 n σ x1 o2 x4 x5 = some (r, σ') → J X w 7 σ 24 [(0, rf w 0), (1, .int x1), (2, rv w o2), (3, rf w 1), (4, .int x4), (5, .int x5)] [] := by
  intro n
  induction n with
  | zero =>
    intro σ x1 o2 x4 x5 h2 hf
    cases hf
  | succ n ih =>
    intro σ x1 o2 x4 x5 h2 hf
    rw [fX6_highest_L24] at hf
    refine r_iload hX dX6_highest_24 5 rfl ?_
    refine r_iload hX dX6_highest_26 4 rfl ?_
    refine r_icmp_ge hX dX6_highest_28 (tgt := 66) (by decide) (fun h => ?_) (fun h => ?_)
    · have hf := ite_t h hf
      refine r_aload_nQ hX dX6_highest_66 rfl 2 rfl ?_
      refine r_ifnonnull hX dX6_highest_67 (tgt := 75) (by decide) (fun u1 h => ?_) (fun h => ?_)
      · subst h
        have hf := elim_s hf
        refine r_aload_n hX dX6_highest_75 rfl 2 rfl ?_
        refine r_get hX cls0 (h2 u1 rfl) (by decide) (ce1 (h2 u1 rfl)) 0 (by decide) g1_167 rfl dX6_highest_76 (.int (σ.1 u1 0)) rfl ?_
        cases hf
        exact r_iret hX dX6_highest_79
      · subst h
        have hf := elim_n hf
        refine r_bipush hX dX6_highest_70 (v := (-5 : Int32)) (by decide) ?_
        refine r_goto hX dX6_highest_72 (tgt := 79) (by decide) ?_
        cases hf
        exact r_iret hX dX6_highest_79
    · have hf := ite_f h hf
      refine r_aload_n hX dX6_highest_31 rfl 3 rfl ?_
      refine r_iload hX dX6_highest_32 5 rfl ?_
      obtain ⟨hi9, hf⟩ := grd_some hf
      refine r_aldF hX (CK1 hW) (CL1 hW) hi9 dX6_highest_34 (fun oo2 heoo2 htoo2 => ?_)
      have hf := app1_s heoo2 hf
      refine r_astoreQ hX (i := 6) dX6_highest_35 (by decide) rfl ?_
      refine r_aloadQ hX dX6_highest_37 0 rfl ?_
      refine r_ifnull hX dX6_highest_39 (tgt := 60) (by decide) (fun h => ?_) (fun u3 h => ?_)
      · subst h
        have hf := elim_n hf
        exact J.sub [1, 2, 3, 4, 5, 6] rfl (wX6_highest_b60 hX hW ih h2 hf)
      · subst h
        have hf := elim_s hf
        refine r_aload_nQ hX dX6_highest_42 rfl 3 rfl ?_
        refine r_ifnull hX dX6_highest_43 (tgt := 57) (by decide) (fun h => ?_) (fun u4 h => ?_)
        · subst h
          have hf := elim_n hf
          exact J.sub [1, 2, 4, 5, 6, 0] rfl (wX6_highest_b57 hX hW ih (htoo2 u3 rfl) hf)
        · subst h
          have hf := elim_s hf
          refine r_aload_n hX dX6_highest_46 rfl 1 rfl ?_
          refine r_aload hX dX6_highest_47 0 rfl ?_
          refine r_aload_n hX dX6_highest_49 rfl 3 rfl ?_
          refine r_iload_n hX dX6_highest_50 rfl 2 rfl ?_
          obtain ⟨r5, σ7, hr8, hf⟩ := bd2_s hf
          refine J.callz (fun H locs ls a b c => runV hX miX6_isHigher (As := [rf w u3, rf w u4, .int x1]) (cX6_isHigher_ok (xl X) hW (htoo2 u3 rfl) (h2 u4 rfl) hr8) g2_189 g2_191 gs_10 cls6 (CK0 hW) (by decide) (ce7 (CK0 hW)) ⟨Nat.le_of_ble_eq_true rfl, Nat.le_of_ble_eq_true rfl⟩ dX6_highest_51 rfl (rest := []) rfl (Nat.le_of_ble_eq_true rfl) a b c) (fun hz6 => ?_)
          refine r_if_eq hX dX6_highest_54 (tgt := 60) (by decide) (fun h => ?_) (fun h => ?_)
          · have hf := ite_t h hf
            exact J.sub [1, 2, 3, 4, 5, 6] rfl (wX6_highest_b60 hX hW ih (fun _ h => by cases h; exact (h2 u4 rfl)) hf)
          · have hf := ite_f h hf
            exact J.sub [1, 2, 4, 5, 6, 0] rfl (wX6_highest_b57 hX hW ih (htoo2 u3 rfl) hf)
set_option maxRecDepth 20000 in
set_option maxHeartbeats 2000000 in
theorem wX6_highest_b0 {X : Cx} {w : Wp} {σ : St} {r : Int32} {σ' : St}  {x1 : Int32} (hX : OK X w cX6_highest 7 RX6 (some .int) (rmz 5 121) (Qi w σ' r)) (hW : CW w)   (hf : fX6_highest σ x1 = some (r, σ')) : J X w 7 σ 0 [(0, rf w 0), (1, .int x1)] [] := by
  rw [fX6_highest] at hf
  refine r_iload_n hX dX6_highest_0 rfl 1 rfl ?_
  refine J.callz (fun H locs ls a b c => runS hX miX6_isBeat (cX6_isBeat_ok (xl X)  rfl) g1_228 g1_229 ⟨Nat.le_of_ble_eq_true rfl, Nat.le_of_ble_eq_true rfl⟩ dX6_highest_1 rfl (As := [.int x1]) (rest := []) rfl (Nat.le_of_ble_eq_true rfl) a b c) (fun hz1 => ?_)
  refine r_if_ne hX dX6_highest_4 (tgt := 10) (by decide) (fun h => ?_) (fun h => ?_)
  · have hf := ite_f h hf
    refine r_null hX dX6_highest_10 ?_
    refine r_astore_nQ hX (i := 2) dX6_highest_11 rfl (by decide) rfl ?_
    refine r_aload_n hX dX6_highest_12 rfl 1 rfl ?_
    refine r_get hX cls6 (CK0 hW) (by decide) (ce7 (CK0 hW)) 2 (by decide) g1_123 rfl dX6_highest_13 (rf w 1) rfl ?_
    refine r_astore_n hX (i := 3) dX6_highest_16 rfl (by decide) (lv' := [(3, rf w 1), (2, rv w none), (0, rf w 0), (1, .int x1)]) (by simp [rvcat, catI, catL, catR]) ?_
    refine r_aload_n hX dX6_highest_17 rfl 0 rfl ?_
    refine r_alen hX (t0 := 2) (n := 6) (by rw [(CK1 hW)]; decide) (ce11 (CK1 hW)) rfl (CL1 hW) (v := (6 : Int32)) (by decide) dX6_highest_18 ?_
    refine r_istore hX (i := 4) dX6_highest_19 (by decide) rfl ?_
    refine r_iconst hX dX6_highest_21 (v := (0 : Int32)) (by decide) ?_
    refine r_istore hX (i := 5) dX6_highest_22 (by decide) rfl ?_
    exact J.sub [4, 5, 3, 2, 1, 0] rfl (wX6_highest_L24 hX hW  _ _ _ _ _ _ (fun _ h => by cases h) hf)
  · have hf := ite_t h hf
    refine r_bipush hX dX6_highest_7 (v := (-3 : Int32)) (by decide) ?_
    cases hf
    exact r_iret hX dX6_highest_9
theorem miX6_highest : MI yX6_highest cX6_highest 7 (some .int) 1 := ⟨g2_188, ⟨by decide, by decide, by decide +kernel⟩, g1_1, by decide +kernel⟩
theorem cX6_highest_ok (l : Launch) {w : Wp} {σ : St} {r : Int32} {σ' : St} {x1 : Int32} (hW : CW w)  (hf : fX6_highest σ x1 = some (r, σ')) : CM l w yX6_highest cX6_highest 7 (some .int) (rmz 5 121) [rf w 0, .int x1] σ (Qi w σ' r) := CM.of miX6_highest.2.2.2 (Nat.le_of_ble_eq_true rfl) (fun X hcl hX => J.sub [0, 1] rfl (wX6_highest_b0 hX hW  hf))
-- X6_planeFor
set_option maxRecDepth 20000 in
set_option maxHeartbeats 2000000 in
theorem wX6_planeFor_b0 {X : Cx} {w : Wp} {σ : St} {r : Int32} {σ' : St}  {x1 : Int32} {x2 : Int32} {x3 : Int32} (hX : OK X w cX6_planeFor 6 RX6 (some .int) (rmz 3 75) (Qi w σ' r)) (hW : CW w)   (hf : fX6_planeFor σ x1 x2 x3 = some (r, σ')) : J X w 6 σ 0 [(0, rf w 0), (1, .int x1), (2, .int x2), (3, .int x3)] [] := by
  rw [fX6_planeFor] at hf
  refine r_aload_n hX dX6_planeFor_0 rfl 0 rfl ?_
  refine r_iload_n hX dX6_planeFor_1 rfl 1 rfl ?_
  obtain ⟨r1, hr3, hf⟩ := bd_s hf
  refine J.callq (fun H locs ls a b c => runV hX miX6_figureAt (As := [.int x1]) (cX6_figureAt_ok (xl X) hW  hr3) g1_203 g1_205 gs_0 cls6 (CK0 hW) (by decide) (ce7 (CK0 hW)) ⟨Nat.le_of_ble_eq_true rfl, Nat.le_of_ble_eq_true rfl⟩ dX6_planeFor_2 rfl (rest := []) rfl (Nat.le_of_ble_eq_true rfl) a b c) (fun ht2 => ?_)
  refine r_astoreQ hX (i := 4) dX6_planeFor_5 (by decide) rfl ?_
  refine r_aloadQ hX dX6_planeFor_7 0 rfl ?_
  refine r_ifnonnull hX dX6_planeFor_9 (tgt := 14) (by decide) (fun u4 h => ?_) (fun h => ?_)
  · subst h
    have hf := elim_s hf
    refine r_iload_n hX dX6_planeFor_14 rfl 3 rfl ?_
    refine J.callz (fun H locs ls a b c => runS hX miX6_isBeat (cX6_isBeat_ok (xl X)  rfl) g1_228 g1_229 ⟨Nat.le_of_ble_eq_true rfl, Nat.le_of_ble_eq_true rfl⟩ dX6_planeFor_15 rfl (As := [.int x2]) (rest := []) rfl (Nat.le_of_ble_eq_true rfl) a b c) (fun hz5 => ?_)
    refine r_if_eq hX dX6_planeFor_18 (tgt := 31) (by decide) (fun h => ?_) (fun h => ?_)
    · have hf := ite_t h hf
      refine r_bipush hX dX6_planeFor_31 (v := (-3 : Int32)) (by decide) ?_
      cases hf
      exact r_iret hX dX6_planeFor_33
    · have hf := ite_f h hf
      refine r_iload_n hX dX6_planeFor_21 rfl 4 rfl ?_
      refine r_iconst hX dX6_planeFor_22 (v := (0 : Int32)) (by decide) ?_
      refine r_ldc hX (v := (100000 : Int32)) g2_198 dX6_planeFor_23 ?_
      refine J.callz (fun H locs ls a b c => runS hX miX6_inRange (cX6_inRange_ok (xl X)  rfl) g1_153 g1_154 ⟨Nat.le_of_ble_eq_true rfl, Nat.le_of_ble_eq_true rfl⟩ dX6_planeFor_25 rfl (As := [.int x3, .int (0 : Int32), .int (100000 : Int32)]) (rest := []) rfl (Nat.le_of_ble_eq_true rfl) a b c) (fun hz6 => ?_)
      refine r_if_ne hX dX6_planeFor_28 (tgt := 34) (by decide) (fun h => ?_) (fun h => ?_)
      · have hf := ite_f h hf
        refine r_iload_n hX dX6_planeFor_34 rfl 4 rfl ?_
        refine r_if_ne hX dX6_planeFor_35 (tgt := 43) (by decide) (fun h => ?_) (fun h => ?_)
        · have hf := ite_f h hf
          refine r_aload_n hX dX6_planeFor_43 rfl 1 rfl ?_
          refine r_get hX cls6 (CK0 hW) (by decide) (ce7 (CK0 hW)) 5 (by decide) g1_126 rfl dX6_planeFor_44 (rf w 7) rfl ?_
          refine r_aload hX dX6_planeFor_47 0 rfl ?_
          refine r_aload_n hX dX6_planeFor_49 rfl 1 rfl ?_
          refine r_get hX cls6 (CK0 hW) (by decide) (ce7 (CK0 hW)) 3 (by decide) g1_124 rfl dX6_planeFor_50 (rf w 2) rfl ?_
          refine r_iload_n hX dX6_planeFor_53 rfl 3 rfl ?_
          refine r_aload_n hX dX6_planeFor_54 rfl 1 rfl ?_
          refine r_get hX cls6 (CK0 hW) (by decide) (ce7 (CK0 hW)) 0 (by decide) g1_121 rfl dX6_planeFor_55 (.int (σ.1 0 0)) rfl ?_
          obtain ⟨σ7, hr8, hf⟩ := bd_s hf
          refine J.callq (fun H locs ls a b c => runV hX miX2_take (As := [rf w u4, rf w 2, .int x2, .int (σ.1 0 0)]) (cX2_take_ok (xl X) hW (CK7 hW) (ht2 u4 rfl) hr8) g2_61 g2_62 g2_63 cls2 (CK7 hW) (by decide) (ce3 (CK7 hW)) ⟨Nat.le_of_ble_eq_true rfl, Nat.le_of_ble_eq_true rfl⟩ dX6_planeFor_58 rfl (rest := []) rfl (Nat.le_of_ble_eq_true rfl) a b c) (fun _ => ?_)
          refine r_pop hX dX6_planeFor_61 rfl ?_
          refine r_aload_n hX dX6_planeFor_62 rfl 1 rfl ?_
          refine r_get hX cls6 (CK0 hW) (by decide) (ce7 (CK0 hW)) 5 (by decide) g1_126 rfl dX6_planeFor_63 (rf w 7) rfl ?_
          refine J.calli (fun H locs ls a b c => runV hX miX2_height (As := []) (cX2_height_ok (xl X) hW (CK7 hW) rfl) g2_193 g2_110 g2_111 cls2 (CK7 hW) (by decide) (ce3 (CK7 hW)) ⟨Nat.le_of_ble_eq_true rfl, Nat.le_of_ble_eq_true rfl⟩ dX6_planeFor_66 rfl (rest := []) rfl (Nat.le_of_ble_eq_true rfl) a b c) ?_
          refine r_aload_n hX dX6_planeFor_69 rfl 1 rfl ?_
          refine r_get hX cls6 (CK0 hW) (by decide) (ce7 (CK0 hW)) 0 (by decide) g1_121 rfl dX6_planeFor_70 (.int (σ7.1 0 0)) rfl ?_
          refine r_imul hX dX6_planeFor_73 ?_
          refine r_iload_n hX dX6_planeFor_74 rfl 4 rfl ?_
          obtain ⟨hd9, hf⟩ := dvI_some hf
          refine r_idiv hX dX6_planeFor_75 hd9 ?_
          refine r_aload_n hX dX6_planeFor_76 rfl 1 rfl ?_
          refine r_get hX cls6 (CK0 hW) (by decide) (ce7 (CK0 hW)) 0 (by decide) g1_121 rfl dX6_planeFor_77 (.int (σ7.1 0 0)) rfl ?_
          refine J.calli (fun H locs ls a b c => runS hX miJ9_min_7cf53 (cJ9_min_7cf53_ok (xl X)  rfl) g2_199 g2_70 ⟨Nat.le_of_ble_eq_true rfl, Nat.le_of_ble_eq_true rfl⟩ dX6_planeFor_80 rfl (As := [.int (((fX2_height (σ7) 7) * (σ7.1 0 0)) / x3), .int (σ7.1 0 0)]) (rest := []) rfl (Nat.le_of_ble_eq_true rfl) a b c) ?_
          refine r_istore hX (i := 5) dX6_planeFor_83 (by decide) rfl ?_
          refine r_iload hX dX6_planeFor_85 0 rfl ?_
          refine r_iconst hX dX6_planeFor_87 (v := (1 : Int32)) (by decide) ?_
          refine r_icmp_lt hX dX6_planeFor_88 (tgt := 96) (by decide) (fun h => ?_) (fun h => ?_)
          · have hf := ite_t h hf
            refine r_bipush hX dX6_planeFor_96 (v := (-5 : Int32)) (by decide) ?_
            cases hf
            exact r_iret hX dX6_planeFor_98
          · have hf := ite_f h hf
            refine r_iload hX dX6_planeFor_91 0 rfl ?_
            refine r_goto hX dX6_planeFor_93 (tgt := 98) (by decide) ?_
            cases hf
            exact r_iret hX dX6_planeFor_98
        · have hf := ite_t h hf
          refine r_aload_n hX dX6_planeFor_38 rfl 1 rfl ?_
          refine r_get hX cls6 (CK0 hW) (by decide) (ce7 (CK0 hW)) 0 (by decide) g1_121 rfl dX6_planeFor_39 (.int (σ.1 0 0)) rfl ?_
          cases hf
          exact r_iret hX dX6_planeFor_42
      · have hf := ite_t h hf
        refine r_bipush hX dX6_planeFor_31 (v := (-3 : Int32)) (by decide) ?_
        cases hf
        exact r_iret hX dX6_planeFor_33
  · subst h
    have hf := elim_n hf
    refine r_iconst hX dX6_planeFor_12 (v := (-1 : Int32)) (by decide) ?_
    cases hf
    exact r_iret hX dX6_planeFor_13
theorem miX6_planeFor : MI yX6_planeFor cX6_planeFor 6 (some .int) 3 := ⟨g2_197, ⟨by decide, by decide, by decide +kernel⟩, g1_1, by decide +kernel⟩
theorem cX6_planeFor_ok (l : Launch) {w : Wp} {σ : St} {r : Int32} {σ' : St} {x1 : Int32} {x2 : Int32} {x3 : Int32} (hW : CW w)  (hf : fX6_planeFor σ x1 x2 x3 = some (r, σ')) : CM l w yX6_planeFor cX6_planeFor 6 (some .int) (rmz 3 75) [rf w 0, .int x1, .int x2, .int x3] σ (Qi w σ' r) := CM.of miX6_planeFor.2.2.2 (Nat.le_of_ble_eq_true rfl) (fun X hcl hX => J.sub [0, 1, 2, 3] rfl (wX6_planeFor_b0 hX hW  hf))
-- X6_handsOfAll
set_option maxRecDepth 20000 in
set_option maxHeartbeats 2000000 in
theorem wX6_handsOfAll_b55 {X : Cx} {w : Wp} {σ : St} {r : Int32} {k14 : Int32 → Int32 → Int32 → Int32 → Option Int32} {x1 : Int32} {x4 : Int32} {x5 : Int32} {xs0 : Int32} {xs1 : Int32} (hX : OK X w cX6_handsOfAll 7 RX6 (some .int) (rmz 2 47) (Qi w σ r)) (hW : CW w) (hk14 : ∀ (x1 : Int32) (x2 : Int32) (x4 : Int32) (x5 : Int32), k14 x1 x2 x4 x5 = some r → J X w 7 σ 14 [(0, rf w 0), (1, .int x1), (2, .int x2), (3, rf w 1), (4, .int x4), (5, .int x5)] [])  (hf : fX6_handsOfAll_b55 σ k14 x1 x4 x5 xs0 xs1 = some r) : J X w 7 σ 55 [(0, rf w 0), (1, .int x1), (3, rf w 1), (4, .int x4), (5, .int x5)] [.int xs1, .int xs0] := by
  rw [fX6_handsOfAll_b55] at hf
  refine r_iadd hX dX6_handsOfAll_55 ?_
  refine r_istore_n hX (i := 2) dX6_handsOfAll_56 rfl (by decide) rfl ?_
  refine r_iincC hX dX6_handsOfAll_57 5 rfl (d := (1 : Int32)) (by decide) (by decide) rfl ?_
  refine r_goto hX dX6_handsOfAll_60 (tgt := 14) (by decide) ?_
  exact J.sub [2, 3, 1, 4, 5, 0] rfl (hk14 _ _ _ _  hf)
set_option maxRecDepth 20000 in
set_option maxHeartbeats 2000000 in
theorem wX6_handsOfAll_L14 {X : Cx} {w : Wp} {σ : St} {r : Int32}  (hX : OK X w cX6_handsOfAll 7 RX6 (some .int) (rmz 2 47) (Qi w σ r)) (hW : CW w)  : ∀ (n : Nat) (x1 : Int32) (x2 : Int32) (x4 : Int32) (x5 : Int32), fX6_handsOfAll_L14 σ n x1 x2 x4 x5 = some r → J X w 7 σ 14 [(0, rf w 0), (1, .int x1), (2, .int x2), (3, rf w 1), (4, .int x4), (5, .int x5)] [] := by
  intro n
  induction n with
  | zero =>
    intro x1 x2 x4 x5 hf
    cases hf
  | succ n ih =>
    intro x1 x2 x4 x5 hf
    rw [fX6_handsOfAll_L14] at hf
    refine r_iload hX dX6_handsOfAll_14 5 rfl ?_
    refine r_iload hX dX6_handsOfAll_16 4 rfl ?_
    refine r_icmp_ge hX dX6_handsOfAll_18 (tgt := 63) (by decide) (fun h => ?_) (fun h => ?_)
    · have hf := ite_t h hf
      refine r_iload_n hX dX6_handsOfAll_63 rfl 2 rfl ?_
      cases hf
      exact r_iret hX dX6_handsOfAll_64
    · have hf := ite_f h hf
      refine r_aload_n hX dX6_handsOfAll_21 rfl 3 rfl ?_
      refine r_iload hX dX6_handsOfAll_22 5 rfl ?_
      obtain ⟨hi7, hf⟩ := grd_some hf
      refine r_aldF hX (CK1 hW) (CL1 hW) hi7 dX6_handsOfAll_24 (fun oo1 heoo1 htoo1 => ?_)
      have hf := app1_s heoo1 hf
      refine r_astoreQ hX (i := 6) dX6_handsOfAll_25 (by decide) rfl ?_
      refine r_iload_n hX dX6_handsOfAll_27 rfl 3 rfl ?_
      refine r_aloadQ hX dX6_handsOfAll_28 0 rfl ?_
      refine r_ifnonnull hX dX6_handsOfAll_30 (tgt := 37) (by decide) (fun u2 h => ?_) (fun h => ?_)
      · subst h
        have hf := elim_s hf
        refine r_aload hX dX6_handsOfAll_37 0 rfl ?_
        refine r_aload_n hX dX6_handsOfAll_39 rfl 1 rfl ?_
        refine r_get hX cls6 (CK0 hW) (by decide) (ce7 (CK0 hW)) 3 (by decide) g1_124 rfl dX6_handsOfAll_40 (rf w 2) rfl ?_
        refine r_aload hX dX6_handsOfAll_43 0 rfl ?_
        refine r_get hX cls0 (htoo1 u2 rfl) (by decide) (ce1 (htoo1 u2 rfl)) 0 (by decide) g1_167 rfl dX6_handsOfAll_45 (.int (σ.1 u2 0)) rfl ?_
        refine r_iload_n hX dX6_handsOfAll_48 rfl 2 rfl ?_
        obtain ⟨r3, hr4, hf⟩ := bd_s hf
        refine J.calli (fun H locs ls a b c => runV hX miX4_rodsMoved (As := [.int (σ.1 u2 0), .int x1]) (cX4_rodsMoved_ok (xl X) hW  hr4) g2_208 g2_209 g2_210 cls4 (CK2 hW) (by decide) (ce5 (CK2 hW)) ⟨Nat.le_of_ble_eq_true rfl, Nat.le_of_ble_eq_true rfl⟩ dX6_handsOfAll_49 rfl (rest := [rf w u2, .int x2]) rfl (Nat.le_of_ble_eq_true rfl) a b c) ?_
        obtain ⟨r5, hr6, hf⟩ := bd_s hf
        refine J.calli (fun H locs ls a b c => runV hX miX0_handsFor (As := [.int r3]) (cX0_handsFor_ok (xl X) hW (htoo1 u2 rfl) hr6) g2_215 g2_216 g2_217 cls0 (htoo1 u2 rfl) (by decide) (ce1 (htoo1 u2 rfl)) ⟨Nat.le_of_ble_eq_true rfl, Nat.le_of_ble_eq_true rfl⟩ dX6_handsOfAll_52 rfl (rest := [.int x2]) rfl (Nat.le_of_ble_eq_true rfl) a b c) ?_
        exact J.sub [1, 2, 4, 5, 6] rfl (wX6_handsOfAll_b55 hX hW ih  hf)
      · subst h
        have hf := elim_n hf
        refine r_iconst hX dX6_handsOfAll_33 (v := (0 : Int32)) (by decide) ?_
        refine r_goto hX dX6_handsOfAll_34 (tgt := 55) (by decide) ?_
        exact J.sub [1, 2, 4, 5, 6] rfl (wX6_handsOfAll_b55 hX hW ih  hf)
set_option maxRecDepth 20000 in
set_option maxHeartbeats 2000000 in
theorem wX6_handsOfAll_b0 {X : Cx} {w : Wp} {σ : St} {r : Int32}  {x1 : Int32} (hX : OK X w cX6_handsOfAll 7 RX6 (some .int) (rmz 2 47) (Qi w σ r)) (hW : CW w)   (hf : fX6_handsOfAll σ x1 = some r) : J X w 7 σ 0 [(0, rf w 0), (1, .int x1)] [] := by
  rw [fX6_handsOfAll] at hf
  refine r_iconst hX dX6_handsOfAll_0 (v := (0 : Int32)) (by decide) ?_
  refine r_istore_n hX (i := 2) dX6_handsOfAll_1 rfl (by decide) rfl ?_
  refine r_aload_n hX dX6_handsOfAll_2 rfl 1 rfl ?_
  refine r_get hX cls6 (CK0 hW) (by decide) (ce7 (CK0 hW)) 2 (by decide) g1_123 rfl dX6_handsOfAll_3 (rf w 1) rfl ?_
  refine r_astore_n hX (i := 3) dX6_handsOfAll_6 rfl (by decide) rfl ?_
  refine r_aload_n hX dX6_handsOfAll_7 rfl 0 rfl ?_
  refine r_alen hX (t0 := 2) (n := 6) (by rw [(CK1 hW)]; decide) (ce11 (CK1 hW)) rfl (CL1 hW) (v := (6 : Int32)) (by decide) dX6_handsOfAll_8 ?_
  refine r_istore hX (i := 4) dX6_handsOfAll_9 (by decide) rfl ?_
  refine r_iconst hX dX6_handsOfAll_11 (v := (0 : Int32)) (by decide) ?_
  refine r_istore hX (i := 5) dX6_handsOfAll_12 (by decide) rfl ?_
  exact J.sub [4, 5, 3, 2, 1, 0] rfl (wX6_handsOfAll_L14 hX hW  _ _ _ _ _  hf)
theorem miX6_handsOfAll : MI yX6_handsOfAll cX6_handsOfAll 7 (some .int) 1 := ⟨g2_207, ⟨by decide, by decide, by decide +kernel⟩, g1_1, by decide +kernel⟩
theorem cX6_handsOfAll_ok (l : Launch) {w : Wp} {σ : St} {r : Int32} {x1 : Int32} (hW : CW w)  (hf : fX6_handsOfAll σ x1 = some r) : CM l w yX6_handsOfAll cX6_handsOfAll 7 (some .int) (rmz 2 47) [rf w 0, .int x1] σ (Qi w σ r) := CM.of miX6_handsOfAll.2.2.2 (Nat.le_of_ble_eq_true rfl) (fun X hcl hX => J.sub [0, 1] rfl (wX6_handsOfAll_b0 hX hW  hf))
-- X6_hands
set_option maxRecDepth 20000 in
set_option maxHeartbeats 2000000 in
theorem wX6_hands_b0 {X : Cx} {w : Wp} {σ : St} {r : Int32}  {x1 : Int32} (hX : OK X w cX6_hands 2 RX6 (some .int) (rmz 3 73) (Qi w σ r)) (hW : CW w)   (hf : fX6_hands σ x1 = some r) : J X w 2 σ 0 [(0, rf w 0), (1, .int x1)] [] := by
  rw [fX6_hands] at hf
  refine r_iload_n hX dX6_hands_0 rfl 1 rfl ?_
  refine J.callz (fun H locs ls a b c => runS hX miX6_isBeat (cX6_isBeat_ok (xl X)  rfl) g1_228 g1_229 ⟨Nat.le_of_ble_eq_true rfl, Nat.le_of_ble_eq_true rfl⟩ dX6_hands_1 rfl (As := [.int x1]) (rest := []) rfl (Nat.le_of_ble_eq_true rfl) a b c) (fun hz1 => ?_)
  refine r_if_eq hX dX6_hands_4 (tgt := 15) (by decide) (fun h => ?_) (fun h => ?_)
  · have hf := ite_t h hf
    refine r_bipush hX dX6_hands_15 (v := (-3 : Int32)) (by decide) ?_
    cases hf
    exact r_iret hX dX6_hands_17
  · have hf := ite_f h hf
    refine r_aload_n hX dX6_hands_7 rfl 0 rfl ?_
    refine r_iload_n hX dX6_hands_8 rfl 1 rfl ?_
    obtain ⟨r2, hr3, hf⟩ := bd_s hf
    refine J.calli (fun H locs ls a b c => runV hX miX6_handsOfAll (As := [.int x1]) (cX6_handsOfAll_ok (xl X) hW  hr3) g2_204 g2_206 gs_11 cls6 (CK0 hW) (by decide) (ce7 (CK0 hW)) ⟨Nat.le_of_ble_eq_true rfl, Nat.le_of_ble_eq_true rfl⟩ dX6_hands_9 rfl (rest := []) rfl (Nat.le_of_ble_eq_true rfl) a b c) ?_
    refine r_goto hX dX6_hands_12 (tgt := 17) (by decide) ?_
    cases hf
    exact r_iret hX dX6_hands_17
theorem miX6_hands : MI yX6_hands cX6_hands 2 (some .int) 1 := ⟨g2_203, ⟨by decide, by decide, by decide +kernel⟩, g1_1, by decide +kernel⟩
theorem cX6_hands_ok (l : Launch) {w : Wp} {σ : St} {r : Int32} {x1 : Int32} (hW : CW w)  (hf : fX6_hands σ x1 = some r) : CM l w yX6_hands cX6_hands 2 (some .int) (rmz 3 73) [rf w 0, .int x1] σ (Qi w σ r) := CM.of miX6_hands.2.2.2 (Nat.le_of_ble_eq_true rfl) (fun X hcl hX => J.sub [0, 1] rfl (wX6_hands_b0 hX hW  hf))
-- X6_busiestBeat
set_option maxRecDepth 20000 in
set_option maxHeartbeats 2000000 in
theorem wX6_busiestBeat_b46 {X : Cx} {w : Wp} {σ : St} {r : Int32} {k7 : Int32 → Int32 → Int32 → Option Int32} {x1 : Int32} {x2 : Int32} {x3 : Int32} (hX : OK X w cX6_busiestBeat 5 RX6 (some .int) (rmz 3 73) (Qi w σ r)) (hW : CW w) (hk7 : ∀ (x1 : Int32) (x2 : Int32) (x3 : Int32), k7 x1 x2 x3 = some r → J X w 5 σ 7 [(0, rf w 0), (1, .int x1), (2, .int x2), (3, .int x3)] [])  (hf : fX6_busiestBeat_b46 σ k7 x1 x2 x3 = some r) : J X w 5 σ 46 [(0, rf w 0), (1, .int x1), (2, .int x2), (3, .int x3)] [] := by
  rw [fX6_busiestBeat_b46] at hf
  refine r_iincC hX dX6_busiestBeat_46 3 rfl (d := (1 : Int32)) (by decide) (by decide) rfl ?_
  refine r_goto hX dX6_busiestBeat_49 (tgt := 7) (by decide) ?_
  exact J.sub [1, 2, 3, 0] rfl (hk7 _ _ _  hf)
set_option maxRecDepth 20000 in
set_option maxHeartbeats 2000000 in
theorem wX6_busiestBeat_b33 {X : Cx} {w : Wp} {σ : St} {r : Int32} {k7 : Int32 → Int32 → Int32 → Option Int32} {x1 : Int32} {x2 : Int32} {x3 : Int32} {xs0 : Int32} (hX : OK X w cX6_busiestBeat 5 RX6 (some .int) (rmz 3 73) (Qi w σ r)) (hW : CW w) (hk7 : ∀ (x1 : Int32) (x2 : Int32) (x3 : Int32), k7 x1 x2 x3 = some r → J X w 5 σ 7 [(0, rf w 0), (1, .int x1), (2, .int x2), (3, .int x3)] [])  (hf : fX6_busiestBeat_b33 σ k7 x1 x2 x3 xs0 = some r) : J X w 5 σ 33 [(0, rf w 0), (1, .int x1), (2, .int x2), (3, .int x3)] [.int xs0] := by
  rw [fX6_busiestBeat_b33] at hf
  refine r_istore hX (i := 4) dX6_busiestBeat_33 (by decide) rfl ?_
  refine r_iload hX dX6_busiestBeat_35 0 rfl ?_
  refine r_iload_n hX dX6_busiestBeat_37 rfl 3 rfl ?_
  refine r_icmp_le hX dX6_busiestBeat_38 (tgt := 46) (by decide) (fun h => ?_) (fun h => ?_)
  · have hf := ite_t h hf
    exact J.sub [1, 2, 3, 4] rfl (wX6_busiestBeat_b46 hX hW hk7  hf)
  · have hf := ite_f h hf
    refine r_iload_n hX dX6_busiestBeat_41 rfl 4 rfl ?_
    refine r_istore_n hX (i := 1) dX6_busiestBeat_42 rfl (by decide) rfl ?_
    refine r_iload hX dX6_busiestBeat_43 1 rfl ?_
    refine r_istore_n hX (i := 2) dX6_busiestBeat_45 rfl (by decide) rfl ?_
    exact J.sub [3, 1, 0, 4] rfl (wX6_busiestBeat_b46 hX hW hk7  hf)
set_option maxRecDepth 20000 in
set_option maxHeartbeats 2000000 in
theorem wX6_busiestBeat_L7 {X : Cx} {w : Wp} {σ : St} {r : Int32}  (hX : OK X w cX6_busiestBeat 5 RX6 (some .int) (rmz 3 73) (Qi w σ r)) (hW : CW w)  : ∀ (n : Nat) (x1 : Int32) (x2 : Int32) (x3 : Int32), fX6_busiestBeat_L7 σ n x1 x2 x3 = some r → J X w 5 σ 7 [(0, rf w 0), (1, .int x1), (2, .int x2), (3, .int x3)] [] := by
  intro n
  induction n with
  | zero =>
    intro x1 x2 x3 hf
    cases hf
  | succ n ih =>
    intro x1 x2 x3 hf
    rw [fX6_busiestBeat_L7] at hf
    refine r_iload_n hX dX6_busiestBeat_7 rfl 3 rfl ?_
    refine r_bipush hX dX6_busiestBeat_8 (v := (99 : Int32)) (by decide) ?_
    refine r_icmp_gt hX dX6_busiestBeat_10 (tgt := 52) (by decide) (fun h => ?_) (fun h => ?_)
    · have hf := ite_t h hf
      refine r_iload_n hX dX6_busiestBeat_52 rfl 1 rfl ?_
      cases hf
      exact r_iret hX dX6_busiestBeat_53
    · have hf := ite_f h hf
      refine r_aload_n hX dX6_busiestBeat_13 rfl 0 rfl ?_
      refine r_get hX cls6 (CK0 hW) (by decide) (ce7 (CK0 hW)) 3 (by decide) g1_124 rfl dX6_busiestBeat_14 (rf w 2) rfl ?_
      refine r_iload_n hX dX6_busiestBeat_17 rfl 3 rfl ?_
      obtain ⟨r1, hr3, hf⟩ := bd_s hf
      refine J.callz (fun H locs ls a b c => runV hX miX4_hasMoveIn (As := [.int x3]) (cX4_hasMoveIn_ok (xl X) hW  hr3) g2_173 g2_174 g2_175 cls4 (CK2 hW) (by decide) (ce5 (CK2 hW)) ⟨Nat.le_of_ble_eq_true rfl, Nat.le_of_ble_eq_true rfl⟩ dX6_busiestBeat_18 rfl (rest := []) rfl (Nat.le_of_ble_eq_true rfl) a b c) (fun hz2 => ?_)
      refine r_if_eq hX dX6_busiestBeat_21 (tgt := 32) (by decide) (fun h => ?_) (fun h => ?_)
      · have hf := ite_t h hf
        refine r_iconst hX dX6_busiestBeat_32 (v := (0 : Int32)) (by decide) ?_
        exact J.sub [0, 1, 2, 3] rfl (wX6_busiestBeat_b33 hX hW ih  hf)
      · have hf := ite_f h hf
        refine r_aload_n hX dX6_busiestBeat_24 rfl 0 rfl ?_
        refine r_iload_n hX dX6_busiestBeat_25 rfl 3 rfl ?_
        obtain ⟨r4, hr5, hf⟩ := bd_s hf
        refine J.calli (fun H locs ls a b c => runV hX miX6_handsOfAll (As := [.int x3]) (cX6_handsOfAll_ok (xl X) hW  hr5) g2_204 g2_206 gs_11 cls6 (CK0 hW) (by decide) (ce7 (CK0 hW)) ⟨Nat.le_of_ble_eq_true rfl, Nat.le_of_ble_eq_true rfl⟩ dX6_busiestBeat_26 rfl (rest := []) rfl (Nat.le_of_ble_eq_true rfl) a b c) ?_
        refine r_goto hX dX6_busiestBeat_29 (tgt := 33) (by decide) ?_
        exact J.sub [0, 1, 2, 3] rfl (wX6_busiestBeat_b33 hX hW ih  hf)
set_option maxRecDepth 20000 in
set_option maxHeartbeats 2000000 in
theorem wX6_busiestBeat_b0 {X : Cx} {w : Wp} {σ : St} {r : Int32}   (hX : OK X w cX6_busiestBeat 5 RX6 (some .int) (rmz 3 73) (Qi w σ r)) (hW : CW w)   (hf : fX6_busiestBeat σ = some r) : J X w 5 σ 0 [(0, rf w 0)] [] := by
  rw [fX6_busiestBeat] at hf
  refine r_bipush hX dX6_busiestBeat_0 (v := (-5 : Int32)) (by decide) ?_
  refine r_istore_n hX (i := 1) dX6_busiestBeat_2 rfl (by decide) rfl ?_
  refine r_iconst hX dX6_busiestBeat_3 (v := (0 : Int32)) (by decide) ?_
  refine r_istore_n hX (i := 2) dX6_busiestBeat_4 rfl (by decide) rfl ?_
  refine r_iconst hX dX6_busiestBeat_5 (v := (0 : Int32)) (by decide) ?_
  refine r_istore_n hX (i := 3) dX6_busiestBeat_6 rfl (by decide) rfl ?_
  exact J.sub [3, 2, 1, 0] rfl (wX6_busiestBeat_L7 hX hW  _ _ _ _  hf)
theorem miX6_busiestBeat : MI yX6_busiestBeat cX6_busiestBeat 5 (some .int) 0 := ⟨g2_229, ⟨by decide, by decide, by decide +kernel⟩, g1_1, by decide +kernel⟩
theorem cX6_busiestBeat_ok (l : Launch) {w : Wp} {σ : St} {r : Int32}  (hW : CW w)  (hf : fX6_busiestBeat σ = some r) : CM l w yX6_busiestBeat cX6_busiestBeat 5 (some .int) (rmz 3 73) [rf w 0] σ (Qi w σ r) := CM.of miX6_busiestBeat.2.2.2 (Nat.le_of_ble_eq_true rfl) (fun X hcl hX => J.sub [0] rfl (wX6_busiestBeat_b0 hX hW  hf))
-- X6_activeRods
set_option maxRecDepth 20000 in
set_option maxHeartbeats 2000000 in
theorem wX6_activeRods_b0 {X : Cx} {w : Wp} {σ : St} {r : Int32}  {x1 : Int32} {x2 : Int32} (hX : OK X w cX6_activeRods 3 RX6 (some .int) (rmz 2 47) (Qi w σ r)) (hW : CW w)   (hf : fX6_activeRods σ x1 x2 = some r) : J X w 3 σ 0 [(0, rf w 0), (1, .int x1), (2, .int x2)] [] := by
  rw [fX6_activeRods] at hf
  refine r_aload_n hX dX6_activeRods_0 rfl 0 rfl ?_
  refine r_iload_n hX dX6_activeRods_1 rfl 1 rfl ?_
  obtain ⟨r1, hr3, hf⟩ := bd_s hf
  refine J.callq (fun H locs ls a b c => runV hX miX6_figureAt (As := [.int x1]) (cX6_figureAt_ok (xl X) hW  hr3) g1_203 g1_205 gs_0 cls6 (CK0 hW) (by decide) (ce7 (CK0 hW)) ⟨Nat.le_of_ble_eq_true rfl, Nat.le_of_ble_eq_true rfl⟩ dX6_activeRods_2 rfl (rest := []) rfl (Nat.le_of_ble_eq_true rfl) a b c) (fun ht2 => ?_)
  refine r_ifnonnull hX dX6_activeRods_5 (tgt := 10) (by decide) (fun u4 h => ?_) (fun h => ?_)
  · subst h
    have hf := elim_s hf
    refine r_iload_n hX dX6_activeRods_10 rfl 2 rfl ?_
    refine J.callz (fun H locs ls a b c => runS hX miX6_isBeat (cX6_isBeat_ok (xl X)  rfl) g1_228 g1_229 ⟨Nat.le_of_ble_eq_true rfl, Nat.le_of_ble_eq_true rfl⟩ dX6_activeRods_11 rfl (As := [.int x2]) (rest := []) rfl (Nat.le_of_ble_eq_true rfl) a b c) (fun hz5 => ?_)
    refine r_if_eq hX dX6_activeRods_14 (tgt := 32) (by decide) (fun h => ?_) (fun h => ?_)
    · have hf := ite_t h hf
      refine r_bipush hX dX6_activeRods_32 (v := (-3 : Int32)) (by decide) ?_
      cases hf
      exact r_iret hX dX6_activeRods_34
    · have hf := ite_f h hf
      refine r_aload_n hX dX6_activeRods_17 rfl 0 rfl ?_
      refine r_get hX cls6 (CK0 hW) (by decide) (ce7 (CK0 hW)) 3 (by decide) g1_124 rfl dX6_activeRods_18 (rf w 2) rfl ?_
      refine r_iload_n hX dX6_activeRods_21 rfl 1 rfl ?_
      refine r_iload_n hX dX6_activeRods_22 rfl 2 rfl ?_
      obtain ⟨r6, hr7, hf⟩ := bd_s hf
      refine J.calli (fun H locs ls a b c => runV hX miX4_rodsMoved (As := [.int x1, .int x2]) (cX4_rodsMoved_ok (xl X) hW  hr7) g2_208 g2_209 g2_210 cls4 (CK2 hW) (by decide) (ce5 (CK2 hW)) ⟨Nat.le_of_ble_eq_true rfl, Nat.le_of_ble_eq_true rfl⟩ dX6_activeRods_23 rfl (rest := []) rfl (Nat.le_of_ble_eq_true rfl) a b c) ?_
      refine J.calli (fun H locs ls a b c => runS hX miJ6_bitCount_0f7a4 (cJ6_bitCount_0f7a4_ok (xl X)  rfl) g2_234 g2_220 ⟨Nat.le_of_ble_eq_true rfl, Nat.le_of_ble_eq_true rfl⟩ dX6_activeRods_26 rfl (As := [.int r6]) (rest := []) rfl (Nat.le_of_ble_eq_true rfl) a b c) ?_
      refine r_goto hX dX6_activeRods_29 (tgt := 34) (by decide) ?_
      cases hf
      exact r_iret hX dX6_activeRods_34
  · subst h
    have hf := elim_n hf
    refine r_iconst hX dX6_activeRods_8 (v := (-1 : Int32)) (by decide) ?_
    cases hf
    exact r_iret hX dX6_activeRods_9
theorem miX6_activeRods : MI yX6_activeRods cX6_activeRods 3 (some .int) 2 := ⟨g2_233, ⟨by decide, by decide, by decide +kernel⟩, g1_1, by decide +kernel⟩
theorem cX6_activeRods_ok (l : Launch) {w : Wp} {σ : St} {r : Int32} {x1 : Int32} {x2 : Int32} (hW : CW w)  (hf : fX6_activeRods σ x1 x2 = some r) : CM l w yX6_activeRods cX6_activeRods 3 (some .int) (rmz 2 47) [rf w 0, .int x1, .int x2] σ (Qi w σ r) := CM.of miX6_activeRods.2.2.2 (Nat.le_of_ble_eq_true rfl) (fun X hcl hX => J.sub [0, 1, 2] rfl (wX6_activeRods_b0 hX hW  hf))
-- X6_addScene
set_option maxRecDepth 20000 in
set_option maxHeartbeats 2000000 in
theorem wX6_addScene_b0 {X : Cx} {w : Wp} {σ : St} {r : Int32} {σ' : St}  {x1 : Int32} (hX : OK X w cX6_addScene 2 RX6 (some .int) (rmz 5 116) (Qi w σ' r)) (hW : CW w)   (hf : fX6_addScene σ x1 = some (r, σ')) : J X w 2 σ 0 [(0, rf w 0), (1, .int x1)] [] := by
  rw [fX6_addScene] at hf
  refine r_iload_n hX dX6_addScene_0 rfl 1 rfl ?_
  refine r_iconst hX dX6_addScene_1 (v := (0 : Int32)) (by decide) ?_
  refine r_bipush hX dX6_addScene_2 (v := (63 : Int32)) (by decide) ?_
  refine J.callz (fun H locs ls a b c => runS hX miX6_inRange (cX6_inRange_ok (xl X)  rfl) g1_153 g1_154 ⟨Nat.le_of_ble_eq_true rfl, Nat.le_of_ble_eq_true rfl⟩ dX6_addScene_4 rfl (As := [.int x1, .int (0 : Int32), .int (63 : Int32)]) (rest := []) rfl (Nat.le_of_ble_eq_true rfl) a b c) (fun hz1 => ?_)
  refine r_if_ne hX dX6_addScene_7 (tgt := 13) (by decide) (fun h => ?_) (fun h => ?_)
  · have hf := ite_f h hf
    refine r_aload_n hX dX6_addScene_13 rfl 0 rfl ?_
    refine r_get hX cls6 (CK0 hW) (by decide) (ce7 (CK0 hW)) 4 (by decide) g1_125 rfl dX6_addScene_14 (rf w 4) rfl ?_
    refine r_iload_n hX dX6_addScene_17 rfl 1 rfl ?_
    obtain ⟨r2, σ3, hr4, hf⟩ := bd2_s hf
    refine J.calli (fun H locs ls a b c => runV hX miX3_append (As := [.int x1]) (cX3_append_ok (xl X) hW  hr4) g2_239 g3_0 g3_1 cls3 (CK4 hW) (by decide) (ce4 (CK4 hW)) ⟨Nat.le_of_ble_eq_true rfl, Nat.le_of_ble_eq_true rfl⟩ dX6_addScene_18 rfl (rest := []) rfl (Nat.le_of_ble_eq_true rfl) a b c) ?_
    cases hf
    exact r_iret hX dX6_addScene_21
  · have hf := ite_t h hf
    refine r_bipush hX dX6_addScene_10 (v := (-3 : Int32)) (by decide) ?_
    cases hf
    exact r_iret hX dX6_addScene_12
theorem miX6_addScene : MI yX6_addScene cX6_addScene 2 (some .int) 1 := ⟨g2_238, ⟨by decide, by decide, by decide +kernel⟩, g1_1, by decide +kernel⟩
theorem cX6_addScene_ok (l : Launch) {w : Wp} {σ : St} {r : Int32} {σ' : St} {x1 : Int32} (hW : CW w)  (hf : fX6_addScene σ x1 = some (r, σ')) : CM l w yX6_addScene cX6_addScene 2 (some .int) (rmz 5 116) [rf w 0, .int x1] σ (Qi w σ' r) := CM.of miX6_addScene.2.2.2 (Nat.le_of_ble_eq_true rfl) (fun X hcl hX => J.sub [0, 1] rfl (wX6_addScene_b0 hX hW  hf))
-- X6_clearScenes
set_option maxRecDepth 20000 in
set_option maxHeartbeats 2000000 in
theorem wX6_clearScenes_b0 {X : Cx} {w : Wp} {σ : St} {r : Int32} {σ' : St}   (hX : OK X w cX6_clearScenes 2 RX6 (some .int) (rmz 1 20) (Qi w σ' r)) (hW : CW w)   (hf : fX6_clearScenes σ = some (r, σ')) : J X w 2 σ 0 [(0, rf w 0)] [] := by
  rw [fX6_clearScenes] at hf
  refine r_aload_n hX dX6_clearScenes_0 rfl 0 rfl ?_
  refine r_get hX cls6 (CK0 hW) (by decide) (ce7 (CK0 hW)) 4 (by decide) g1_125 rfl dX6_clearScenes_1 (rf w 4) rfl ?_
  refine r_get hX cls3 (CK4 hW) (by decide) (ce4 (CK4 hW)) 1 (by decide) g1_48 rfl dX6_clearScenes_4 (.int (σ.1 4 1)) rfl ?_
  refine r_istore_n hX (i := 1) dX6_clearScenes_7 rfl (by decide) rfl ?_
  refine r_aload_n hX dX6_clearScenes_8 rfl 1 rfl ?_
  refine r_get hX cls6 (CK0 hW) (by decide) (ce7 (CK0 hW)) 4 (by decide) g1_125 rfl dX6_clearScenes_9 (rf w 4) rfl ?_
  obtain ⟨σ1, hr2, hf⟩ := bd_s hf
  refine J.callv (fun H locs ls a b c => runV hX miX3_clear (As := []) (cX3_clear_ok (xl X) hW  hr2) g3_35 g3_36 g3_37 cls3 (CK4 hW) (by decide) (ce4 (CK4 hW)) ⟨Nat.le_of_ble_eq_true rfl, Nat.le_of_ble_eq_true rfl⟩ dX6_clearScenes_12 rfl (rest := []) rfl (Nat.le_of_ble_eq_true rfl) a b c) ?_
  refine r_iload_n hX dX6_clearScenes_15 rfl 0 rfl ?_
  cases hf
  exact r_iret hX dX6_clearScenes_16
theorem miX6_clearScenes : MI yX6_clearScenes cX6_clearScenes 2 (some .int) 0 := ⟨g3_34, ⟨by decide, by decide, by decide +kernel⟩, g1_1, by decide +kernel⟩
theorem cX6_clearScenes_ok (l : Launch) {w : Wp} {σ : St} {r : Int32} {σ' : St}  (hW : CW w)  (hf : fX6_clearScenes σ = some (r, σ')) : CM l w yX6_clearScenes cX6_clearScenes 2 (some .int) (rmz 1 20) [rf w 0] σ (Qi w σ' r) := CM.of miX6_clearScenes.2.2.2 (Nat.le_of_ble_eq_true rfl) (fun X hcl hX => J.sub [0] rfl (wX6_clearScenes_b0 hX hW  hf))
-- X6_bestScene
set_option maxRecDepth 20000 in
set_option maxHeartbeats 2000000 in
theorem wX6_bestScene_b0 {X : Cx} {w : Wp} {σ : St} {r : Int32}  {x1 : Int32} (hX : OK X w cX6_bestScene 2 RX6 (some .int) (rmz 4 95) (Qi w σ r)) (hW : CW w)   (hf : fX6_bestScene σ x1 = some r) : J X w 2 σ 0 [(0, rf w 0), (1, .int x1)] [] := by
  rw [fX6_bestScene] at hf
  refine r_iload_n hX dX6_bestScene_0 rfl 1 rfl ?_
  refine r_if_ge hX dX6_bestScene_1 (tgt := 7) (by decide) (fun h => ?_) (fun h => ?_)
  · have hf := ite_t h hf
    refine r_iload_n hX dX6_bestScene_7 rfl 1 rfl ?_
    refine r_aload_n hX dX6_bestScene_8 rfl 0 rfl ?_
    refine r_get hX cls6 (CK0 hW) (by decide) (ce7 (CK0 hW)) 4 (by decide) g1_125 rfl dX6_bestScene_9 (rf w 4) rfl ?_
    refine r_get hX cls3 (CK4 hW) (by decide) (ce4 (CK4 hW)) 1 (by decide) g1_48 rfl dX6_bestScene_12 (.int (σ.1 4 1)) rfl ?_
    refine r_icmp_ge hX dX6_bestScene_15 (tgt := 29) (by decide) (fun h => ?_) (fun h => ?_)
    · have hf := ite_t h hf
      refine r_bipush hX dX6_bestScene_29 (v := (-5 : Int32)) (by decide) ?_
      cases hf
      exact r_iret hX dX6_bestScene_31
    · have hf := ite_f h hf
      refine r_aload_n hX dX6_bestScene_18 rfl 0 rfl ?_
      refine r_get hX cls6 (CK0 hW) (by decide) (ce7 (CK0 hW)) 4 (by decide) g1_125 rfl dX6_bestScene_19 (rf w 4) rfl ?_
      refine r_iload_n hX dX6_bestScene_22 rfl 1 rfl ?_
      obtain ⟨r1, hr2, hf⟩ := bd_s hf
      refine J.calli (fun H locs ls a b c => runV hX miX3_sceneAt (As := [.int x1]) (cX3_sceneAt_ok (xl X) hW  hr2) g3_43 g3_44 g3_45 cls3 (CK4 hW) (by decide) (ce4 (CK4 hW)) ⟨Nat.le_of_ble_eq_true rfl, Nat.le_of_ble_eq_true rfl⟩ dX6_bestScene_23 rfl (rest := []) rfl (Nat.le_of_ble_eq_true rfl) a b c) ?_
      refine r_goto hX dX6_bestScene_26 (tgt := 31) (by decide) ?_
      cases hf
      exact r_iret hX dX6_bestScene_31
  · have hf := ite_f h hf
    refine r_bipush hX dX6_bestScene_4 (v := (-3 : Int32)) (by decide) ?_
    cases hf
    exact r_iret hX dX6_bestScene_6
theorem miX6_bestScene : MI yX6_bestScene cX6_bestScene 2 (some .int) 1 := ⟨g3_42, ⟨by decide, by decide, by decide +kernel⟩, g1_1, by decide +kernel⟩
theorem cX6_bestScene_ok (l : Launch) {w : Wp} {σ : St} {r : Int32} {x1 : Int32} (hW : CW w)  (hf : fX6_bestScene σ x1 = some r) : CM l w yX6_bestScene cX6_bestScene 2 (some .int) (rmz 4 95) [rf w 0, .int x1] σ (Qi w σ r) := CM.of miX6_bestScene.2.2.2 (Nat.le_of_ble_eq_true rfl) (fun X hcl hX => J.sub [0, 1] rfl (wX6_bestScene_b0 hX hW  hf))
-- X6_bestCost
set_option maxRecDepth 20000 in
set_option maxHeartbeats 2000000 in
theorem wX6_bestCost_b0 {X : Cx} {w : Wp} {σ : St} {r : Int32}   (hX : OK X w cX6_bestCost 1 RX6 (some .int) (rmz 2 42) (Qi w σ r)) (hW : CW w)   (hf : fX6_bestCost σ = some r) : J X w 1 σ 0 [(0, rf w 0)] [] := by
  rw [fX6_bestCost] at hf
  refine r_aload_n hX dX6_bestCost_0 rfl 0 rfl ?_
  refine r_get hX cls6 (CK0 hW) (by decide) (ce7 (CK0 hW)) 4 (by decide) g1_125 rfl dX6_bestCost_1 (rf w 4) rfl ?_
  obtain ⟨r1, hr2, hf⟩ := bd_s hf
  refine J.calli (fun H locs ls a b c => runV hX miX3_leastCost (As := []) (cX3_leastCost_ok (xl X) hW  hr2) g3_51 g3_52 g3_53 cls3 (CK4 hW) (by decide) (ce4 (CK4 hW)) ⟨Nat.le_of_ble_eq_true rfl, Nat.le_of_ble_eq_true rfl⟩ dX6_bestCost_4 rfl (rest := []) rfl (Nat.le_of_ble_eq_true rfl) a b c) ?_
  cases hf
  exact r_iret hX dX6_bestCost_7
theorem miX6_bestCost : MI yX6_bestCost cX6_bestCost 1 (some .int) 0 := ⟨g3_50, ⟨by decide, by decide, by decide +kernel⟩, g1_1, by decide +kernel⟩
theorem cX6_bestCost_ok (l : Launch) {w : Wp} {σ : St} {r : Int32}  (hW : CW w)  (hf : fX6_bestCost σ = some r) : CM l w yX6_bestCost cX6_bestCost 1 (some .int) (rmz 2 42) [rf w 0] σ (Qi w σ r) := CM.of miX6_bestCost.2.2.2 (Nat.le_of_ble_eq_true rfl) (fun X hcl hX => J.sub [0] rfl (wX6_bestCost_b0 hX hW  hf))
-- X7_in
set_option maxRecDepth 20000 in
set_option maxHeartbeats 2000000 in
theorem wX7_in_b0 {X : Cx} {w : Wp} {σ : St} {r : Int32}  {x0 : Int32} {x1 : Int32} {x2 : Int32} (hX : OK X w cX7_in 3 RX7 (some .boolean) (rmz 0 0) (Qz w σ r))    (hf : fX7_in x0 x1 x2 = r) : J X w 3 σ 0 [(0, .int x0), (1, .int x1), (2, .int x2)] [] := by
  rw [fX7_in] at hf
  refine r_iload_n hX dX7_in_0 rfl 0 rfl ?_
  refine r_iload_n hX dX7_in_1 rfl 1 rfl ?_
  refine r_icmp_lt hX dX7_in_2 (tgt := 14) (by decide) (fun h => ?_) (fun h => ?_)
  · have hf := ite_t h hf
    refine r_iconst hX dX7_in_14 (v := (0 : Int32)) (by decide) ?_
    subst hf
    exact r_zret hX bz0 dX7_in_15
  · have hf := ite_f h hf
    refine r_iload_n hX dX7_in_5 rfl 0 rfl ?_
    refine r_iload_n hX dX7_in_6 rfl 2 rfl ?_
    refine r_icmp_gt hX dX7_in_7 (tgt := 14) (by decide) (fun h => ?_) (fun h => ?_)
    · have hf := ite_t h hf
      refine r_iconst hX dX7_in_14 (v := (0 : Int32)) (by decide) ?_
      subst hf
      exact r_zret hX bz0 dX7_in_15
    · have hf := ite_f h hf
      refine r_iconst hX dX7_in_10 (v := (1 : Int32)) (by decide) ?_
      refine r_goto hX dX7_in_11 (tgt := 15) (by decide) ?_
      subst hf
      exact r_zret hX bz1 dX7_in_15
theorem miX7_in : MI yX7_in cX7_in 3 (some .boolean) 3 := ⟨g3_150, ⟨by decide, by decide, by decide +kernel⟩, g1_6, by decide +kernel⟩
theorem cX7_in_ok (l : Launch) {w : Wp} {σ : St} {r : Int32} {x0 : Int32} {x1 : Int32} {x2 : Int32}   (hf : fX7_in x0 x1 x2 = r) : CM l w yX7_in cX7_in 3 (some .boolean) (rmz 0 0) [.int x0, .int x1, .int x2] σ (Qz w σ r) := CM.of miX7_in.2.2.2 (Nat.le_of_ble_eq_true rfl) (fun X hcl hX => J.sub [0, 1, 2] rfl (wX7_in_b0 hX   hf))
-- X7_lost
set_option maxRecDepth 20000 in
set_option maxHeartbeats 2000000 in
theorem wX7_lost_b0 {X : Cx} {w : Wp} {σ : St} {r : Int64}   (hX : OK X w cX7_lost 0 RX7 (some .long) (rmz 0 0) (Ql w σ r))    (hf : fX7_lost = r) : J X w 0 σ 0 [] [] := by
  rw [fX7_lost] at hf
  refine r_ldc2 hX (v := (-9223372036854775808 : Int64)) g3_197 dX7_lost_0 ?_
  subst hf
  exact r_lret hX dX7_lost_3
theorem miX7_lost : MI yX7_lost cX7_lost 0 (some .long) 0 := ⟨g3_196, ⟨by decide, by decide, by decide +kernel⟩, g1_6, by decide +kernel⟩
theorem cX7_lost_ok (l : Launch) {w : Wp} {σ : St} {r : Int64}    (hf : fX7_lost = r) : CM l w yX7_lost cX7_lost 0 (some .long) (rmz 0 0) [] σ (Ql w σ r) := CM.of miX7_lost.2.2.2 (Nat.le_of_ble_eq_true rfl) (fun X hcl hX => J.sub [] rfl (wX7_lost_b0 hX   hf))
-- X7_least
set_option maxRecDepth 20000 in
set_option maxHeartbeats 2000000 in
theorem wX7_least_b0 {X : Cx} {w : Wp} {σ : St} {r : Int64}  {x0 : Int64} {x2 : Int64} (hX : OK X w cX7_least 4 RX7 (some .long) (rmz 0 0) (Ql w σ r))    (hf : fX7_least x0 x2 = r) : J X w 4 σ 0 [(0, .long x0), (2, .long x2)] [] := by
  rw [fX7_least] at hf
  refine r_lload_n hX dX7_least_0 rfl 0 rfl ?_
  refine r_lload_n hX dX7_least_1 rfl 1 rfl ?_
  refine r_lcmp_ge hX dX7_least_2 dX7_least_3 (tgt := 10) (by decide) (fun h => ?_) (fun h => ?_)
  · have hf := ite_t h hf
    refine r_lload_n hX dX7_least_10 rfl 1 rfl ?_
    subst hf
    exact r_lret hX dX7_least_11
  · have hf := ite_f h hf
    refine r_lload_n hX dX7_least_6 rfl 0 rfl ?_
    refine r_goto hX dX7_least_7 (tgt := 11) (by decide) ?_
    subst hf
    exact r_lret hX dX7_least_11
theorem miX7_least : MI yX7_least cX7_least 4 (some .long) 2 := ⟨g4_11, ⟨by decide, by decide, by decide +kernel⟩, g1_6, by decide +kernel⟩
theorem cX7_least_ok (l : Launch) {w : Wp} {σ : St} {r : Int64} {x0 : Int64} {x2 : Int64}   (hf : fX7_least x0 x2 = r) : CM l w yX7_least cX7_least 4 (some .long) (rmz 0 0) [.long x0, .long x2] σ (Ql w σ r) := CM.of miX7_least.2.2.2 (Nat.le_of_ble_eq_true rfl) (fun X hcl hX => J.sub [0, 1] rfl (wX7_least_b0 hX   hf))
-- X7_most
set_option maxRecDepth 20000 in
set_option maxHeartbeats 2000000 in
theorem wX7_most_b0 {X : Cx} {w : Wp} {σ : St} {r : Int64}  {x0 : Int64} {x2 : Int64} (hX : OK X w cX7_most 4 RX7 (some .long) (rmz 0 0) (Ql w σ r))    (hf : fX7_most x0 x2 = r) : J X w 4 σ 0 [(0, .long x0), (2, .long x2)] [] := by
  rw [fX7_most] at hf
  refine r_lload_n hX dX7_most_0 rfl 0 rfl ?_
  refine r_lload_n hX dX7_most_1 rfl 1 rfl ?_
  refine r_lcmp_le hX dX7_most_2 dX7_most_3 (tgt := 10) (by decide) (fun h => ?_) (fun h => ?_)
  · have hf := ite_t h hf
    refine r_lload_n hX dX7_most_10 rfl 1 rfl ?_
    subst hf
    exact r_lret hX dX7_most_11
  · have hf := ite_f h hf
    refine r_lload_n hX dX7_most_6 rfl 0 rfl ?_
    refine r_goto hX dX7_most_7 (tgt := 11) (by decide) ?_
    subst hf
    exact r_lret hX dX7_most_11
theorem miX7_most : MI yX7_most cX7_most 4 (some .long) 2 := ⟨g3_234, ⟨by decide, by decide, by decide +kernel⟩, g1_6, by decide +kernel⟩
theorem cX7_most_ok (l : Launch) {w : Wp} {σ : St} {r : Int64} {x0 : Int64} {x2 : Int64}   (hf : fX7_most x0 x2 = r) : CM l w yX7_most cX7_most 4 (some .long) (rmz 0 0) [.long x0, .long x2] σ (Ql w σ r) := CM.of miX7_most.2.2.2 (Nat.le_of_ble_eq_true rfl) (fun X hcl hX => J.sub [0, 1] rfl (wX7_most_b0 hX   hf))
